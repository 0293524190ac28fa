/-! CHANCE -/
noncomputable def chH (c t q : Nat → Int) (n : Nat) (sd : Int32) (N fi : Int) : Nat → Nat
  | 0 => 0
  | k + 1 => if (gr (dc c N (sd + iv (k : Int)) n) t q n n).2.2.2.2.2.2.1 ≤ fi then chH c t q n sd N fi k + 1 else chH c t q n sd N fi k
theorem chH_le {c t q : Nat → Int} {n : Nat} {sd : Int32} {N fi : Int} : ∀ k, chH c t q n sd N fi k ≤ k
  | 0 => Nat.le_refl _
  | k + 1 => by
    have := chH_le (c := c) (t := t) (q := q) (n := n) (sd := sd) (N := N) (fi := fi) k
    unfold chH
    split <;> omega
theorem chH_s {c t q : Nat → Int} {n : Nat} {sd : Int32} {N fi : Int} {k : Nat} : chH c t q n sd N fi (k + 1) = if (gr (dc c N (sd + iv (k : Int)) n) t q n n).2.2.2.2.2.2.1 ≤ fi then chH c t q n sd N fi k + 1 else chH c t q n sd N fi k := rfl
section CHANCE2
variable {z z1 z2 : St} {y : Sy} {n o u : Nat} {c t q : Nat → Int} {v : Nat → Nat → Int}
theorem ch115 {m p h : Nat} (h1 : 1 ≤ m) (h2 : m < 9) (h3 : h ≤ m) (hp : p < 2) : f_X10_chance_115 z (iv (m : Int)) (iv (p : Int)) (iv (h : Int)) = some (z, iv (chR m p h : Int)) := by
  obtain ⟨M, hM⟩ := FU_9
  have e := chf_c M z m h1 h2 h h3 p hp
  unfold f_X10_chance_115 f_X10_chance_120 f_X10_chance_125 f_X10_chance_126
  rw [hM]
  rcases (show p = 0 ∨ p = 1 by omega) with rfl | rfl
  · rw [if_pos (by decide)]
    exact e
  · rw [if_neg (by decide)]
    exact e
theorem ch91 {m p h : Nat} (h1 : 1 ≤ m) (h2 : m < 9) (h3 : h ≤ m) (hp : p < 2) : f_X11_chance_91 z (iv (m : Int)) (iv (p : Int)) (iv (h : Int)) = some (z, iv (chR m p h : Int)) := by
  obtain ⟨M, hM⟩ := FU_9
  have e := chf_m M z m h1 h2 h h3
  have gp : 0 < Nat.gcd h m := Nat.gcd_pos_of_pos_right h (by omega)
  have gl : Nat.gcd h m ≤ m := Nat.le_of_dvd (by omega) (Nat.gcd_dvd_right h m)
  unfold f_X11_chance_91 f_X11_divisor f_X11_divisor_0 f_X11_chance_104 f_X11_chance_112 f_X11_chance_116
  rw [hM, e, Option.bind_some]
  have nz : decide (iv (Nat.gcd h m : Int) ≠ 0) = true := by
    rw [decide_eq_true_eq, n_0]
    exact fun x => by have := (iv_eqk (sm_k (by omega)) 0).mp x; omega
  rcases (show p = 0 ∨ p = 1 by omega) with rfl | rfl
  · rw [if_pos (by decide)]
    show (if decide (iv (Nat.gcd h m : Int) ≠ 0) = true then some (z, iv (h : Int) / iv (Nat.gcd h m : Int)) else none) = _
    rw [nz, if_pos rfl, iv_div (by omega) (by omega)]
    rfl
  · rw [if_neg (by decide)]
    show (if decide (iv (Nat.gcd h m : Int) ≠ 0) = true then some (z, iv (m : Int) / iv (Nat.gcd h m : Int)) else none) = _
    rw [nz, if_pos rfl, iv_div (by omega) (by omega)]
    rfl
theorem ch_c (hB : BD n c t q) (hc : ∀ j, j < n → c j ≤ 130) {m p : Nat} (h1 : 1 ≤ m) (h2 : m < 9) (hp : p < 2) {N fi : Int} (hN : 0 ≤ N ∧ N ≤ 30) (hf : 0 ≤ fi ∧ fi ≤ 999) {sd : Int32} : ∀ (d k F : Nat) (z : St), k + d = m → d < F → LD z 21 n c t q → ∃ z', f_X10_chance_54 F z 0 sd (iv (m : Int)) (iv N) (iv fi) (iv (p : Int)) (iv (chH c t q n sd N fi k : Int)) (iv (k : Int)) = some (z', iv (chR m p (chH c t q n sd N fi m) : Int)) ∧ Fr sC z z'
  | d, k, 0, z, _, hF, _ => absurd hF (Nat.not_lt_zero _)
  | 0, k, F + 1, z, e, _, hL => by
    have e : k = m := e
    subst e
    refine ⟨z, ?_, Fr.refl⟩
    rw [f_X10_chance_54, if_pos sz_t]
    exact ch115 h1 h2 (chH_le k) hp
  | d + 1, k, F + 1, z, e, hF, hL => by
    have h8 := hL.2.1
    have kl := chH_le (c := c) (t := t) (q := q) (n := n) (sd := sd) (N := N) (fi := fi) k
    obtain ⟨z1, z2, e1, e2, e3, e4⟩ := drc_of hL hN (sd := sd + iv (k : Int))
    have hB' : BD n (dc c N (sd + iv (k : Int)) n) t q := dc_BD hB hc hN
    have hY := lgZ_LY (z := z2) (o := 29) (by decide) hB' h8 n (Nat.le_refl _)
    have f3 : Fr sC z (lgZ (dc c N (sd + iv (k : Int)) n) t q z2 29 n n) := (e4.mono (fun a e => by unfold sC; omega)).trans lgZ_sC
    have hL' : LD (lgZ (dc c N (sd + iv (k : Int)) n) t q z2 29 n n) 21 n c t q := LD_fr hL (fun a ha => (f3 a (by have := own_rng (o := 21) (Or.inr (by decide)) ha; unfold sC; omega)).1)
    obtain ⟨z4, q1, q2⟩ := ch_c hB hc h1 h2 hp hN hf d (k + 1) F _ (by omega) (by omega) hL'
    refine ⟨z4, ?_, f3.trans q2⟩
    rw [f_X10_chance_54, if_neg (sz_f (by omega) (by omega))]
    unfold f_X10_chance_60 f_X10_chance_106 f_X10_chance_109
    rw [r0_4, r0_5, r0_6, e1, Option.bind_some, e2, Option.bind_some, lg_of (o := 29) (u := 25) (by decide) (by decide) e3 hB', Option.bind_some, hY.1.2.2.2.1]
    have il := iv_lt (x := fi) (y := (gr (dc c N (sd + iv (k : Int)) n) t q n n).2.2.2.2.2.2.1) ⟨by omega, by omega⟩ (gr_fin_b hB' h8)
    simp only [il]
    rw [chH_s] at q1
    by_cases g : (gr (dc c N (sd + iv (k : Int)) n) t q n n).2.2.2.2.2.2.1 ≤ fi
    · rw [if_neg (by omega), iv_s, iv_s]
      rw [if_pos g] at q1
      exact q1
    · rw [if_pos (by omega), iv_s]
      rw [if_neg g] at q1
      exact q1
theorem ch_m (hV : JV n v) {m p : Nat} (h1 : 1 ≤ m) (h2 : m < 9) (hp : p < 2) {N fi : Int} (hN : 0 ≤ N ∧ N ≤ 30) (hf : 0 ≤ fi ∧ fi ≤ 999) {sd : Int32} : ∀ (d k F : Nat) (z : St), k + d = m → d < F → MJ z n v → ∃ z', f_X11_chance_51 F z 68 sd (iv (m : Int)) (iv N) (iv fi) (iv (p : Int)) (iv (chH (cmO v) (tkO v) (clO v) n sd N fi k : Int)) (iv (k : Int)) = some (z', iv (chR m p (chH (cmO v) (tkO v) (clO v) n sd N fi m) : Int)) ∧ Fr (fun a => sM a ∨ a = 68) z z' ∧ ∀ k, k68 k → z'.1 68 k = z.1 68 k
  | d, k, 0, z, _, hF, _ => absurd hF (Nat.not_lt_zero _)
  | 0, k, F + 1, z, e, _, hJ => by
    have e : k = m := e
    subst e
    refine ⟨z, ?_, Fr.refl, fun _ _ => rfl⟩
    rw [f_X11_chance_51, if_pos sz_t]
    exact ch91 h1 h2 (chH_le k) hp
  | d + 1, k, F + 1, z, e, hF, hJ => by
    have h8 := hJ.2.1
    have hB := BD_O hV
    have kl := chH_le (c := cmO v) (t := tkO v) (q := clO v) (n := n) (sd := sd) (N := N) (fi := fi) k
    obtain ⟨z2, e2, e3, e4⟩ := drs_of hJ hV hN (sd := sd + iv (k : Int))
    have hB' : BD n (dc (cmO v) N (sd + iv (k : Int)) n) (tkO v) (clO v) := dc_BD hB (fun j hj => (O_b hV j hj).1) hN
    have mg := mg_of e3 hB'
    have f3 : Fr (fun a => sM a ∨ a = 68) z (zI (mgZ (dc (cmO v) N (sd + iv (k : Int)) n) (tkO v) (clO v) z2 n n) 68 19 (iv (gr (dc (cmO v) N (sd + iv (k : Int)) n) (tkO v) (clO v) n n).2.2.2.2.2.1)) := ((sM_75 e4).trans ((mgZ_fr n).mono (fun a e => Or.inl (by unfold sM; omega)))).zI (Or.inr rfl)
    have k3 : ∀ k', k68 k' → (zI (mgZ (dc (cmO v) N (sd + iv (k : Int)) n) (tkO v) (clO v) z2 n n) 68 19 (iv (gr (dc (cmO v) N (sd + iv (k : Int)) n) (tkO v) (clO v) n n).2.2.2.2.2.1)).1 68 k' = z.1 68 k' := fun k' hk => by
      rw [rI, if_neg (by unfold k68 at hk; omega), (mgZ_fr n 68 (by decide)).1]
      exact k68_75 e4 k' hk
    have hJ' : MJ (zI (mgZ (dc (cmO v) N (sd + iv (k : Int)) n) (tkO v) (clO v) z2 n n) 68 19 (iv (gr (dc (cmO v) N (sd + iv (k : Int)) n) (tkO v) (clO v) n n).2.2.2.2.2.1)) n v := MJ_fr hJ (k3 5 (Or.inl rfl)) (fun a h1 h2 => (f3 a (by unfold sM; omega)).1)
    obtain ⟨z4, q1, q2, q3⟩ := ch_m hV h1 h2 hp hN hf d (k + 1) F _ (by omega) (by omega) hJ'
    refine ⟨z4, ?_, f3.trans q2, fun k' hk => (q3 k' hk).trans (k3 k' hk)⟩
    rw [f_X11_chance_51, if_neg (sz_f (by omega) (by omega))]
    unfold f_X11_chance_57 f_X11_chance_77 f_X11_chance_81 f_X11_chance_82
    rw [e2, Option.bind_some, mg, Option.bind_some]
    have il := iv_lt (x := fi) (y := (gr (dc (cmO v) N (sd + iv (k : Int)) n) (tkO v) (clO v) n n).2.2.2.2.2.2.1) ⟨by omega, by omega⟩ (gr_fin_b hB' h8)
    simp only [il]
    rw [chH_s] at q1
    by_cases g : (gr (dc (cmO v) N (sd + iv (k : Int)) n) (tkO v) (clO v) n n).2.2.2.2.2.2.1 ≤ fi
    · rw [if_neg (by omega), iv_s, iv_s]
      rw [if_pos g] at q1
      exact q1
    · rw [if_pos (by omega), iv_s, Int32.add_zero]
      rw [if_neg g] at q1
      exact q1
theorem s_chance (h : INV z y) (sd a b e f : Int32) : Both (f_X10_chance z 0 sd a b e f) (fun z => f_X11_chance z 68 sd a b e f) := by
  obtain ⟨m, sm1, rfl⟩ := ex_iv a
  obtain ⟨N, sN, rfl⟩ := ex_iv b
  obtain ⟨fi, sf, rfl⟩ := ex_iv e
  obtain ⟨p, sp, rfl⟩ := ex_iv f
  have cin : ∀ zz : St, f_X11_chance zz 68 sd (iv m) (iv N) (iv fi) (iv p) = if (1 ≤ m ∧ m ≤ 8) ∧ (0 ≤ N ∧ N ≤ 30) ∧ (0 ≤ fi ∧ fi ≤ 999) ∧ (0 ≤ p ∧ p ≤ 1) then f_X11_chance_45 zz 68 sd (iv m) (iv N) (iv fi) (iv p) else some (zz, iv (-2)) := fun zz => by
    unfold f_X11_chance f_X11_chance_0 f_X11_chance_10 f_X11_chance_20 f_X11_chance_32 f_X11_chance_42
    have q1 : f_X11_in zz (iv m) 1 8 = some (zz, ob (1 ≤ m ∧ m ≤ 8)) := by
      rw [n_1, n_8]
      exact in_ob sm1 (sm_d 1) (sm_d 8)
    have q2 : f_X11_in zz (iv N) 0 30 = some (zz, ob (0 ≤ N ∧ N ≤ 30)) := by
      rw [n_0, show (30 : Int32) = iv 30 by decide]
      exact in_ob sN (sm_d 0) (sm_d 30)
    have q3 : f_X11_in zz (iv fi) 0 999 = some (zz, ob (0 ≤ fi ∧ fi ≤ 999)) := by
      rw [n_0, show (999 : Int32) = iv 999 by decide]
      exact in_ob sf (sm_d 0) (sm_d 999)
    have q4 : f_X11_in zz (iv p) 0 1 = some (zz, ob (0 ≤ p ∧ p ≤ 1)) := by
      rw [n_0, n_1]
      exact in_ob sp (sm_d 0) (sm_d 1)
    rw [q1, Option.bind_some]
    simp only [q2, q3, q4, Option.bind_some, ob_0, n_m2]
    by_cases g1 : 1 ≤ m ∧ m ≤ 8
    · by_cases g2 : 0 ≤ N ∧ N ≤ 30
      · by_cases g3 : 0 ≤ fi ∧ fi ≤ 999
        · by_cases g4 : 0 ≤ p ∧ p ≤ 1
          · rw [if_neg (fun x => x g1), if_neg (fun x => x g2), if_neg (fun x => x g3), if_neg (fun x => x g4), if_pos ⟨g1, g2, g3, g4⟩]
          · rw [if_neg (fun x => x g1), if_neg (fun x => x g2), if_neg (fun x => x g3), if_pos g4, if_neg (fun x => g4 x.2.2.2)]
        · rw [if_neg (fun x => x g1), if_neg (fun x => x g2), if_pos g3, if_neg (fun x => g3 x.2.2.1)]
      · rw [if_neg (fun x => x g1), if_pos g2, if_neg (fun x => g2 x.2.1)]
    · rw [if_pos g1, if_neg (fun x => g1 x.1)]
  have ccn : f_X10_chance z 0 sd (iv m) (iv N) (iv fi) (iv p) = if (1 ≤ m ∧ m ≤ 8) ∧ (0 ≤ N ∧ N ≤ 30) ∧ (0 ≤ fi ∧ fi ≤ 999) ∧ (0 ≤ p ∧ p ≤ 1) then f_X10_chance_48 z 0 sd (iv m) (iv N) (iv fi) (iv p) else some (z, iv (-2)) := by
    unfold f_X10_chance f_X10_chance_0 f_X10_chance_5 f_X10_chance_11 f_X10_chance_15 f_X10_chance_21 f_X10_chance_26 f_X10_chance_34 f_X10_chance_39 f_X10_chance_45
    rw [n_m2, n_1, show (8 : Int32) = iv 8 by decide, show (30 : Int32) = iv 30 by decide, show (999 : Int32) = iv 999 by decide]
    simp only [iv_ltk sm1 1, iv_klt sm1 8, iv_lt0 sN, iv_klt sN 30, iv_lt0 sf, iv_klt sf 999, iv_lt0 sp, iv_lek sp 1]
    by_cases g1 : 1 ≤ m ∧ m ≤ 8
    · rw [if_neg (by omega), if_neg (by omega)]
      by_cases g2 : 0 ≤ N ∧ N ≤ 30
      · rw [if_neg (by omega), if_neg (by omega)]
        by_cases g3 : 0 ≤ fi ∧ fi ≤ 999
        · rw [if_neg (by omega), if_neg (by omega)]
          by_cases g4 : 0 ≤ p ∧ p ≤ 1
          · rw [if_neg (by omega), if_pos g4.2, if_pos ⟨g1, g2, g3, g4⟩]
          · rw [if_neg (show ¬ ((1 ≤ m ∧ m ≤ 8) ∧ (0 ≤ N ∧ N ≤ 30) ∧ (0 ≤ fi ∧ fi ≤ 999) ∧ (0 ≤ p ∧ p ≤ 1)) from fun x => g4 x.2.2.2)]
            by_cases p0 : p < 0
            · rw [if_pos p0]
            · rw [if_neg p0, if_neg (by omega)]
        · rw [if_neg (show ¬ ((1 ≤ m ∧ m ≤ 8) ∧ (0 ≤ N ∧ N ≤ 30) ∧ (0 ≤ fi ∧ fi ≤ 999) ∧ (0 ≤ p ∧ p ≤ 1)) from fun x => g3 x.2.2.1)]
          by_cases p0 : fi < 0
          · rw [if_pos p0]
          · rw [if_neg p0, if_pos (by omega)]
      · rw [if_neg (show ¬ ((1 ≤ m ∧ m ≤ 8) ∧ (0 ≤ N ∧ N ≤ 30) ∧ (0 ≤ fi ∧ fi ≤ 999) ∧ (0 ≤ p ∧ p ≤ 1)) from fun x => g2 x.2.1)]
        by_cases p0 : N < 0
        · rw [if_pos p0]
        · rw [if_neg p0, if_pos (by omega)]
    · rw [if_neg (show ¬ ((1 ≤ m ∧ m ≤ 8) ∧ (0 ≤ N ∧ N ≤ 30) ∧ (0 ≤ fi ∧ fi ≤ 999) ∧ (0 ≤ p ∧ p ≤ 1)) from fun x => g1 x.1)]
      by_cases p0 : m < 1
      · rw [if_pos p0]
      · rw [if_neg p0, if_pos (by omega)]
  by_cases g : (1 ≤ m ∧ m ≤ 8) ∧ (0 ≤ N ∧ N ≤ 30) ∧ (0 ≤ fi ∧ fi ≤ 999) ∧ (0 ≤ p ∧ p ≤ 1)
  · obtain ⟨g1, g2, g3, g4⟩ := g
    obtain ⟨mm, rfl⟩ : ∃ k : Nat, m = k := ⟨m.toNat, by omega⟩
    obtain ⟨pp, rfl⟩ : ∃ k : Nat, p = k := ⟨p.toNat, by omega⟩
    obtain ⟨z1, e1, e2⟩ := ch_c (BD_O h.2.2.1) (fun j hj => (O_b h.2.2.1 j hj).1) (m := mm) (p := pp) (by omega) (by omega) (by omega) g2 g3 (sd := sd) mm 0 FU z (by omega) (FU_8 (by omega)) h.1.2.1
    obtain ⟨z2, m1, m2, m3⟩ := ch_m h.2.2.1 (m := mm) (p := pp) (by omega) (by omega) (by omega) g2 g3 (sd := sd) mm 0 FU z1 (by omega) (FU_8 (by omega)) (XM_sC h e2).1
    refine Both_r h (z1 := z1) (z2 := z2) (r := iv (chR mm pp (chH (cmO y.2.1) (tkO y.2.1) (clO y.2.1) y.1 sd N fi mm) : Int)) ?_ e2 ?_ m2 m3
    · rw [ccn, if_pos ⟨g1, g2, g3, g4⟩]
      exact e1
    · show f_X11_chance z1 68 _ _ _ _ _ = _
      rw [cin, if_pos ⟨g1, g2, g3, g4⟩]
      exact m1
  · refine Both_s h (r := iv (-2)) ?_ ?_
    · rw [ccn, if_neg g]
    · show f_X11_chance z 68 _ _ _ _ _ = _
      rw [cin, if_neg g]
end CHANCE2
