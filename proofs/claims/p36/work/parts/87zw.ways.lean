/-! MANY: how the class counts -/
noncomputable def wS (g : Nat → Int → Nat) (c t q : Nat → Int) (lim : Int) (left : Nat) (h : Int) : Nat → Nat
  | 0 => 0
  | i + 1 => wS g c t q lim left h i + (if Nat.testBit left i = true ∧ max h (c i) + t i + q i ≤ lim then g (left ^^^ (1 <<< i)) (max h (c i) + t i) else 0)
noncomputable def wn (c t q : Nat → Int) (n : Nat) (lim : Int) : Nat → Nat → Int → Nat
  | 0, left, _ => if left = 0 then 1 else 0
  | d + 1, left, h => if left = 0 then 1 else wS (wn c t q n lim d) c t q lim left h n
def fwZ (z : St) (o : Nat) : Nat → St
  | 0 => z
  | k + 1 => zI (fwZ z o k) o k (-1)
def f55 (a : Nat) : Prop := a = 55 ∨ a = 56
def MEM (z : St) (n : Nat) (c t q : Nat → Int) (lim : Int) : Prop := ∀ s, s < 512 → z.1 55 s = iv (-1) ∨ ∃ (L : Nat) (h : Int), (L < 2 ^ n ∧ 1 ≤ L) ∧ (0 ≤ h ∧ h < 1024) ∧ z.1 55 s = iv ((L : Int) * 1024 + h) ∧ z.1 56 s = iv (wn c t q n lim n L h : Int)
theorem r52_2 : rf 52 2 = 55 := by decide
theorem r52_3 : rf 52 3 = 56 := by decide
section WAYS
variable {z : St} {n : Nat} {c t q : Nat → Int} {lim : Int}
theorem wS_s {g : Nat → Int → Nat} {left : Nat} {h : Int} {i : Nat} : wS g c t q lim left h (i + 1) = wS g c t q lim left h i + (if Nat.testBit left i = true ∧ max h (c i) + t i + q i ≤ lim then g (left ^^^ (1 <<< i)) (max h (c i) + t i) else 0) := rfl
theorem wn_s0 {d left : Nat} {h : Int} : wn c t q n lim (d + 1) left h = if left = 0 then 1 else wS (wn c t q n lim d) c t q lim left h n := rfl
theorem wn_0 {d : Nat} {h : Int} : wn c t q n lim d 0 h = 1 := by
  cases d with
  | zero => rfl
  | succ d => rfl
theorem wS_cong {g g' : Nat → Int → Nat} {left : Nat} {h : Int} : ∀ k, (∀ i, i < k → Nat.testBit left i = true → g (left ^^^ (1 <<< i)) (max h (c i) + t i) = g' (left ^^^ (1 <<< i)) (max h (c i) + t i)) → wS g c t q lim left h k = wS g' c t q lim left h k
  | 0, _ => rfl
  | k + 1, hg => by
    have ih := wS_cong k (fun i hi => hg i (by omega))
    rw [wS_s, wS_s, ih]
    by_cases w : Nat.testBit left k = true ∧ max h (c k) + t k + q k ≤ lim
    · rw [if_pos w, if_pos w, hg k (Nat.lt_succ_self k) w.1]
    · rw [if_neg w, if_neg w]
theorem cb_x {left i : Nat} (hb : Nat.testBit left i = true) (hi : i < n) : cb (Nat.testBit left) n = cb (Nat.testBit (left ^^^ (1 <<< i))) n + 1 := by
  refine cb_up (fun j => ?_) ?_ n hi
  · rw [xor_bit]
    by_cases e : j = i
    · rw [e, hb]
      simp
    · rw [decide_eq_false e]
      simp
  · rw [xor_bit, hb]
    simp
theorem cb_pos {left : Nat} (h : left < 2 ^ n) (h0 : left ≠ 0) : 1 ≤ cb (Nat.testBit left) n := by
  rcases Nat.eq_zero_or_pos (cb (Nat.testBit left) n) with e | e
  · refine absurd (Nat.eq_of_testBit_eq (fun i => ?_)) h0
    rw [Nat.zero_testBit]
    cases hb : Nat.testBit left i
    · rfl
    · have := cb_x hb (tb_lt h hb)
      omega
  · exact e
theorem wn_s (hn : n ≤ 8) : ∀ (d left : Nat) (h : Int), left < 2 ^ n → cb (Nat.testBit left) n ≤ d → wn c t q n lim (d + 1) left h = wn c t q n lim d left h
  | 0, left, h, hl, hc => by
    by_cases e : left = 0
    · rw [e, wn_0, wn_0]
    · have := cb_pos hl e
      omega
  | d + 1, left, h, hl, hc => by
    by_cases e : left = 0
    · rw [e, wn_0, wn_0]
    · rw [wn_s0, wn_s0, if_neg e, if_neg e]
      refine wS_cong n (fun i hi hb => wn_s hn d _ _ ?_ ?_)
      · have := xor_dn left (lt_256 hn hl) i (by omega) hb
        omega
      · have := cb_x hb hi
        omega
theorem wn_n (hn : n ≤ 8) {left : Nat} {h : Int} (hl : left < 2 ^ n) : ∀ (m d : Nat), d + m = n → cb (Nat.testBit left) n ≤ d → wn c t q n lim d left h = wn c t q n lim n left h
  | 0, d, e, _ => by
    have : d = n := by omega
    rw [this]
  | m + 1, d, e, hc => by
    rw [← wn_s hn d left h hl hc]
    exact wn_n hn hl m (d + 1) (by omega) (by omega)
theorem wn_unf (hn : n ≤ 8) {left : Nat} {h : Int} (hl : left < 2 ^ n) (h0 : left ≠ 0) : wn c t q n lim n left h = wS (wn c t q n lim n) c t q lim left h n := by
  have c1 := cb_pos hl h0
  have c2 := cb_le (Nat.testBit left) n
  obtain ⟨m, hm⟩ : ∃ m, n = m + 1 := ⟨n - 1, by omega⟩
  have e : wn c t q n lim (m + 1) left h = wS (wn c t q n lim m) c t q lim left h n := by
    rw [wn_s0, if_neg h0]
  rw [← hm] at e
  rw [e]
  refine wS_cong n (fun i hi hb => wn_n hn ?_ 1 m (by omega) ?_)
  · have := xor_dn left (lt_256 hn hl) i (by omega) hb
    omega
  · have := cb_x hb hi
    omega
theorem wS_pos {g : Nat → Int → Nat} {left : Nat} {h : Int} : ∀ k, wS g c t q lim left h k ≠ 0 → ∃ i, i < k ∧ Nat.testBit left i = true ∧ max h (c i) + t i + q i ≤ lim ∧ g (left ^^^ (1 <<< i)) (max h (c i) + t i) ≠ 0
  | 0, w => absurd rfl w
  | k + 1, w => by
    rw [wS_s] at w
    by_cases e : wS g c t q lim left h k = 0
    · by_cases x : Nat.testBit left k = true ∧ max h (c k) + t k + q k ≤ lim
      · rw [if_pos x] at w
        exact ⟨k, Nat.lt_succ_self k, x.1, x.2, by omega⟩
      · rw [if_neg x] at w
        omega
    · obtain ⟨i, i1, i2⟩ := wS_pos k e
      exact ⟨i, by omega, i2⟩
theorem wn_list : ∀ (d left : Nat) (h : Int), wn c t q n lim d left h ≠ 0 → ∃ l, setl left l ∧ inTm c t q lim h l
  | 0, left, h, w => by
    by_cases e : left = 0
    · rw [e]
      exact ⟨[], setl_0, trivial⟩
    · rw [wn, if_neg e] at w
      exact absurd rfl w
  | d + 1, left, h, w => by
    by_cases e : left = 0
    · rw [e]
      exact ⟨[], setl_0, trivial⟩
    · rw [wn_s0, if_neg e] at w
      obtain ⟨i, i1, i2, i3, i4⟩ := wS_pos n w
      obtain ⟨l, l1, l2⟩ := wn_list d _ _ i4
      exact ⟨i :: l, setl_add i2 l1, i3, l2⟩
theorem wn_none (hB : BD n c t q) (hn : n ≤ 8) (hl : lim ≤ 998) {d left : Nat} {h : Int} (hS : left < 2 ^ n) (h0 : 0 ≤ h ∧ h ≤ 100000) (w : ¬ h ≤ tu c t q n lim left left) : wn c t q n lim d left h = 0 := by
  by_cases e : wn c t q n lim d left h = 0
  · exact e
  · rw [tu_tuB] at w
    exact absurd ((tu_ok hB hn (by omega) hS h0.1 h0.2).mp (wn_list d left h e)) w
theorem WG_fr (h : WG z n c t q lim) {z' : St} (hf : Fr f55 z z') : WG z' n c t q lim := by
  unfold WG at h ⊢
  rw [(hf 52 (by unfold f55; decide)).1, (hf 53 (by unfold f55; decide)).1, (hf 54 (by unfold f55; decide)).1]
  exact h
theorem LD_55 (h : LD z 21 n c t q) {z' : St} (hf : Fr f55 z z') : LD z' 21 n c t q := LD_fr h (fun a ha => by
  have := own_rng (o := 21) (Or.inr (by decide)) ha
  exact (hf a (by unfold f55; omega)).1)
theorem slot_lt (x : Nat) : x &&& 511 < 512 := Nat.lt_of_le_of_lt Nat.and_le_right (by decide)
theorem key_eq {L L' : Nat} {h h' : Int} (h0 : 0 ≤ h ∧ h < 1024) (h1 : 0 ≤ h' ∧ h' < 1024) (e : (L : Int) * 1024 + h = (L' : Int) * 1024 + h') : L = L' ∧ h = h' := by omega
theorem wf_of (hB : BD n c t q) (hl : 0 ≤ lim ∧ lim ≤ 900) : ∀ (D left : Nat) (h : Int) (dep : Nat) (z : St), cb (Nat.testBit left) n < D → cb (Nat.testBit left) n + dep ≤ 8 → left < 2 ^ n → 0 ≤ h → h ≤ 900 → LD z 21 n c t q → WG z n c t q lim → MEM z n c t q lim → ∃ z', f_X5_waysFrom D z 52 21 (iv (left : Int)) (iv h) (iv (dep : Int)) = some (z', iv (wn c t q n lim n left h : Int)) ∧ MEM z' n c t q lim ∧ Fr f55 z z'
  | 0, left, h, dep, z, hc, _, _, _, _, _, _, _ => absurd hc (Nat.not_lt_zero _)
  | D + 1, left, h, dep, z, hc, hd, hS, h0, h1, hL, hW, hM => by
    have hn := hL.2.1
    have S8 := lt_256 hn hS
    have st : f_X5_waysFrom (D + 1) z 52 21 (iv (left : Int)) (iv h) (iv (dep : Int)) = f_X5_waysFrom_0 (f_X5_waysFrom D) z 52 21 (iv (left : Int)) (iv h) (iv (dep : Int)) := rfl
    rw [st]
    unfold f_X5_waysFrom_0
    have l0 : (iv (left : Int) = 0) ↔ left = 0 := by
      rw [n_0, iv_eqk (sm_k (by omega)) 0]
      omega
    by_cases e : left = 0
    · rw [if_pos (l0.mpr e), e, wn_0]
      exact ⟨z, rfl, hM, Fr.refl⟩
    · have cp := cb_pos hS e
      rw [if_neg (fun x => e (l0.mp x))]
      unfold f_X5_waysFrom_6
      rw [n_8, if_neg (fun x => by have := (iv_kle (sm_k (by omega)) 8).mp x; omega)]
      unfold f_X5_waysFrom_13
      have tb := tu_b (lim := lim) hB left left
      rw [tko_of S8 (hW.2.2 left hS).2, Option.bind_some]
      by_cases w : h ≤ tu c t q n lim left left
      · show ∃ z', (if iv h ≤ iv (tu c t q n lim left left) then _ else _) = _ ∧ _
        rw [if_pos ((iv_le ⟨by omega, by omega⟩ ⟨by omega, by omega⟩).mpr w)]
        unfold f_X5_waysFrom_24
        obtain ⟨H, rfl⟩ : ∃ H : Nat, h = H := ⟨h.toNat, by omega⟩
        obtain ⟨sl, hsl⟩ : ∃ sl, sl = (left * 37 + H) &&& 511 := ⟨_, rfl⟩
        have s5 : sl < 512 := by rw [hsl]; exact slot_lt _
        have es : ((iv (left : Int) * 37) + iv (H : Int)) &&& 511 = iv (sl : Int) := by
          rw [show (37 : Int32) = iv 37 by decide, iv_mul, iv_add, show (511 : Int32) = iv ((511 : Nat) : Int) by decide, show (left : Int) * 37 + (H : Int) = ((left * 37 + H : Nat) : Int) by omega, iv_and, hsl]
        have ek : ((iv (left : Int) * 1024) + iv (H : Int)) = iv ((left : Int) * 1024 + (H : Int)) := by
          rw [show (1024 : Int32) = iv 1024 by decide, iv_mul, iv_add]
        have i1 : inb (iv (sl : Int)) 512 = true := inb_k s5 (by decide)
        have i2 : (iv (sl : Int)).toNatClampNeg = sl := iv_natN (by omega)
        have sk : sm ((left : Int) * 1024 + (H : Int)) := ⟨by omega, by omega⟩
        rw [es, ek, if_pos i1, i2, r52_2]
        by_cases g : z.1 55 sl = iv ((left : Int) * 1024 + (H : Int))
        · rw [if_pos g]
          unfold f_X5_waysFrom_57
          rw [if_pos i1, i2, r52_3]
          rcases hM sl s5 with m | ⟨L, h', m1, m2, m3, m4⟩
          · rw [m] at g
            have := (iv_eq (sm_d (-1)) sk).mp g
            omega
          · rw [m3] at g
            have L8 := lt_256 hn m1.1
            have k := (iv_eq ⟨by omega, by omega⟩ sk).mp g
            obtain ⟨k1, k2⟩ := key_eq m2 ⟨by omega, by omega⟩ k
            rw [m4, k1, k2]
            exact ⟨z, rfl, hM, Fr.refl⟩
        · rw [if_neg g]
          unfold f_X5_waysFrom_65
          -- the loop over those who are left
          have lp : ∀ (d k F : Nat) (z1 : St), k + d = n → d < F → MEM z1 n c t q lim → Fr f55 z z1 → ∃ z', f_X5_waysFrom_71 (f_X5_waysFrom D) F z1 52 21 (iv (left : Int)) (iv (H : Int)) (iv (dep : Int)) (iv ((left : Int) * 1024 + (H : Int))) (iv (sl : Int)) (iv (wS (wn c t q n lim n) c t q lim left H k : Int)) (iv (k : Int)) = some (z', iv (wS (wn c t q n lim n) c t q lim left H n : Int)) ∧ MEM z' n c t q lim ∧ Fr f55 z z' := by
            intro d
            induction d with
            | zero =>
              intro k F z1 hk hF M1 f1
              obtain ⟨F, rfl⟩ : ∃ G, F = G + 1 := ⟨F - 1, by omega⟩
              have L1 := LD_55 hL f1
              have ke : k = n := by omega
              rw [ke, f_X5_waysFrom_71, L1.1, if_pos sz_t]
              unfold f_X5_waysFrom_156
              rw [if_pos i1, if_pos i1, i2, r52_2, r52_3]
              refine ⟨_, rfl, fun s hs => ?_, (f1.zI (Or.inl rfl)).zI (Or.inr rfl)⟩
              by_cases x : s = sl
              · refine Or.inr ⟨left, (H : Int), ⟨hS, by omega⟩, ⟨by omega, by omega⟩, ?_, ?_⟩
                · rw [zI_n (by decide), rI, if_pos ⟨rfl, x⟩]
                · rw [rI, if_pos ⟨rfl, x⟩, wn_unf hn hS e]
              · have := M1 s hs
                rw [zI_n (by decide), rI, if_neg (fun y => x y.2), rI, if_neg (fun y => x y.2), zI_n (by decide)]
                exact this
            | succ d ih =>
              intro k F z1 hk hF M1 f1
              obtain ⟨F, rfl⟩ : ∃ G, F = G + 1 := ⟨F - 1, by omega⟩
              have L1 := LD_55 hL f1
              have W1 := WG_fr hW f1
              have kn : k < n := by omega
              have bk := hB k kn
              rw [f_X5_waysFrom_71, L1.1, if_neg (sz_f kn (by omega))]
              unfold f_X5_waysFrom_80
              have ih := ih (k + 1) F
              rw [wS_s] at ih
              by_cases hb : Nat.testBit left k = true
              · have xd := xor_dn left S8 k (by omega) hb
                have cx := cb_x hb kn
                obtain ⟨c1, c2, c3⟩ := ctq_of L1 kn
                obtain ⟨R, hR⟩ : ∃ R, R = left ^^^ (1 <<< k) := ⟨_, rfl⟩
                rw [← hR] at xd cx ih
                have tr := tu_b (lim := lim) hB R R
                have lb := lb_of L1 hB (lim := lim) ⟨hl.1, by omega⟩ W1.2.1 kn (r := R) (by omega) tr (W1.2.2 R (by omega)).2
                have m1 : imax (iv (H : Int)) (iv (c k)) = iv (max (H : Int) (c k)) := iv_max ⟨by omega, by omega⟩ ⟨by omega, by omega⟩
                rw [if_neg (fun x => by rw [(bit_all left S8 k (by omega)).mp x] at hb; exact absurd hb (by decide))]
                unfold f_X5_waysFrom_89
                rw [bit_clr left S8 k (by omega) hb, ← hR, c1, Option.bind_some]
                show ∃ z', ((f_X5_latestBegin z1 52 21 (iv (k : Int)) (iv (R : Int))).bind _) = _ ∧ _
                rw [lb, Option.bind_some]
                show ∃ z', (if iv (min (lim - q k) (tu c t q n lim R R) - t k) < imax (iv (H : Int)) (iv (c k)) then _ else _) = _ ∧ _
                rw [m1]
                by_cases g2 : max (H : Int) (c k) ≤ min (lim - q k) (tu c t q n lim R R) - t k
                · obtain ⟨x1, x2⟩ := nfi1.mp g2
                  rw [if_neg (fun x => by have := (iv_lt ⟨by omega, by omega⟩ ⟨by omega, by omega⟩).mp x; omega)]
                  unfold f_X5_waysFrom_125
                  show ∃ z', ((f_X4_takesOf z1 21 (iv (k : Int))).bind _) = _ ∧ _
                  rw [c2, Option.bind_some]
                  obtain ⟨z2, r1, r2, r3⟩ := wf_of hB hl D R (max (H : Int) (c k) + t k) (dep + 1) z1 (by omega) (by omega) (by omega) (by omega) (by omega) L1 W1 M1
                  show ∃ z', ((f_X5_waysFrom D z1 52 21 (iv (R : Int)) (iv (max (H : Int) (c k)) + iv (t k)) (iv (dep : Int) + 1)).bind _) = _ ∧ _
                  rw [iv_add, iv_s, r1, Option.bind_some]
                  unfold f_X5_waysFrom_150
                  show ∃ z', f_X5_waysFrom_71 (f_X5_waysFrom D) F z2 52 21 _ _ _ _ _ (iv (wS (wn c t q n lim n) c t q lim left H k : Int) + iv (wn c t q n lim n R (max (H : Int) (c k) + t k) : Int)) (iv (k : Int) + 1) = _ ∧ _
                  rw [if_pos ⟨hb, x1⟩] at ih
                  rw [iv_add, iv_s]
                  exact ih z2 (by omega) (by omega) r2 (f1.trans r3)
                · rw [if_pos ((iv_lt ⟨by omega, by omega⟩ ⟨by omega, by omega⟩).mpr (by omega))]
                  unfold f_X5_waysFrom_150
                  have z0 : (if Nat.testBit left k = true ∧ max (H : Int) (c k) + t k + q k ≤ lim then wn c t q n lim n R (max (H : Int) (c k) + t k) else 0) = 0 := by
                    by_cases x : Nat.testBit left k = true ∧ max (H : Int) (c k) + t k + q k ≤ lim
                    · rw [if_pos x]
                      exact wn_none hB hn (by omega) (by omega) ⟨by omega, by omega⟩ (fun y => g2 (nfi1.mpr ⟨x.2, y⟩))
                    · rw [if_neg x]
                  rw [z0, Nat.add_zero] at ih
                  rw [iv_s]
                  exact ih z1 (by omega) (by omega) M1 f1
              · rw [if_pos ((bit_all left S8 k (by omega)).mpr (by cases h : Nat.testBit left k; rfl; exact absurd h hb))]
                unfold f_X5_waysFrom_150
                rw [if_neg (fun x => hb x.1), Nat.add_zero] at ih
                rw [iv_s]
                exact ih z1 (by omega) (by omega) M1 f1
          rw [wn_unf hn hS e]
          exact lp n 0 FU z (by omega) (FU_8 (by omega)) hM Fr.refl
      · show ∃ z', (if iv h ≤ iv (tu c t q n lim left left) then _ else _) = _ ∧ _
        rw [if_neg (fun x => w ((iv_le ⟨by omega, by omega⟩ ⟨by omega, by omega⟩).mp x)), wn_none hB hn (by omega) hS ⟨h0, by omega⟩ w]
        exact ⟨z, rfl, hM, Fr.refl⟩
theorem fwZ_r : ∀ k i, i < k → (fwZ z 55 k).1 55 i = iv (-1)
  | 0, i, h => absurd h (Nat.not_lt_zero _)
  | k + 1, i, h => by
    unfold fwZ
    rw [rI]
    by_cases e : i = k
    · rw [if_pos ⟨rfl, e⟩]
      exact n_m1
    · rw [if_neg (fun w => e w.2)]
      exact fwZ_r k i (by omega)
theorem fwZ_fr : ∀ k, Fr f55 z (fwZ z 55 k)
  | 0 => Fr.refl
  | k + 1 => (fwZ_fr k).zI (Or.inl rfl)
theorem fw_lp (z : St) (o m : Nat) (hm : m = 512) (v w : Int32) (hv : v = -1) (hw : w = iv 512) : ∀ (d k F : Nat), k + d = m → d < F → f_J7_fill_53178_5 F (fwZ z o k) o v (iv (k : Int)) w = some (fwZ z o m)
  | 0, k, 0, _, h => absurd h (Nat.lt_irrefl 0)
  | d + 1, k, 0, _, h => absurd h (Nat.not_lt_zero _)
  | 0, k, F + 1, h1, h2 => by
    have e : k = m := by omega
    rw [e, f_J7_fill_53178_5, hw, if_pos ((iv_kle (sm_k (by omega)) 512).mpr (by omega))]
    rfl
  | d + 1, k, F + 1, h1, h2 => by
    have ih := fw_lp z o m hm v w hv hw d (k + 1) F (by omega) (by omega)
    rw [f_J7_fill_53178_5, hw, if_neg (fun x => by
      have := (iv_kle (sm_k (show k < 2147483648 by omega)) 512).mp x
      omega), ← hw]
    unfold f_J7_fill_53178_10
    rw [inb_k (by omega) (by decide), if_pos rfl, iv_natN (by omega), iv_s]
    rw [fwZ, ← hv] at ih
    exact ih
theorem fw_of (z : St) (o : Nat) : f_J7_fill_53178 z o (-1) = some (fwZ z o 512) := by
  unfold f_J7_fill_53178 f_J7_fill_53178_0
  exact fw_lp z o 512 rfl (-1) 512 rfl (by decide) 512 0 FU (by omega) (FU_8 (by decide))
theorem ways_of (hL : LD z 21 n c t q) (hB : BD n c t q) (hl : 0 ≤ lim ∧ lim ≤ 900) (hW : WG z n c t q lim) : ∃ z', f_X5_ways z 52 21 = some (z', iv (wn c t q n lim n (2 ^ n - 1) 0 : Int)) ∧ Fr f55 z z' := by
  have hn := hL.2.1
  have f1 : Fr f55 z (fwZ z 55 512) := fwZ_fr 512
  have W1 := WG_fr hW f1
  have p := Nat.two_pow_pos n
  have cb1 := cb_le (Nat.testBit (2 ^ n - 1)) n
  obtain ⟨z', r1, r2, r3⟩ := wf_of hB hl 10 (2 ^ n - 1) 0 0 (fwZ z 55 512) (by omega) (by omega) (by omega) (Int.le_refl _) (by decide) (LD_55 hL f1) W1 (fun s hs => Or.inl (fwZ_r 512 s hs))
  refine ⟨z', ?_, f1.trans r3⟩
  unfold f_X5_ways f_X5_ways_0
  rw [r52_2, fw_of, Option.bind_some, W1.1]
  have r1 : f_X5_waysFrom 10 (fwZ z 55 512) 52 21 (iv ((2 ^ n - 1 : Nat) : Int)) 0 0 = some (z', iv (wn c t q n lim n (2 ^ n - 1) 0 : Int)) := r1
  rw [r1, Option.bind_some]
end WAYS
