/-! GAIN -/
def sk (a j : Nat) : Nat := if j < a then j else j + 1
def skd (a j : Nat) : Nat := if j < a then j else j - 1
def mid (a k : Nat) (f : Nat → Int) (j : Nat) : Int := if a ≤ j ∧ j < k then f (j + 1) else f j
section GAIN
variable {z : St} {n : Nat} {c t q : Nat → Int} {lim F : Int} {a : Nat} {sy : Sy}
theorem mid_s {f : Nat → Int} {k : Nat} (h : a ≤ k) : up (mid a k f) k (mid a k f (k + 1)) = mid a (k + 1) f := by
  funext j
  unfold up mid
  by_cases e : j = k
  · rw [if_pos e, if_neg (by omega), e, if_pos ⟨h, by omega⟩]
  · rw [if_neg e]
    by_cases w : a ≤ j ∧ j < k
    · rw [if_pos w, if_pos ⟨w.1, by omega⟩]
    · rw [if_neg w, if_neg (by omega)]
theorem mid_0 {f : Nat → Int} : mid a a f = f := by
  funext j
  unfold mid
  rw [if_neg (by omega)]
theorem r25_0 : rf 25 0 = 26 := by decide
theorem r25_1 : rf 25 1 = 27 := by decide
theorem r25_2 : rf 25 2 = 28 := by decide
def f25 (a : Nat) : Prop := 25 ≤ a ∧ a ≤ 28
theorem lo_step (hL : LD z 25 n c t q) {k : Nat} (hk : k + 1 < n) : ∃ z', (∀ (K : St → Nat → Int32 → Option St), f_X4_leaveOut_21 K z 25 (iv (k : Int)) = K z' 25 (iv ((k + 1 : Nat) : Int))) ∧ LD z' 25 n (up c k (c (k + 1))) (up t k (t (k + 1))) (up q k (q (k + 1))) ∧ Fr f25 z z' := by
  have h8 := hL.2.1
  obtain ⟨a1, a2, a3⟩ := hL.2.2 (k + 1) hk
  rw [r25_0] at a1
  rw [r25_1] at a2
  rw [r25_2] at a3
  have i1 : inb (iv (k : Int)) 8 = true := inb_k (by omega) (by decide)
  have i2 : (iv (k : Int)).toNatClampNeg = k := iv_natN (by omega)
  have j1 : inb (iv ((k + 1 : Nat) : Int)) 8 = true := inb_k (by omega) (by decide)
  have j2 : (iv ((k + 1 : Nat) : Int)).toNatClampNeg = k + 1 := iv_natN (by omega)
  refine ⟨zI (zI (zI z 26 k (iv (c (k + 1)))) 27 k (iv (t (k + 1)))) 28 k (iv (q (k + 1))), fun K => ?_, ⟨?_, h8, fun j hj => ?_⟩, ((Fr.refl.zI (P := f25) ⟨by decide, by decide⟩).zI ⟨by decide, by decide⟩).zI ⟨by decide, by decide⟩⟩
  · unfold f_X4_leaveOut_21 f_X4_leaveOut_27
    rw [show (7 : Int32) = iv 7 by decide, if_neg (fun e => by have := (iv_kle (sm_k (show k < 2147483648 by omega)) 7).mp e; omega), iv_s, if_pos j1, if_pos i1, if_pos j1, if_pos i1, if_pos j1, if_pos i1, i2, j2, r25_0, r25_1, r25_2, a1, zI_n (by decide), a2, zI_n (by decide), zI_n (by decide), a3]
  · rw [zI_n (by decide), zI_n (by decide), zI_n (by decide)]
    exact hL.1
  · obtain ⟨b1, b2, b3⟩ := hL.2.2 j hj
    rw [r25_0] at b1
    rw [r25_1] at b2
    rw [r25_2] at b3
    rw [r25_0, r25_1, r25_2]
    refine ⟨?_, ?_, ?_⟩
    · rw [zI_n (by decide), zI_n (by decide), rI]
      by_cases e : j = k
      · rw [if_pos ⟨rfl, e⟩, e, up_eq]
      · rw [if_neg (fun w => e w.2), up_ne e, b1]
    · rw [zI_n (by decide), rI]
      by_cases e : j = k
      · rw [if_pos ⟨rfl, e⟩, e, up_eq]
      · rw [if_neg (fun w => e w.2), up_ne e, zI_n (by decide), b2]
    · rw [rI]
      by_cases e : j = k
      · rw [if_pos ⟨rfl, e⟩, e, up_eq]
      · rw [if_neg (fun w => e w.2), up_ne e, zI_n (by decide), zI_n (by decide), b3]
theorem lv_of (hL : LD z 25 n c t q) (ha : a < n) : ∃ z', f_X4_leaveOut z 25 (iv (a : Int)) = some z' ∧ LD z' 25 (n - 1) (fun j => c (sk a j)) (fun j => t (sk a j)) (fun j => q (sk a j)) ∧ Fr f25 z z' := by
  have h8 := hL.2.1
  have lp : ∀ (d k F : Nat) (z1 : St), k + d = n - 1 → a ≤ k → d < F → LD z1 25 n (mid a k c) (mid a k t) (mid a k q) → Fr f25 z z1 → ∃ z', f_X4_leaveOut_11 F z1 25 (iv (k : Int)) = some z' ∧ LD z' 25 (n - 1) (fun j => c (sk a j)) (fun j => t (sk a j)) (fun j => q (sk a j)) ∧ Fr f25 z z' := by
    intro d
    induction d with
    | zero =>
      intro k F z1 hk ak hF l1 f1
      obtain ⟨F, rfl⟩ : ∃ G, F = G + 1 := ⟨F - 1, by omega⟩
      have e1 : z1.1 25 3 - 1 = iv ((n - 1 : Nat) : Int) := by
        rw [l1.1, n_1, iv_sub]
        congr 1
        omega
      refine ⟨zI z1 25 3 (iv ((n - 1 : Nat) : Int)), ?_, ⟨?_, by omega, fun j hj => ?_⟩, f1.zI ⟨by decide, by decide⟩⟩
      · rw [f_X4_leaveOut_11, e1, if_pos ((iv_le (sm_k (by omega)) (sm_k (by omega))).mpr (by omega))]
        unfold f_X4_leaveOut_75
        rw [e1]
      · rw [rI, if_pos ⟨rfl, rfl⟩]
      · have m := l1.2.2 j (by omega)
        have e : ∀ f : Nat → Int, mid a k f j = f (sk a j) := fun f => by
          unfold mid sk
          by_cases w : j < a
          · rw [if_neg (by omega), if_pos w]
          · rw [if_pos ⟨by omega, by omega⟩, if_neg w]
        rw [e, e, e] at m
        obtain ⟨own1, own2, own3⟩ := own_n 25 (by decide) (Or.inr (by decide))
        rw [zI_n (by rw [own1]; decide), zI_n (by rw [own2]; decide), zI_n (by rw [own3]; decide)]
        exact m
    | succ d ih =>
      intro k F z1 hk ak hF l1 f1
      obtain ⟨F, rfl⟩ : ∃ G, F = G + 1 := ⟨F - 1, by omega⟩
      have e1 : z1.1 25 3 - 1 = iv ((n - 1 : Nat) : Int) := by
        rw [l1.1, n_1, iv_sub]
        congr 1
        omega
      obtain ⟨z2, s1, s2, s3⟩ := lo_step l1 (k := k) (by omega)
      rw [mid_s ak, mid_s ak, mid_s ak] at s2
      rw [f_X4_leaveOut_11, e1, if_neg (fun e => by have := (iv_le (sm_k (by omega)) (sm_k (by omega))).mp e; omega), s1]
      exact ih (k + 1) F z2 (by omega) (by omega) (by omega) s2 (f1.trans s3)
  unfold f_X4_leaveOut f_X4_leaveOut_0
  rw [holds_of hL (sm_k (by omega)), Option.bind_some]
  obtain ⟨z', g1, g2, g3⟩ := lp (n - 1 - a) a FU z (by omega) (Nat.le_refl _) (FU_8 (by omega)) (by rw [mid_0, mid_0, mid_0]; exact hL) Fr.refl
  refine ⟨z', ?_, g2, g3⟩
  show (if ob (0 ≤ (a : Int) ∧ (a : Int) < (n : Int)) = 0 then _ else _) = _
  rw [if_neg (fun e => ob_0.mp e ⟨by omega, by omega⟩)]
  exact g1
theorem inTm_map {e : Nat → Nat} : ∀ (l : List Nat) (h : Int), inTm (fun j => c (e j)) (fun j => t (e j)) (fun j => q (e j)) F h l ↔ inTm c t q F h (l.map e)
  | [], h => Iff.rfl
  | j :: l, h => by
    have ih := inTm_map l (max h (c (e j)) + t (e j)) (e := e)
    show (max h (c (e j)) + t (e j) + q (e j) ≤ F ∧ inTm _ _ _ F (max h (c (e j)) + t (e j)) l) ↔ (max h (c (e j)) + t (e j) + q (e j) ≤ F ∧ inTm c t q F (max h (c (e j)) + t (e j)) (l.map e))
    rw [ih]
theorem sk_ne {j : Nat} : sk a j ≠ a := by
  unfold sk
  split <;> omega
theorem sk_inj {i j : Nat} (h : sk a i = sk a j) : i = j := by
  unfold sk at h
  split at h <;> split at h <;> omega
theorem nodup_map {e : Nat → Nat} : ∀ l : List Nat, l.Nodup → (∀ i j, i ∈ l → j ∈ l → e i = e j → i = j) → (l.map e).Nodup
  | [], _, _ => List.nodup_nil
  | x :: l, h, hi => by
    have nd := List.nodup_cons.mp h
    rw [List.map_cons]
    refine List.nodup_cons.mpr ⟨fun w => ?_, nodup_map l nd.2 (fun i j h1 h2 => hi i j (List.mem_cons_of_mem _ h1) (List.mem_cons_of_mem _ h2))⟩
    obtain ⟨y, y1, y2⟩ := List.mem_map.mp w
    have := hi y x (List.mem_cons_of_mem _ y1) (List.mem_cons_self ..) y2
    rw [this] at y1
    exact nd.1 y1
theorem all_x {j : Nat} (ha : a < n) : Nat.testBit ((2 ^ n - 1) ^^^ (1 <<< a)) j = true ↔ j < n ∧ j ≠ a := by
  rw [xor_bit, Nat.testBit_two_pow_sub_one]
  by_cases e : j = a
  · rw [e, decide_eq_true ha]
    simp
  · rw [decide_eq_false e, Bool.bne_false, decide_eq_true_eq]
    exact ⟨fun w => ⟨w, e⟩, fun w => w.1⟩
/-- orders of all but one, and of fewer -/
theorem sk_iff (ha : a < n) : (∃ l, setl ((2 ^ n - 1) ^^^ (1 <<< a)) l ∧ inTm c t q F 0 l) ↔ ∃ l, ord (n - 1) l ∧ inTm (fun j => c (sk a j)) (fun j => t (sk a j)) (fun j => q (sk a j)) F 0 l := by
  constructor
  · rintro ⟨l, l1, l2⟩
    have mem : ∀ j, j ∈ l ↔ j < n ∧ j ≠ a := fun j => (l1.2 j).trans (all_x ha)
    have sd : ∀ j, j ∈ l → sk a (skd a j) = j := fun j hj => by
      have := (mem j).mp hj
      unfold sk skd
      by_cases w : j < a
      · rw [if_pos w, if_pos w]
      · rw [if_neg w, if_neg (by omega)]
        omega
    have back : (l.map (skd a)).map (sk a) = l := by
      rw [List.map_map]
      have : ∀ m : List Nat, (∀ j, j ∈ m → sk a (skd a j) = j) → m.map (sk a ∘ skd a) = m := fun m => by
        induction m with
        | nil => exact fun _ => rfl
        | cons x m ih =>
          intro hm
          rw [List.map_cons, ih (fun j hj => hm j (List.mem_cons_of_mem _ hj))]
          show sk a (skd a x) :: m = x :: m
          rw [hm x (List.mem_cons_self ..)]
      exact this l sd
    refine ⟨l.map (skd a), ⟨nodup_map l l1.1 (fun i j hi hj e => by rw [← sd i hi, ← sd j hj, e]), fun j => ?_⟩, (inTm_map _ _).mpr (by rw [back]; exact l2)⟩
    rw [List.mem_map]
    constructor
    · rintro ⟨i, i1, i2⟩
      have := (mem i).mp i1
      rw [← i2]
      unfold skd
      split <;> omega
    · intro hj
      refine ⟨sk a j, (mem _).mpr ⟨?_, sk_ne⟩, ?_⟩
      · unfold sk
        split <;> omega
      · unfold sk skd
        by_cases w : j < a
        · rw [if_pos w, if_pos w]
        · rw [if_neg w, if_neg (by omega)]
          omega
  · rintro ⟨l, l1, l2⟩
    refine ⟨l.map (sk a), ⟨nodup_map l l1.1 (fun i j _ _ e => sk_inj e), fun j => ?_⟩, (inTm_map _ _).mp l2⟩
    rw [List.mem_map, all_x ha]
    constructor
    · rintro ⟨i, i1, i2⟩
      have := (l1.2 i).mp i1
      rw [← i2]
      refine ⟨?_, sk_ne⟩
      unfold sk
      split <;> omega
    · rintro ⟨j1, j2⟩
      refine ⟨skd a j, (l1.2 _).mpr ?_, ?_⟩
      · unfold skd
        split <;> omega
      · unfold sk skd
        by_cases w : j < a
        · rw [if_pos w, if_pos w]
        · rw [if_neg w, if_neg (by omega)]
          omega
theorem sk_lt {j : Nat} (h : j < n - 1) : sk a j < n := by
  unfold sk
  split <;> omega
theorem s_gain (h : INV z sy) (a : Int32) : Both (f_X10_gain z 0 a) (fun z => f_X11_gain z 68 a) := by
  obtain ⟨k, sk1, rfl⟩ := ex_iv a
  have h8 := h.1.1.2.1
  by_cases g : 0 ≤ k ∧ k < sy.1
  · obtain ⟨i, rfl⟩ : ∃ i : Nat, k = i := ⟨k.toNat, by omega⟩
    have hb := BD_I h.2.2.1
    have hB := BD_O h.2.2.1
    have iN : i < sy.1 := by omega
    obtain ⟨s1, s2, -⟩ := SR_ok h8 hb
    obtain ⟨z1, k1, k2, k3, k4, k5, k6⟩ := kl_of h
    obtain ⟨n, hn⟩ : ∃ n, n = sy.1 := ⟨_, rfl⟩
    obtain ⟨c, hc⟩ : ∃ c, c = cmO sy.2.1 := ⟨_, rfl⟩
    obtain ⟨t, ht⟩ : ∃ t, t = tkO sy.2.1 := ⟨_, rfl⟩
    obtain ⟨q, hq⟩ : ∃ q, q = clO sy.2.1 := ⟨_, rfl⟩
    have L21 := k2.1.2.1
    rw [← hn, ← hc, ← ht, ← hq] at hb hB s1 s2 k4 L21
    rw [← hn] at h8 iN
    have hb' : ∀ j, j < n - 1 → (0 ≤ c (sk i j) ∧ c (sk i j) ≤ 160) ∧ (1 ≤ t (sk i j) ∧ t (sk i j) ≤ 25) ∧ (0 ≤ q (sk i j) ∧ q (sk i j) ≤ 130) := fun j hj => hb _ (sk_lt hj)
    have h8' : n - 1 ≤ 8 := by omega
    have ba := ba_of (z := z1) (o := 25) (u := 21) (by decide) (by decide) (by decide) L21
    have f1 : Fr f25 z1 (ldZ c t q z1 25 n) := (ldZ_fr (z := z1) (u := 25) n).mono (fun a e => by have := own_rng (o := 25) (Or.inr (by decide)) e; unfold f25; omega)
    have l1 := ldZ_LD (c := c) (t := t) (q := q) (z := z1) (u := 25) (by decide) n h8
    obtain ⟨z2, v1, v2, v3⟩ := lv_of l1 iN
    obtain ⟨z3, r1, r2, r3, r4, r5, r6, r7⟩ := run_c v2 (root_G h8' hb' (root_D h8' hb')) (Nat.mul_le_mul_left 3 (tk_le h8' hb')) (root_f h8' hb').2.2
    obtain ⟨u1, ⟨m, m1, m2⟩, u3⟩ := SR_ok h8' hb'
    obtain ⟨G, hG⟩ : ∃ G, G = (SR (fun j => c (sk i j)) (fun j => t (sk i j)) (fun j => q (sk i j)) (n - 1)).1 := ⟨_, rfl⟩
    have r2 := r2.1
    rw [← hG] at r2 u1 u3 m2
    have fC : Fr sC z1 z3 := ((f1.mono (Q := sC) (fun a e => by unfold f25 at e; unfold sC; omega)).trans (v3.mono (fun a e => by unfold f25 at e; unfold sC; omega))).trans (r4.mono (fun a e => by unfold fS at e; unfold sC; omega))
    have I3 : INV z3 sy := INV_c k2 fC
    obtain ⟨t1, t2, t3⟩ := th_of I3.2.1.1 h.2.2.1
    obtain ⟨zt, hzt⟩ : ∃ zt, zt = thZ sy.2.1 z3 sy.1 := ⟨_, rfl⟩
    rw [← hzt] at t1 t2 t3
    rw [← hn, ← hc, ← ht, ← hq] at t2
    obtain ⟨z5, w1, w2, w3, w4⟩ := ln_of t2 hb
    obtain ⟨L, hL⟩ : ∃ L, L = (SR c t q n).1 := ⟨_, rfl⟩
    unfold LKN at k4
    rw [← hL] at k4 s1 s2 w1
    obtain ⟨S, hS⟩ : ∃ S, S = (2 ^ n - 1) ^^^ (1 <<< i) := ⟨_, rfl⟩
    obtain ⟨p1, p2⟩ := p2_255 h8
    have Sn : S < 2 ^ n := by
      rw [hS]
      refine Nat.lt_pow_two_of_testBit _ (fun j hj => ?_)
      cases w : Nat.testBit ((2 ^ n - 1) ^^^ (1 <<< i)) j
      · rfl
      · have := (all_x iN).mp w
        omega
    obtain ⟨z6, H, a1, a2, a3, a4⟩ := lo_of w2 hB Sn (E := L) ⟨s1.1, by omega⟩
    have fit : ∀ x, 0 ≤ x → x ≤ 998 → (fitS c t q n S x ↔ ∃ l, ord (n - 1) l ∧ inTm (fun j => c (sk i j)) (fun j => t (sk i j)) (fun j => q (sk i j)) x 0 l) := fun x x0 x1 => by
      rw [fit_ok hB h8 ⟨x0, x1⟩ Sn, hS, sk_iff iN]
    have eH : H = G := by
      by_cases hS0 : S = 0
      · have e0 := a2 hS0
        have n1 : n - 1 = 0 := by
          rcases Nat.eq_zero_or_pos (n - 1) with e | e
          · exact e
          · have : Nat.testBit S (sk i 0) = true := by
              rw [hS]
              exact (all_x iN).mpr ⟨sk_lt e, sk_ne⟩
            rw [hS0, Nat.zero_testBit] at this
            exact absurd this (by decide)
        have := u3 0 [] (Int.le_refl _) ⟨List.nodup_nil, fun j => by simp [n1]⟩ trivial
        omega
      · obtain ⟨b1, b2, b3, b4⟩ := a3 hS0
        have PL : fitS c t q n S L := by
          obtain ⟨l, o, o2⟩ := s2
          obtain ⟨x1, x2, hs⟩ := List.append_of_mem ((o.2 i).mpr iN)
          have nd := o.1
          rw [hs] at nd o2
          obtain ⟨nd1, nd2, nd3⟩ := List.nodup_append.mp nd
          have nd4 := List.nodup_cons.mp nd2
          obtain ⟨g1, g2⟩ := (inTm_app _ _ _).mp o2
          have tb := hB i iN
          have g3 : inTm c t q L (enT c t 0 x1) x2 := inTm_mono x2 _ (max (enT c t 0 x1) (c i) + t i) (by omega) (fun j _ => Int.le_refl _) (fun j _ => Int.le_refl _) g2.2
          refine (fit_ok hB h8 ⟨s1.1, by omega⟩ Sn).mpr ⟨x1 ++ x2, ⟨List.nodup_append.mpr ⟨nd1, nd4.2, fun x hx y hy => nd3 x hx y (List.mem_cons_of_mem _ hy)⟩, fun j => ?_⟩, (inTm_app _ _ _).mpr ⟨g1, g3⟩⟩
          rw [hS, all_x iN, ← o.2 j, hs, List.mem_append, List.mem_append, List.mem_cons]
          constructor
          · rintro (w | w)
            · exact ⟨Or.inl w, nd3 j w i (List.mem_cons_self ..)⟩
            · exact ⟨Or.inr (Or.inr w), fun e => nd4.1 (by rw [← e]; exact w)⟩
          · rintro ⟨w1, w2⟩
            rcases w1 with w | w | w
            · exact Or.inl w
            · exact absurd w w2
            · exact Or.inr w
        have P : fitS c t q n S H := by
          rcases b1 with e | e
          · rw [e]
            exact PL
          · exact e
        obtain ⟨l, o1, o2⟩ := (fit H b2 (by omega)).mp P
        have u2 := u3 H l b2 o1 o2
        rcases Int.lt_or_le G H with w | w
        · exact absurd ((fit G u1.1 (by omega)).mpr ⟨m, m1, m2⟩) (b4 _ u1.1 w)
        · omega
    rw [eH] at a1
    have fM : Fr (fun a => sM a ∨ a = 68) z3 z6 := ((t3.mono (Q := fun a => sM a ∨ a = 68) (fun a e => Or.inl (by unfold sM; omega))).trans (w3.mono (fun a e => by unfold sM; omega))).trans (a4.mono (fun a e => by unfold sM; omega))
    refine ⟨z3, z6, iv (L - G), ?_, ?_, sy, INV_m I3 fM (fun k hk => by rw [(a4 68 (by decide)).1, w4 k hk, (t3 68 (by decide)).1])⟩
    · unfold f_X10_gain f_X10_gain_0
      rw [r0_0, ho_of h.1.1.1 h.1.1.2.1 sk1, Option.bind_some]
      show (if ob (0 ≤ ((i : Nat) : Int) ∧ ((i : Nat) : Int) < (sy.1 : Int)) = 0 then _ else _) = _
      rw [if_neg (fun e => ob_0.mp e g)]
      unfold f_X10_gain_14
      show ((f_X10_knowLeast z 0).bind _) = _
      rw [k1, Option.bind_some, r0_5, r0_4, r0_10, ba, Option.bind_some, v1, Option.bind_some, r1, Option.bind_some, r2, (fC 0 (by unfold sC; omega)).1, k4.1, iv_sub]
    · show f_X11_gain z3 68 (iv ((i : Nat) : Int)) = _
      unfold f_X11_gain f_X11_gain_0
      rw [ij_of I3.2.1.1 sk1, Option.bind_some]
      show (if ob (0 ≤ ((i : Nat) : Int) ∧ ((i : Nat) : Int) < (sy.1 : Int)) = 0 then _ else _) = _
      rw [if_neg (fun e => ob_0.mp e g)]
      unfold f_X11_gain_11
      show ((f_X11_thinks z3 68).bind _) = _
      rw [t1, Option.bind_some, w1, Option.bind_some]
      show ((f_X11_all z5 68).bind _) = _
      rw [mal_of w2, Option.bind_some]
      show ((f_X11_leastOf z5 68 (iv ((2 ^ n - 1 : Nat) : Int) ^^^ ((1 : Int32) <<< (iv ((i : Nat) : Int) &&& 31))) (iv L)).bind _) = _
      rw [bit_xor _ (by omega) i (by omega), ← hS, a1, Option.bind_some, iv_sub]
  · refine Both_s h (r := iv (-2)) ?_ ?_
    · unfold f_X10_gain f_X10_gain_0
      rw [r0_0, ho_of h.1.1.1 h8 sk1, Option.bind_some]
      show (if ob (0 ≤ k ∧ k < (sy.1 : Int)) = 0 then _ else _) = _
      rw [if_pos (ob_0.mpr g)]
      rfl
    · show f_X11_gain z 68 (iv k) = _
      unfold f_X11_gain f_X11_gain_0
      rw [ij_of h.2.1.1 sk1, Option.bind_some]
      show (if ob (0 ≤ k ∧ k < (sy.1 : Int)) = 0 then _ else _) = _
      rw [if_pos (ob_0.mpr g)]
      rfl
end GAIN
