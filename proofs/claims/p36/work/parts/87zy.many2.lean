/-! MANY: the model's count at the machine; many of both -/
def CM (z : St) (n : Nat) (C : Nat → Int) : Prop := ∀ x, x < 64 * 2 ^ n → z.1 91 x = iv (C x)
def SM (z : St) (n : Nat) (t : Nat → Int) : Prop := ∀ S, S < 2 ^ n → z.1 90 S = iv (sS t n S)
def f90 (a : Nat) : Prop := a = 90 ∨ a = 91
def IC (c t q : Nat → Int) (n : Nat) (lim : Int) (C : Nat → Int) (x0 : Nat) : Prop := (∀ x, x < 64 * 2 ^ n → 0 ≤ C x) ∧ gG (V1 c t q n lim) C x0 (64 * 2 ^ n) = (wn c t q n lim n (2 ^ n - 1) 0 : Int) ∧ gG (V2 n) C x0 (64 * 2 ^ n) ≤ 8 ^ n
def ciZ (z : St) (S : Nat) : Nat → St
  | 0 => z
  | k + 1 => zI (ciZ z S k) 91 (64 * S + k) 0
noncomputable def miZ (t : Nat → Int) (n : Nat) (z : St) : Nat → St
  | 0 => z
  | k + 1 => ciZ (zI (miZ t n z k) 90 k (iv (sS t n k))) k 64
section MANY2
variable {z : St} {n : Nat} {c t q : Nat → Int} {lim : Int} {V C : Nat → Int} {S e : Nat} {sy : Sy}
theorem MD_90 (hL : MD z n c t q) {z' : St} (hf : Fr f90 z z') : MD z' n c t q := MD_fr hL (by rw [(hf 68 (by unfold f90; decide)).1]) (fun a h1 h2 => (hf a (by unfold f90; omega)).1)
theorem i64 {a b : Int} : (64 : Int32) * iv a + iv b = iv (64 * a + b) := by
  rw [show (64 : Int32) = iv 64 by decide, iv_mul, iv_add]
theorem sp_of (hL : MD z n c t q) (hB : BD n c t q) (hc : ∀ j, j < n → c j ≤ 63) (hl : 0 ≤ lim ∧ lim ≤ 998) (hS : S < 2 ^ n) (he : e < 64) (hM : SM z n t) (hC : CM z n C) : ∃ z', f_X11_spreads z 68 (iv (S : Int)) (iv (e : Int)) (iv lim) = some z' ∧ CM z' n (spC c t q n lim C S e n) ∧ Fr (fun a => a = 91) z z' := by
  have hn := hL.2.1
  obtain ⟨p1, p2⟩ := p2_255 hn
  have lp : ∀ (d k F : Nat) (z1 : St), k + d = n → d < F → CM z1 n (spC c t q n lim C S e k) → Fr (fun a => a = 91) z z1 → ∃ z', f_X11_spreads_3 F z1 68 (iv (S : Int)) (iv (e : Int)) (iv lim) (iv (k : Int)) = some z' ∧ CM z' n (spC c t q n lim C S e n) ∧ Fr (fun a => a = 91) z z' := by
    intro d
    induction d with
    | zero =>
      intro k F z1 hk hF c1 f1
      obtain ⟨F, rfl⟩ : ∃ G, F = G + 1 := ⟨F - 1, by omega⟩
      have L1 := MD_90 hL (f1.mono (Q := f90) (fun a x => Or.inr x))
      have ke : k = n := by omega
      rw [ke] at c1 ⊢
      rw [f_X11_spreads_3, L1.1, if_pos sz_t]
      exact ⟨z1, rfl, c1, f1⟩
    | succ d ih =>
      intro k F z1 hk hF c1 f1
      obtain ⟨F, rfl⟩ : ∃ G, F = G + 1 := ⟨F - 1, by omega⟩
      have L1 := MD_90 hL (f1.mono (Q := f90) (fun a x => Or.inr x))
      have kn : k < n := by omega
      obtain ⟨-, e1, e2, e3, -, -, -, -, -, -, i1, i2⟩ := MD_at L1 hB kn
      have bk := hB k kn
      have ih := ih (k + 1) F
      rw [spC_s] at ih
      rw [f_X11_spreads_3, L1.1, if_neg (sz_f kn (by omega))]
      unfold f_X11_spreads_12
      by_cases hb : Nat.testBit S k = true
      · rw [if_pos ((bit_all1 S (by omega) k (by omega)).mpr hb)]
        unfold f_X11_spreads_22 f_X11_spreads_110
        rw [if_neg (fun x => by rw [x.1] at hb; exact absurd hb (by decide))] at ih
        rw [iv_s]
        exact ih z1 (by omega) (by omega) c1 f1
      · have hb : Nat.testBit S k = false := by cases h : Nat.testBit S k; rfl; exact absurd h hb
        have sb := sS_b (S := S) hB hn
        have s1 : inb (iv (S : Int)) 256 = true := inb_k (by omega) (by decide)
        have s2 : (iv (S : Int)).toNatClampNeg = S := iv_natN (by omega)
        have s3 : z1.1 90 S = iv (sS t n S) := by
          rw [(f1 90 (by decide)).1]
          exact hM S hS
        have m1 : imax (iv (sS t n S + (e : Int))) (iv (c k)) = iv (max (sS t n S + (e : Int)) (c k)) := iv_max ⟨by omega, by omega⟩ ⟨by omega, by omega⟩
        rw [if_neg (fun x => by rw [(bit_all1 S (by omega) k (by omega)).mp x] at hb; exact absurd hb (by decide))]
        unfold f_X11_spreads_25
        rw [if_pos s1, if_pos i1, if_pos i1, if_pos i1, i2, s2, r68_39, r68_13, r68_14, r68_15, s3, e1, e2, e3, iv_add, m1, iv_add, iv_add]
        by_cases g : max (sS t n S + (e : Int)) (c k) + t k + q k ≤ lim
        · have y := spY_ok hB hn hc hS he kn hb
          have ol := or_lt n (by omega) S hS k kn
          have sm2 := sS_b (t := t) (S := S ||| (1 <<< k)) hB hn
          rw [if_neg (fun x => by have := (iv_lt ⟨by omega, by omega⟩ ⟨by omega, by omega⟩).mp x; omega), bit_or S (by omega) k (by omega)]
          unfold f_X11_spreads_75
          have o1 : inb (iv ((S ||| (1 <<< k) : Nat) : Int)) 256 = true := inb_k (by omega) (by decide)
          have o2 : (iv ((S ||| (1 <<< k) : Nat) : Int)).toNatClampNeg = S ||| (1 <<< k) := iv_natN (by omega)
          have o3 : z1.1 90 (S ||| (1 <<< k)) = iv (sS t n (S ||| (1 <<< k))) := by
            rw [(f1 90 (by decide)).1]
            exact hM _ ol
          have ye : (64 : Int) * ((S ||| (1 <<< k) : Nat) : Int) + (max (sS t n S + (e : Int)) (c k) + t k) - sS t n (S ||| (1 <<< k)) = ((spY c t n S e k : Nat) : Int) := y.2.2.2.2.symm
          rw [if_pos o1, o2, r68_39, r68_40, o3, i64, i64, iv_sub, ye]
          have x1 : inb (iv ((spY c t n S e k : Nat) : Int)) 16384 = true := inb_k (by omega) (by decide)
          have x2 : (iv ((spY c t n S e k : Nat) : Int)).toNatClampNeg = spY c t n S e k := iv_natN (by omega)
          have x0 : (64 : Int) * (S : Int) + (e : Int) = ((64 * S + e : Nat) : Int) := by omega
          rw [x0]
          have x3 : inb (iv ((64 * S + e : Nat) : Int)) 16384 = true := inb_k (by omega) (by decide)
          have x4 : (iv ((64 * S + e : Nat) : Int)).toNatClampNeg = 64 * S + e := iv_natN (by omega)
          rw [if_pos x1, if_pos x3, if_pos x1, x2, x4, c1 _ y.2.2.2.1, c1 _ (by omega), iv_add]
          unfold f_X11_spreads_110
          rw [if_pos ⟨hb, g⟩] at ih
          rw [iv_s]
          refine ih _ (by omega) (by omega) (fun x hx => ?_) (f1.zI (P := fun a => a = 91) rfl)
          rw [rI]
          by_cases w : x = spY c t n S e k
          · rw [if_pos ⟨rfl, w⟩, w, up_eq]
          · rw [if_neg (fun x => w x.2), up_ne w]
            exact c1 x hx
        · rw [if_pos ((iv_lt ⟨by omega, by omega⟩ ⟨by omega, by omega⟩).mpr (by omega))]
          unfold f_X11_spreads_110
          rw [if_neg (fun x => g x.2)] at ih
          rw [iv_s]
          exact ih z1 (by omega) (by omega) c1 f1
  exact lp n 0 FU z (by omega) (FU_8 (by omega)) hC Fr.refl
theorem IC_b (hS : S < 2 ^ n) (he : e < 64) (hI : IC c t q n lim C (64 * S + e)) : 0 ≤ C (64 * S + e) ∧ C (64 * S + e) ≤ 8 ^ n := by
  obtain ⟨h1, h2, h3⟩ := hI
  have c0 := h1 (64 * S + e) (by omega)
  have v := V2_1 (n := n) (x := 64 * S + e)
  have s := gG_s (V := V2 n) (C := C) (x0 := 64 * S + e) (64 * 2 ^ n) (by omega)
  have p := gG_p (V := V2 n) (C := C) (x0 := 64 * S + e + 1) (64 * 2 ^ n) (fun x hx => ⟨h1 x hx, by have := V2_1 (n := n) (x := x); omega⟩)
  have m := Int.mul_le_mul_of_nonneg_left v c0
  rw [Int.mul_one] at m
  omega
theorem IC_0 (hS : S < 2 ^ n) (he : e < 64) (hI : IC c t q n lim C (64 * S + e)) (h0 : C (64 * S + e) = 0) : IC c t q n lim C (64 * S + e + 1) := by
  obtain ⟨h1, h2, h3⟩ := hI
  rw [gG_s _ (by omega), h0, Int.zero_mul, Int.zero_add] at h2 h3
  exact ⟨h1, h2, h3⟩
theorem IC_s (hB : BD n c t q) (hn : n ≤ 8) (hc : ∀ j, j < n → c j ≤ 63) (hS : S < 2 ^ n - 1) (he : e < 64) (hI : IC c t q n lim C (64 * S + e)) : IC c t q n lim (spC c t q n lim C S e n) (64 * S + e + 1) := by
  obtain ⟨h1, h2, h3⟩ := hI
  have S2 : S < 2 ^ n := by omega
  have c0 := h1 (64 * S + e) (by omega)
  refine ⟨spC_p hB hn hc S2 he h1 n (Nat.le_refl _), ?_, ?_⟩
  · rw [gG_sp hB hn hc S2 he n (Nat.le_refl _), sV_1 hB hn hc hS he]
    rw [gG_s _ (by omega)] at h2
    omega
  · rw [gG_sp hB hn hc S2 he n (Nat.le_refl _)]
    rw [gG_s _ (by omega)] at h3
    have v := sV_2 (lim := lim) hB hn hc S2 he
    have m := Int.mul_le_mul_of_nonneg_left v c0
    omega
theorem p8_b : ∀ n : Nat, n < 9 → (8 : Int) ^ n ≤ 16777216 := by decide
/-- a set's cells -/
theorem ml_in (hL : MD z n c t q) (hB : BD n c t q) (hc : ∀ j, j < n → c j ≤ 63) (hl : 0 ≤ lim ∧ lim ≤ 998) (hS : S < 2 ^ n - 1) (hM : SM z n t) (hC : CM z n C) (hI : IC c t q n lim C (64 * S)) (K : St → Nat → Int32 → Int32 → Option (St × Int32)) : ∃ z' C', f_X11_many__119 K z 68 (iv lim) (iv (S : Int)) = K z' 68 (iv lim) (iv ((S + 1 : Nat) : Int)) ∧ CM z' n C' ∧ IC c t q n lim C' (64 * (S + 1)) ∧ Fr (fun a => a = 91) z z' := by
  have hn := hL.2.1
  obtain ⟨p1, p2⟩ := p2_255 hn
  have lp : ∀ (d e F : Nat) (z1 : St) (C1 : Nat → Int), e + d = 64 → d < F → CM z1 n C1 → IC c t q n lim C1 (64 * S + e) → Fr (fun a => a = 91) z z1 → ∃ z' C', f_X11_many__121 K F z1 68 (iv lim) (iv (S : Int)) (iv (e : Int)) = K z' 68 (iv lim) (iv ((S + 1 : Nat) : Int)) ∧ CM z' n C' ∧ IC c t q n lim C' (64 * (S + 1)) ∧ Fr (fun a => a = 91) z z' := by
    intro d
    induction d with
    | zero =>
      intro e F z1 C1 hk hF c1 I1 f1
      obtain ⟨F, rfl⟩ : ∃ G, F = G + 1 := ⟨F - 1, by omega⟩
      have ke : e = 64 := by omega
      rw [ke] at I1
      refine ⟨z1, C1, ?_, c1, I1, f1⟩
      rw [f_X11_many__121, show (64 : Int32) = iv 64 by decide, if_pos ((iv_kle (sm_k (by omega)) 64).mpr (by omega))]
      unfold f_X11_many__154
      rw [iv_s]
    | succ d ih =>
      intro e F z1 C1 hk hF c1 I1 f1
      obtain ⟨F, rfl⟩ : ∃ G, F = G + 1 := ⟨F - 1, by omega⟩
      have e6 : e < 64 := by omega
      have x0 : (64 : Int) * (S : Int) + (e : Int) = ((64 * S + e : Nat) : Int) := by omega
      have x3 : inb (iv ((64 * S + e : Nat) : Int)) 16384 = true := inb_k (by omega) (by decide)
      have x4 : (iv ((64 * S + e : Nat) : Int)).toNatClampNeg = 64 * S + e := iv_natN (by omega)
      have b := IC_b (show S < 2 ^ n by omega) e6 I1
      have p8 := p8_b n (by omega)
      rw [f_X11_many__121, show (64 : Int32) = iv 64 by decide, if_neg (fun x => by have := (iv_kle (sm_k (by omega)) 64).mp x; omega)]
      unfold f_X11_many__127
      rw [i64, x0, if_pos x3, x4, r68_40, c1 _ (by omega), n_0]
      by_cases g : C1 (64 * S + e) ≤ 0
      · rw [if_pos ((iv_lek ⟨by omega, by omega⟩ 0).mpr g)]
        unfold f_X11_many__148
        rw [iv_s]
        exact ih (e + 1) F z1 C1 (by omega) (by omega) c1 (IC_0 (by omega) e6 I1 (by omega)) f1
      · rw [if_neg (fun x => g ((iv_lek ⟨by omega, by omega⟩ 0).mp x))]
        unfold f_X11_many__141
        have f9 : Fr f90 z z1 := f1.mono (fun a x => Or.inr x)
        obtain ⟨z2, s1, s2, s3⟩ := sp_of (MD_90 hL f9) hB hc hl (show S < 2 ^ n by omega) e6 (fun S hS => by rw [(f1 90 (by decide)).1]; exact hM S hS) c1
        rw [s1, Option.bind_some]
        unfold f_X11_many__148
        rw [iv_s]
        exact ih (e + 1) F z2 _ (by omega) (by omega) s2 (IC_s hB hn hc hS e6 I1) (f1.trans s3)
  unfold f_X11_many__119
  exact lp 64 0 FU z C (by omega) (FU_8 (by decide)) hC hI Fr.refl
theorem ml_out (hL : MD z n c t q) (hB : BD n c t q) (hc : ∀ j, j < n → c j ≤ 63) (hl : 0 ≤ lim ∧ lim ≤ 998) (hM : SM z n t) (hC : CM z n C) (hI : IC c t q n lim C 0) : ∃ z' C', f_X11_many__111 FU z 68 (iv lim) 0 = f_X11_many__160 z' 68 ∧ CM z' n C' ∧ IC c t q n lim C' (64 * (2 ^ n - 1)) ∧ Fr (fun a => a = 91) z z' := by
  have hn := hL.2.1
  obtain ⟨p1, p2⟩ := p2_255 hn
  have lp : ∀ (d S F : Nat) (z1 : St) (C1 : Nat → Int), S + d = 2 ^ n - 1 → d < F → CM z1 n C1 → IC c t q n lim C1 (64 * S) → Fr (fun a => a = 91) z z1 → ∃ z' C', f_X11_many__111 F z1 68 (iv lim) (iv (S : Int)) = f_X11_many__160 z' 68 ∧ CM z' n C' ∧ IC c t q n lim C' (64 * (2 ^ n - 1)) ∧ Fr (fun a => a = 91) z z' := by
    intro d
    induction d with
    | zero =>
      intro S F z1 C1 hk hF c1 I1 f1
      obtain ⟨F, rfl⟩ : ∃ G, F = G + 1 := ⟨F - 1, by omega⟩
      have ke : S = 2 ^ n - 1 := by omega
      rw [ke] at I1 ⊢
      have L1 := MD_90 hL (f1.mono (Q := f90) (fun a x => Or.inr x))
      refine ⟨z1, C1, ?_, c1, I1, f1⟩
      rw [f_X11_many__111, mal_of L1, Option.bind_some]
      show (if iv ((2 ^ n - 1 : Nat) : Int) ≤ iv ((2 ^ n - 1 : Nat) : Int) then _ else _) = _
      rw [if_pos (Int32.le_refl _)]
    | succ d ih =>
      intro S F z1 C1 hk hF c1 I1 f1
      obtain ⟨F, rfl⟩ : ∃ G, F = G + 1 := ⟨F - 1, by omega⟩
      have L1 := MD_90 hL (f1.mono (Q := f90) (fun a x => Or.inr x))
      obtain ⟨z2, C2, s1, s2, s3, s4⟩ := ml_in L1 hB hc hl (show S < 2 ^ n - 1 by omega) (fun S hS => by rw [(f1 90 (by decide)).1]; exact hM S hS) c1 I1 (f_X11_many__111 F)
      rw [f_X11_many__111, mal_of L1, Option.bind_some]
      show ∃ z' C', (if iv ((2 ^ n - 1 : Nat) : Int) ≤ iv (S : Int) then _ else f_X11_many__119 (f_X11_many__111 F) z1 68 (iv lim) (iv (S : Int))) = _ ∧ _
      rw [if_neg (fun x => by have := (iv_le (sm_k (by omega)) (sm_k (by omega))).mp x; omega), s1]
      exact ih (S + 1) F z2 C2 (by omega) (by omega) s2 s3 (f1.trans s4)
  exact lp (2 ^ n - 1) 0 FU z C (by omega) (FU_8 (by omega)) hC hI Fr.refl
/-- the sum of the last set's cells -/
theorem mt_of (hL : MD z n c t q) (hC : CM z n C) (hI : IC c t q n lim C (64 * (2 ^ n - 1))) : f_X11_many__160 z 68 = some (z, iv (wn c t q n lim n (2 ^ n - 1) 0 : Int)) := by
  have hn := hL.2.1
  obtain ⟨p1, p2⟩ := p2_255 hn
  have v1 : ∀ e, e < 64 → V1 c t q n lim (64 * (2 ^ n - 1) + e) = 1 := fun e he => by
    unfold V1
    rw [show (64 * (2 ^ n - 1) + e) / 64 = 2 ^ n - 1 by omega, Nat.xor_self, wn_0]
    rfl
  have gs : ∀ e, e < 64 → gG (V1 c t q n lim) C (64 * (2 ^ n - 1)) (64 * (2 ^ n - 1) + (e + 1)) = gG (V1 c t q n lim) C (64 * (2 ^ n - 1)) (64 * (2 ^ n - 1) + e) + C (64 * (2 ^ n - 1) + e) := fun e he => by
    show gG (V1 c t q n lim) C (64 * (2 ^ n - 1)) (64 * (2 ^ n - 1) + e) + (if 64 * (2 ^ n - 1) ≤ 64 * (2 ^ n - 1) + e then C (64 * (2 ^ n - 1) + e) * V1 c t q n lim (64 * (2 ^ n - 1) + e) else 0) = _
    rw [if_pos (by omega), v1 e he, Int.mul_one]
  have fin : gG (V1 c t q n lim) C (64 * (2 ^ n - 1)) (64 * (2 ^ n - 1) + 64) = (wn c t q n lim n (2 ^ n - 1) 0 : Int) := by
    rw [← hI.2.1]
    congr 1
    omega
  unfold f_X11_many__160
  have lp : ∀ (d e F : Nat), e + d = 64 → d < F → f_X11_many__164 F z 68 (iv (gG (V1 c t q n lim) C (64 * (2 ^ n - 1)) (64 * (2 ^ n - 1) + e))) (iv (e : Int)) = some (z, iv (wn c t q n lim n (2 ^ n - 1) 0 : Int)) := by
    intro d
    induction d with
    | zero =>
      intro e F hk hF
      obtain ⟨F, rfl⟩ : ∃ G, F = G + 1 := ⟨F - 1, by omega⟩
      have ke : e = 64 := by omega
      rw [f_X11_many__164, show (64 : Int32) = iv 64 by decide, if_pos ((iv_kle (sm_k (by omega)) 64).mpr (by omega)), ke, fin]
      rfl
    | succ d ih =>
      intro e F hk hF
      obtain ⟨F, rfl⟩ : ∃ G, F = G + 1 := ⟨F - 1, by omega⟩
      have x0 : (64 : Int) * ((2 ^ n - 1 : Nat) : Int) + (e : Int) = ((64 * (2 ^ n - 1) + e : Nat) : Int) := by omega
      have x3 : inb (iv ((64 * (2 ^ n - 1) + e : Nat) : Int)) 16384 = true := inb_k (by omega) (by decide)
      have x4 : (iv ((64 * (2 ^ n - 1) + e : Nat) : Int)).toNatClampNeg = 64 * (2 ^ n - 1) + e := iv_natN (by omega)
      rw [f_X11_many__164, show (64 : Int32) = iv 64 by decide, if_neg (fun x => by have := (iv_kle (sm_k (by omega)) 64).mp x; omega)]
      unfold f_X11_many__170
      rw [mal_of hL, Option.bind_some]
      show (if inb ((64 : Int32) * iv ((2 ^ n - 1 : Nat) : Int) + iv (e : Int)) 16384 = true then f_X11_many__164 F z 68 (iv _ + (z.1 (rf 68 40) (Int32.toNatClampNeg ((64 : Int32) * iv ((2 ^ n - 1 : Nat) : Int) + iv (e : Int))))) (iv (e : Int) + 1) else none) = _
      rw [i64, x0, if_pos x3, x4, r68_40, hC _ (by omega), iv_add, iv_s, ← gs e (by omega)]
      exact ih (e + 1) F (by omega) (by omega)
  have l0 := lp 64 0 FU (by omega) (FU_8 (by decide))
  rw [gG_0 _ (by omega)] at l0
  exact l0
theorem ciZ_fr : ∀ k, Fr f90 z (ciZ z S k)
  | 0 => Fr.refl
  | k + 1 => (ciZ_fr k).zI (Or.inr rfl)
theorem ciZ_9 : ∀ k, (ciZ z S k).1 90 = z.1 90
  | 0 => rfl
  | k + 1 => by
    rw [ciZ, zI_n (by decide)]
    exact ciZ_9 k
theorem ciZ_r : ∀ k x, (ciZ z S k).1 91 x = if 64 * S ≤ x ∧ x < 64 * S + k then 0 else z.1 91 x
  | 0, x => by
    rw [if_neg (by omega)]
    rfl
  | k + 1, x => by
    rw [ciZ, rI, ciZ_r k x]
    by_cases e : x = 64 * S + k
    · rw [if_pos ⟨rfl, e⟩, if_pos (by omega)]
    · rw [if_neg (fun w => e w.2)]
      by_cases g : 64 * S ≤ x ∧ x < 64 * S + k
      · rw [if_pos g, if_pos (by omega)]
      · rw [if_neg g, if_neg (by omega)]
theorem miZ_fr : ∀ k, Fr f90 z (miZ t n z k)
  | 0 => Fr.refl
  | k + 1 => ((miZ_fr k).zI (Or.inl rfl)).trans (ciZ_fr 64)
theorem miZ_r : ∀ k, (∀ S, S < k → (miZ t n z k).1 90 S = iv (sS t n S)) ∧ ∀ x, x < 64 * k → (miZ t n z k).1 91 x = 0
  | 0 => ⟨fun S h => absurd h (Nat.not_lt_zero _), fun x h => by omega⟩
  | k + 1 => by
    obtain ⟨h1, h2⟩ := miZ_r k
    refine ⟨fun S hS => ?_, fun x hx => ?_⟩
    · rw [miZ, ciZ_9, rI]
      by_cases e : S = k
      · rw [if_pos ⟨rfl, e⟩, e]
      · rw [if_neg (fun w => e w.2)]
        exact h1 S (by omega)
    · rw [miZ, ciZ_r]
      by_cases g : 64 * k ≤ x ∧ x < 64 * k + 64
      · rw [if_pos g]
      · rw [if_neg g, zI_n (by decide)]
        exact h2 x (by omega)
theorem mi_set (hL : MD z n c t q) (hB : BD n c t q) (hS : S < 2 ^ n) (K : St → Nat → Int32 → Int32 → Option (St × Int32)) : f_X11_many__19 K z 68 (iv lim) (iv (S : Int)) = K (ciZ (zI z 90 S (iv (sS t n S))) S 64) 68 (iv lim) (iv ((S + 1 : Nat) : Int)) := by
  have hn := hL.2.1
  obtain ⟨p1, p2⟩ := p2_255 hn
  have s1 : inb (iv (S : Int)) 256 = true := inb_k (by omega) (by decide)
  have s2 : (iv (S : Int)).toNatClampNeg = S := iv_natN (by omega)
  have cells : ∀ z1 : St, f_X11_many__70 K z1 68 (iv lim) (iv (S : Int)) = K (ciZ z1 S 64) 68 (iv lim) (iv ((S + 1 : Nat) : Int)) := fun z1 => by
    have lp : ∀ (d k F : Nat), k + d = 64 → d < F → f_X11_many__72 K F (ciZ z1 S k) 68 (iv lim) (iv (S : Int)) (iv (k : Int)) = K (ciZ z1 S 64) 68 (iv lim) (iv ((S + 1 : Nat) : Int)) := by
      intro d
      induction d with
      | zero =>
        intro k F hk hF
        obtain ⟨F, rfl⟩ : ∃ G, F = G + 1 := ⟨F - 1, by omega⟩
        have ke : k = 64 := by omega
        rw [f_X11_many__72, show (64 : Int32) = iv 64 by decide, if_pos ((iv_kle (sm_k (by omega)) 64).mpr (by omega)), ke]
        unfold f_X11_many__96
        rw [iv_s]
      | succ d ih =>
        intro k F hk hF
        obtain ⟨F, rfl⟩ : ∃ G, F = G + 1 := ⟨F - 1, by omega⟩
        have x0 : (64 : Int) * (S : Int) + (k : Int) = ((64 * S + k : Nat) : Int) := by omega
        have ih := ih (k + 1) F (by omega) (by omega)
        rw [ciZ] at ih
        rw [f_X11_many__72, show (64 : Int32) = iv 64 by decide, if_neg (fun x => by have := (iv_kle (sm_k (by omega)) 64).mp x; omega)]
        unfold f_X11_many__78
        rw [i64, x0, if_pos (inb_k (by omega) (by decide)), iv_natN (by omega), r68_40, iv_s]
        exact ih
    unfold f_X11_many__70
    exact lp 64 0 FU (by omega) (FU_8 (by decide))
  unfold f_X11_many__19
  rw [if_pos s1, s2, r68_39]
  have lp : ∀ (d k F : Nat), k + d = n → d < F → f_X11_many__28 K F (zI z 90 S (iv (su t (Nat.testBit S) k))) 68 (iv lim) (iv (S : Int)) (iv (k : Int)) = K (ciZ (zI z 90 S (iv (sS t n S))) S 64) 68 (iv lim) (iv ((S + 1 : Nat) : Int)) := by
    intro d
    induction d with
    | zero =>
      intro k F hk hF
      obtain ⟨F, rfl⟩ : ∃ G, F = G + 1 := ⟨F - 1, by omega⟩
      have ke : k = n := by omega
      rw [f_X11_many__28, zI_n (by decide), hL.1, ke, if_pos sz_t]
      exact cells _
    | succ d ih =>
      intro k F hk hF
      obtain ⟨F, rfl⟩ : ∃ G, F = G + 1 := ⟨F - 1, by omega⟩
      have kn : k < n := by omega
      obtain ⟨-, e1, e2, e3, -, -, -, -, -, -, i1, i2⟩ := MD_at hL hB kn
      have ih := ih (k + 1) F (by omega) (by omega)
      rw [f_X11_many__28, zI_n (by decide), hL.1, if_neg (sz_f kn (by omega))]
      unfold f_X11_many__36
      have rS : (zI z 90 S (iv (su t (Nat.testBit S) k))).1 90 S = iv (su t (Nat.testBit S) k) := by rw [rI, if_pos ⟨rfl, rfl⟩]
      rw [if_pos s1, s2, r68_39, rS]
      have es : su t (Nat.testBit S) (k + 1) = if Nat.testBit S k = true then su t (Nat.testBit S) k + t k else su t (Nat.testBit S) k := rfl
      rw [es] at ih
      by_cases hb : Nat.testBit S k = true
      · rw [if_pos ((bit_all1 S (by omega) k (by omega)).mpr hb)]
        unfold f_X11_many__52 f_X11_many__62
        rw [if_pos hb] at ih
        rw [if_pos i1, if_pos s1, i2, s2, r68_14, zI_n (by decide), e2, zI_same, iv_add, iv_s]
        exact ih
      · rw [if_neg (fun x => hb ((bit_all1 S (by omega) k (by omega)).mp x))]
        unfold f_X11_many__61 f_X11_many__62
        rw [if_neg hb] at ih
        rw [if_pos s1, s2, zI_same, n_0, iv_add, Int.add_zero, iv_s]
        exact ih
  exact lp n 0 FU (by omega) (FU_8 (by omega))
theorem mi_of (hL : MD z n c t q) (hB : BD n c t q) : f_X11_many__11 FU z 68 (iv lim) 0 = f_X11_many__102 (miZ t n z (2 ^ n)) 68 (iv lim) := by
  have hn := hL.2.1
  obtain ⟨p1, p2⟩ := p2_255 hn
  refine loop_up (n := 2 ^ n) (fun F k b => f_X11_many__11 F b 68 (iv lim) (iv (k : Int))) (miZ t n z) (fun F => ?_) (fun F k hk => ?_) (2 ^ n) 0 FU (by omega) (FU_8 (by omega))
  · show f_X11_many__11 _ _ _ _ _ = _
    rw [f_X11_many__11, mal_of (MD_90 hL (miZ_fr _)), Option.bind_some]
    show (if iv ((2 ^ n - 1 : Nat) : Int) < iv ((2 ^ n : Nat) : Int) then _ else _) = _
    rw [if_pos ((iv_lt (sm_k (by omega)) (sm_k (by omega))).mpr (by omega))]
  · have Lk := MD_90 hL (miZ_fr (t := t) (n := n) (z := z) k)
    show f_X11_many__11 _ _ _ _ _ = f_X11_many__11 F (ciZ (zI (miZ t n z k) 90 k (iv (sS t n k))) k 64) 68 (iv lim) (iv ((k + 1 : Nat) : Int))
    rw [f_X11_many__11, mal_of Lk, Option.bind_some]
    show (if iv ((2 ^ n - 1 : Nat) : Int) < iv (k : Int) then _ else f_X11_many__19 (f_X11_many__11 F) (miZ t n z k) 68 (iv lim) (iv (k : Int))) = _
    rw [if_neg (fun x => by have := (iv_lt (sm_k (by omega)) (sm_k (by omega))).mp x; omega), mi_set Lk hB hk]
theorem mn_of (hL : MD z n c t q) (hB : BD n c t q) (hc : ∀ j, j < n → c j ≤ 63) (hl : 0 ≤ lim ∧ lim ≤ 998) : ∃ z', f_X11_many__11 FU z 68 (iv lim) 0 = some (z', iv (wn c t q n lim n (2 ^ n - 1) 0 : Int)) ∧ Fr f90 z z' := by
  have hn := hL.2.1
  have p := Nat.two_pow_pos n
  have f1 : Fr f90 z (zI (miZ t n z (2 ^ n)) 91 0 1) := (miZ_fr (2 ^ n)).zI (Or.inr rfl)
  obtain ⟨r1, r2⟩ := miZ_r (t := t) (n := n) (z := z) (2 ^ n)
  have M1 : SM (zI (miZ t n z (2 ^ n)) 91 0 1) n t := fun S hS => by
    rw [zI_n (by decide)]
    exact r1 S hS
  have C1 : CM (zI (miZ t n z (2 ^ n)) 91 0 1) n (up (fun _ => 0) 0 1) := fun x hx => by
    rw [rI]
    by_cases e : x = 0
    · rw [if_pos ⟨rfl, e⟩, e, up_eq]
      exact n_1
    · rw [if_neg (fun w => e w.2), up_ne e, r2 x hx]
      exact n_0
  have g0 : ∀ (V : Nat → Int) N, gG V (fun _ => 0) 0 N = 0 := fun V N => by
    induction N with
    | zero => rfl
    | succ N ih =>
      show gG V (fun _ => 0) 0 N + (if 0 ≤ N then 0 * V N else 0) = 0
      rw [ih, Int.zero_mul]
      split <;> rfl
  have I1 : IC c t q n lim (up (fun _ => 0) 0 1) 0 := by
    refine ⟨fun x hx => ?_, ?_, ?_⟩
    · by_cases e : x = 0
      · rw [e, up_eq]
        decide
      · rw [up_ne e]
        exact Int.le_refl _
    · rw [gG_up, g0, if_pos ⟨Nat.le_refl _, by omega⟩]
      have v : V1 c t q n lim 0 = (wn c t q n lim n (2 ^ n - 1) 0 : Int) := by
        unfold V1
        have s0 : sS t n 0 = 0 := su_zero n (fun i _ h => by rw [Nat.zero_testBit] at h; exact absurd h (by decide))
        show (wn c t q n lim n ((2 ^ n - 1) ^^^ 0) (sS t n 0 + ((0 : Nat) : Int)) : Int) = _
        rw [Nat.xor_zero, s0]
        rfl
      rw [v]
      omega
    · rw [gG_up, g0, if_pos ⟨Nat.le_refl _, by omega⟩]
      have v : V2 n 0 = 8 ^ n := by
        unfold V2
        have c0 : cb (Nat.testBit (0 / 64)) n = 0 := (gr_inv (c := c) (t := t) (q := q) hB hn 0 (Nat.zero_le _)).2.1
        rw [c0, Nat.sub_zero]
      rw [v]
      omega
  obtain ⟨z2, C2, s1, s2, s3, s4⟩ := ml_out (MD_90 hL f1) hB hc hl M1 C1 I1
  have f2 : Fr f90 z z2 := f1.trans (s4.mono (fun a x => Or.inr x))
  refine ⟨z2, ?_, f2⟩
  rw [mi_of hL hB]
  unfold f_X11_many__102
  have i1 : inb 0 16384 = true := by decide
  have i2 : Int32.toNatClampNeg 0 = 0 := by decide
  rw [if_pos i1, i2, r68_40, s1]
  exact mt_of (MD_90 hL f2) s2 s3
theorem cm63 {n : Nat} {v : Nat → Nat → Int} (h : JV n v) : ∀ j, j < n → cmO v j ≤ 63 := fun j hj => by
  obtain ⟨a, b, c, d⟩ := h j hj
  unfold cmO
  repeat' split
  all_goals omega
theorem s_many (h : INV z sy) : Both (f_X10_many z 0) (fun z => f_X11_many_ z 68) := by
  have h8 := h.1.1.2.1
  have hb := BD_I h.2.2.1
  have hB := BD_O h.2.2.1
  obtain ⟨s1, s2, -⟩ := SR_ok h8 hb
  obtain ⟨z1, k1, k2, k3, k4, k5, k6⟩ := kl_of h
  obtain ⟨L, hL⟩ : ∃ L, L = (SR (cmO sy.2.1) (tkO sy.2.1) (clO sy.2.1) sy.1).1 := ⟨_, rfl⟩
  unfold LKN at k4
  rw [← hL] at k4 s1 s2
  have W : WG z1 sy.1 (cmO sy.2.1) (tkO sy.2.1) (clO sy.2.1) L := ⟨k4.2.2.2.1, k4.2.2.2.2.1, k4.2.2.2.2.2⟩
  obtain ⟨z2, w1, w2⟩ := ways_of k2.1.2.1 hB (lim := L) ⟨s1.1, by omega⟩ W
  have I2 : INV z2 sy := INV_c k2 (w2.mono (fun a e => by unfold f55 at e; unfold sC; omega))
  obtain ⟨t1, t2, t3⟩ := th_of I2.2.1.1 h.2.2.1
  obtain ⟨z3, l1, l2, l3, l4⟩ := ln_of t2 hb
  rw [← hL] at l1
  obtain ⟨z4, m1, m2⟩ := mn_of l2 hB (cm63 h.2.2.1) (lim := L) ⟨s1.1, by omega⟩
  have fM : Fr (fun a => sM a ∨ a = 68) z2 z4 := ((t3.mono (Q := fun a => sM a ∨ a = 68) (fun a e => Or.inl (by unfold sM; omega))).trans (l3.mono (fun a e => by unfold sM; omega))).trans (m2.mono (fun a e => by unfold f90 at e; unfold sM; omega))
  refine ⟨z2, z4, iv (wn (cmO sy.2.1) (tkO sy.2.1) (clO sy.2.1) sy.1 L sy.1 (2 ^ sy.1 - 1) 0 : Int), ?_, ?_, sy, INV_m I2 fM (fun k hk => by rw [(m2 68 (by unfold f90; decide)).1, l4 k hk, (t3 68 (by decide)).1])⟩
  · unfold f_X10_many f_X10_many_0
    rw [k1, Option.bind_some, r0_11, r0_4, w1, Option.bind_some]
  · show f_X11_many_ z2 68 = _
    unfold f_X11_many_ f_X11_many__0
    rw [t1, Option.bind_some, l1, Option.bind_some]
    exact m1
end MANY2
