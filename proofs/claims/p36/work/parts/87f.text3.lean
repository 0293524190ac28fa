/-! TEXT: the model -/
def MI (z : St) (b : Ta) (p k : Nat) : Prop := z.1 68 8 = iv (p : Int) ∧ z.1 68 9 = iv (b.1 : Int) ∧ z.1 68 10 = iv (-1) ∧ z.1 68 11 = iv (k : Int) ∧ ∀ j, j < b.1 → z.1 73 j = iv (b.2 j)
def MV (z : St) (b : Ta) (k : Nat) : Prop := ∀ j, j < k → ∀ w, w < 4 → z.1 74 (4 * j + w) = iv (itX b (plT b j) w)
/-- what the reading of the model leaves alone -/
def FM (z z' : St) : Prop := Fr (fun a => a = 68 ∨ a = 74) z z' ∧ ∀ q, q ≠ 8 → q ≠ 10 → q ≠ 11 → z'.1 68 q = z.1 68 q
section TEXT3
variable {z z1 z2 : St} {b : Ta} {p k : Nat} {v : Nat → Nat → Int}
theorem FM.refl : FM z z := ⟨Fr.refl, fun _ _ _ _ => rfl⟩
theorem FM.trans (h : FM z z1) (g : FM z1 z2) : FM z z2 := ⟨h.1.trans g.1, fun q a c d => by rw [g.2 q a c d, h.2 q a c d]⟩
theorem FM_8 {x : Int32} : FM z (zI z 68 8 x) := ⟨Fr.refl.zI (Or.inl rfl), fun q a _ _ => by rw [rI, if_neg (fun e => a e.2)]⟩
theorem FM_10 {x : Int32} : FM z (zI z 68 10 x) := ⟨Fr.refl.zI (Or.inl rfl), fun q _ a _ => by rw [rI, if_neg (fun e => a e.2)]⟩
theorem FM_11 {x : Int32} : FM z (zI z 68 11 x) := ⟨Fr.refl.zI (Or.inl rfl), fun q _ _ a => by rw [rI, if_neg (fun e => a e.2)]⟩
theorem FM_74 {i : Nat} {x : Int32} : FM z (zI z 74 i x) := ⟨Fr.refl.zI (Or.inr rfl), fun q _ _ _ => by rw [zI_n (by decide)]⟩
theorem MI_8 (h : MI z b p k) {q : Nat} : MI (zI z 68 8 (iv (q : Int))) b q k := by
  obtain ⟨h1, h2, h3, h4, h5⟩ := h
  refine ⟨by rw [rI, if_pos ⟨rfl, rfl⟩], by rw [rI, if_neg (by decide), h2], by rw [rI, if_neg (by decide), h3], by rw [rI, if_neg (by decide), h4], fun j hj => by rw [zI_n (by decide), h5 j hj]⟩
theorem MI_74 (h : MI z b p k) {i : Nat} {x : Int32} : MI (zI z 74 i x) b p k := by
  obtain ⟨h1, h2, h3, h4, h5⟩ := h
  exact ⟨by rw [zI_n (by decide), h1], by rw [zI_n (by decide), h2], by rw [zI_n (by decide), h3], by rw [zI_n (by decide), h4], fun j hj => by rw [zI_n (by decide), h5 j hj]⟩
theorem he_m (hT : TV b) (h : MI z b p k) (hp : p ≤ b.1) : f_X11_here z 68 = some (z, iv (byT b p)) := by
  obtain ⟨h1, h2, h3, h4, h5⟩ := h
  have h60 := hT.1
  unfold f_X11_here f_X11_here_0 f_X11_here_11 f_X11_here_23 f_X11_here_24 byT
  rw [h1, h2]
  by_cases g : p < b.1
  · rw [if_neg (sz_f g (by omega)), inb_k (show p < 60 by omega) (by decide), if_pos rfl, tn (by omega), show rf 68 6 = 73 by decide, h5 p g, if_pos g]
  · rw [if_pos ((iv_le (sm_k (by omega)) (sm_k (by omega))).mpr (by omega)), if_neg g, n_m1]
theorem fa_m (h : MI z b p k) {x : Int32} : f_X11_fails z 68 x = some (zI z 68 10 x) := by
  unfold f_X11_fails f_X11_fails_0 f_X11_fails_7 f_X11_fails_12
  rw [h.2.2.1, if_neg (by decide)]
theorem tk_m (hT : TV b) (h : MI z b p k) (hp : p ≤ b.1) {c : Int} (hc : 0 ≤ c ∧ c ≤ 255) : f_X11_takes z 68 (iv c) = some (if byT b p = c then zI z 68 8 (iv ((p + 1 : Nat) : Int)) else zI z 68 10 (iv (p : Int))) := by
  have bb := byT_b (p := p) hT
  unfold f_X11_takes f_X11_takes_0 f_X11_takes_8 f_X11_takes_21 f_X11_takes_29
  rw [he_m hT h hp, Option.bind_some, h.1, iv_s]
  simp only [iv_eq (show sm (byT b p) from ⟨by omega, by omega⟩) (show sm c from ⟨by omega, by omega⟩), fa_m h, Option.bind_some]
  split <;> rfl
theorem nu_s {F : Nat} {o : Nat} {w a x : Int32} : f_X11_number_7 (F + 1) z o w a x = if (a + 2) ≤ (z.1 o 8) then f_X11_number_57 z o w a x else f_X11_number_17 (f_X11_number_7 F) z o w a x := rfl
theorem nu_d (hT : TV b) (h : MI z b p k) (hp : p ≤ b.1) {K : St → Nat → Int32 → Int32 → Int32 → Option (St × Int32)} {w a : Int32} {x : Int} : f_X11_number_17 K z 68 w a (iv x) = if dgT (byT b p) = -1 then f_X11_number_57 z 68 w a (iv x) else K (zI z 68 8 (iv ((p + 1 : Nat) : Int))) 68 w a (iv (10 * x + dgT (byT b p))) := by
  have bb := byT_b (p := p) hT
  have sb : sm (byT b p) := ⟨by omega, by omega⟩
  unfold f_X11_number_17 f_X11_number_31
  rw [he_m hT h hp, Option.bind_some, show (48 : Int32) = iv 48 by decide, show (57 : Int32) = iv 57 by decide]
  show (f_X11_in z (iv (byT b p)) (iv 48) (iv 57)).bind _ = _
  rw [in_ob sb (sm_d 48) (sm_d 57), Option.bind_some]
  simp only [ob_0]
  unfold dgT
  by_cases g : 48 ≤ byT b p ∧ byT b p ≤ 57
  · rw [if_neg (fun e => e g), if_pos g, if_neg (by omega), he_m hT h hp, Option.bind_some, h.1, iv_s, show (10 : Int32) = iv 10 by decide, iv_mul, iv_add, iv_sub, show 10 * x + byT b p - 48 = 10 * x + (byT b p - 48) by omega]
  · rw [if_pos g, if_neg g, if_pos rfl]
theorem nu_m (hT : TV b) (h : MI z b p k) (hp : p ≤ b.1) {w : Int} (hw : 0 ≤ w ∧ w < 4) : ∃ z' x, f_X11_number z 68 (iv w) = some (z', x) ∧ (nuV b w p ≠ -1 → MI z' b (nuP b w p) k ∧ x = iv (nuV b w p)) ∧ (nuV b w p = -1 → z'.1 68 10 = iv (p : Int)) ∧ FM z z' ∧ z'.1 68 11 = z.1 68 11 ∧ z'.1 74 = z.1 74 := by
  have h60 := hT.1
  have d1 := dgT_b (byT b p)
  have d2 := dgT_b (byT b (p + 1))
  obtain ⟨F, hF⟩ : ∃ F, FU = F + 3 := ⟨FU - 3, by have := FU_8 (n := 8) (by omega); omega⟩
  have sp : ∀ q : Nat, q ≤ 70 → sm (q : Int) := fun q hq => sm_k (by omega)
  unfold f_X11_number f_X11_number_0
  rw [hF, h.1, nu_s, h.1, n_2, iv_add, if_neg (fun e => by have := (iv_le (show sm ((p : Int) + 2) from ⟨by omega, by omega⟩) (sp p (by omega))).mp e; omega), n_0, nu_d hT h hp]
  by_cases g1 : dgT (byT b p) = -1
  · have e1 : nuV b w p = -1 := by
      unfold nuV
      rw [if_pos g1]
    rw [if_pos g1]
    unfold f_X11_number_57 f_X11_number_73 f_X11_number_78
    rw [h.1, if_pos rfl, fa_m h, Option.bind_some, e1]
    exact ⟨_, _, rfl, fun e => absurd rfl e, fun _ => by rw [rI, if_pos ⟨rfl, rfl⟩], FM_10, by rw [rI, if_neg (by decide)], zI_n (by decide)⟩
  · have pn := dg_in g1
    have nb := nuN_b g1
    have h1 := MI_8 h (q := p + 1)
    rw [if_neg g1, nu_s, h1.1, n_2, iv_add, if_neg (fun e => by have := (iv_le (show sm ((p : Int) + 2) from ⟨by omega, by omega⟩) (sp (p + 1) (by omega))).mp e; omega), nu_d hT h1 (by omega)]
    -- what is left: the number read, the place behind it
    have fin : ∀ (z' : St) (q : Nat), MI z' b q k → q ≤ 70 → q = (if dgT (byT b (p + 1)) = -1 then p + 1 else p + 2) → FM z z' → z'.1 74 = z.1 74 → ∃ z'' x, f_X11_number_57 z' 68 (iv w) (iv (p : Int)) (iv (nuN b p)) = some (z'', x) ∧ (nuV b w p ≠ -1 → MI z'' b (nuP b w p) k ∧ x = iv (nuV b w p)) ∧ (nuV b w p = -1 → z''.1 68 10 = iv (p : Int)) ∧ FM z z'' ∧ z''.1 68 11 = z.1 68 11 ∧ z''.1 74 = z.1 74 := fun z' q hz q70 hq hf h74 => by
      have pq : p < q := by
        rw [hq]
        split <;> omega
      unfold f_X11_number_57 f_X11_number_65 f_X11_number_73 f_X11_number_78
      rw [hz.1, if_neg (fun e => by have := (iv_eq (sp q q70) (sp p (by omega))).mp e; omega), mm_k (show sm (nuN b p) from ⟨by omega, by omega⟩) hw, Option.bind_some]
      simp only [ob_0]
      have e11 : z'.1 68 11 = z.1 68 11 := by rw [hz.2.2.2.1, h.2.2.2.1]
      by_cases g2 : loT w ≤ nuN b p ∧ nuN b p ≤ hiT w
      · have e1 : nuV b w p = nuN b p := by
          unfold nuV
          rw [if_neg g1, if_pos g2]
        have e2 : nuP b w p = q := by
          unfold nuP
          rw [if_neg (by omega), hq]
        rw [if_neg (fun e => e g2), e1, e2]
        exact ⟨z', _, rfl, fun _ => ⟨hz, rfl⟩, fun e => by omega, hf, e11, h74⟩
      · have e1 : nuV b w p = -1 := by
          unfold nuV
          rw [if_neg g1, if_neg g2]
        rw [if_pos g2, e1, fa_m hz, Option.bind_some]
        exact ⟨_, _, rfl, fun e => absurd rfl e, fun _ => by rw [rI, if_pos ⟨rfl, rfl⟩], hf.trans FM_10, by rw [rI, if_neg (by decide), e11], by rw [zI_n (by decide), h74]⟩
    by_cases g3 : dgT (byT b (p + 1)) = -1
    · have en : nuN b p = 10 * 0 + dgT (byT b p) := by
        unfold nuN
        rw [if_pos g3]
        omega
      rw [if_pos g3, ← en]
      exact fin _ (p + 1) h1 (by omega) (by rw [if_pos g3]) FM_8 (zI_n (by decide))
    · have en : nuN b p = 10 * (10 * 0 + dgT (byT b p)) + dgT (byT b (p + 1)) := by
        unfold nuN
        rw [if_neg g3]
        omega
      have h2 := MI_8 h1 (q := p + 2)
      rw [if_neg g3, ← en, nu_s, h2.1, n_2, iv_add, if_pos ((iv_le (show sm ((p : Int) + 2) from ⟨by omega, by omega⟩) (sp (p + 2) (by omega))).mpr (by omega))]
      exact fin _ (p + 2) h2 (by omega) (by rw [if_neg g3]) (FM_8.trans FM_8) (by rw [zI_n (by decide), zI_n (by decide)])
end TEXT3
