/-! SEARCH: a node of the model -/
def SEm (z : St) (s : Se) : Prop := z.1 68 27 = iv s.1 ∧ z.1 68 28 = iv s.2.1 ∧ z.1 68 29 = iv s.2.2
/-- rows of the model below a place stay -/
def kpm (z z' : St) (p : Nat) : Prop := ∀ a, 82 ≤ a → a ≤ 87 → ∀ i, i < p → z'.1 a i = z.1 a i
section MVISIT
variable {z z1 z2 : St} {n p : Nat} {c t q : Nat → Int} {s : Se}
theorem MG_fr {y : Ly} (h : MG z n y) (hf : ∀ a, 78 ≤ a → a ≤ 80 → z1.1 a = z.1 a) : MG z1 n y := by
  unfold MG at *
  rw [hf 78 (by decide) (by decide), hf 79 (by decide) (by decide), hf 80 (by decide) (by decide)]
  exact h
/-- looks, any number of jobs -/
theorem lo_m (hL : MD z n c t q) (hB : BD n c t q) (hM : MG z n (gr c t q n n)) : ∃ z', f_X11_visits_43 z 68 (iv (gr c t q n n).2.2.2.2.2.2.1) = f_X11_visits_60 z' 68 ∧ z'.1 68 24 = iv (svV c t q n) ∧ (0 < n → ML z' c t q n) ∧ Fr (fun a => a = 68) z z' ∧ ∀ k, (k < 22 ∨ 26 < k) → z'.1 68 k = z.1 68 k := by
  obtain ⟨za, hza⟩ : ∃ za, za = zI z 68 24 (-1) := ⟨_, rfl⟩
  have fa : Fr (fun a => a = 68) z za := by
    rw [hza]
    exact fr1 Fr.refl
  have ka : ∀ k, (k < 22 ∨ 26 < k) → za.1 68 k = z.1 68 k := fun k hk => by rw [hza, rI, if_neg (by omega)]
  have hLa : MD za n c t q := MD_fr hL (ka 5 (by decide)) (fun a e1 e2 => (fa a (by omega)).1)
  unfold f_X11_visits_43 f_X11_visits_55
  rw [← hza, hLa.1, n_0]
  rcases Nat.eq_zero_or_pos n with e0 | e0
  · subst e0
    have e4 := bk_neg0 hB
    refine ⟨za, ?_, ?_, fun e => absurd e (by decide), fa, ka⟩
    · rw [if_pos (show iv ((0 : Nat) : Int) ≤ iv 0 by decide)]
    · unfold svV
      rw [if_pos e4, hza, rI, if_pos ⟨rfl, rfl⟩]
      rfl
  · have h8 := hL.2.1
    obtain ⟨z', l1, l2, l3, l4⟩ := ml_looks hLa hB (MG_fr hM (fun a e1 e2 => (fa a (by omega)).1)) e0
    refine ⟨z', ?_, l2.2.2.1, fun _ => l2, fa.trans l3, fun k hk => by rw [l4 k hk, ka k hk]⟩
    rw [if_neg (fun e => by have := (iv_le (sm_k (show n < 2147483648 by omega)) (sm_d 0)).mp e; omega), l1, Option.bind_some]
theorem vi_m (hL : MD z n c t q) (hB : BD n c t q) (hp : z.1 68 30 = iv (p : Int)) (p8 : p < 400) (hs : SEm z s) (hv : SV s) : ∃ z', f_X11_visits z 68 = some z' ∧ SEm z' (svN (gr c t q n n).2.2.2.2.2.2.1 s) ∧ MD z' n c t q ∧ z'.1 68 30 = iv (p : Int) ∧ z'.1 82 p = iv (svV c t q n) ∧ z'.1 83 p = iv 0 ∧ (0 ≤ bkB q n (gr c t q n n) → z'.1 84 p = iv (q (svB c t q n)) ∧ z'.1 85 p = iv (c (svB c t q n)) ∧ z'.1 86 p = iv (svQ c t q n) ∧ z'.1 87 p = iv (svR c t q n)) ∧ kpm z z' p ∧ Fr (fun a => a = 68 ∨ (78 ≤ a ∧ a ≤ 87)) z z' ∧ ∀ k, k68 k → z'.1 68 k = z.1 68 k := by
  have h8 := hL.2.1
  obtain ⟨s1, s2, s3⟩ := hs
  obtain ⟨v1, v2⟩ := hv
  obtain ⟨f, hf⟩ : ∃ f, f = (gr c t q n n).2.2.2.2.2.2.1 := ⟨_, rfl⟩
  have sf : sm f := by rw [hf]; exact gr_fin_b hB h8
  obtain ⟨za, hza⟩ : ∃ za, za = zI z 68 28 (iv (s.2.1 + 1)) := ⟨_, rfl⟩
  have hLa : MD za n c t q := MD_fr hL (by rw [hza, rI, if_neg (by decide)]) (fun a e1 e2 => by rw [hza, zI_n (by omega)])
  have hGa := mgZ_MG (z := za) (c := c) (t := t) (q := q) hB h8 n (Nat.le_refl _)
  obtain ⟨zb, hzb⟩ : ∃ zb, zb = zI (mgZ c t q za n n) 68 19 (iv (gr c t q n n).2.2.2.2.2.1) := ⟨_, rfl⟩
  have lg : f_X11_greedily za 68 = some (zb, iv f) := by
    rw [hzb, hf]
    exact mg_of hLa hB
  have fm := mgZ_fr (c := c) (t := t) (q := q) (z := za) (n := n) n
  have fb : Fr (fun a => a = 68 ∨ (78 ≤ a ∧ a ≤ 87)) z zb := by
    rw [hzb]
    refine Fr.zI ?_ (Or.inl rfl)
    have f1 : Fr (fun a => a = 68 ∨ (78 ≤ a ∧ a ≤ 87)) z za := by
      rw [hza]
      exact Fr.refl.zI (Or.inl rfl)
    exact f1.trans (fm.mono (fun a e => by omega))
  have kb : ∀ k, k ≠ 19 → k ≠ 28 → zb.1 68 k = z.1 68 k := fun k h1 h2 => by rw [hzb, rI, if_neg (fun e => h1 e.2), (fm 68 (by decide)).1, hza, rI, if_neg (fun e => h2 e.2)]
  have k28 : zb.1 68 28 = iv (s.2.1 + 1) := by rw [hzb, rI, if_neg (by decide), (fm 68 (by decide)).1, hza, rI, if_pos ⟨rfl, rfl⟩]
  have hGb : MG zb n (gr c t q n n) := MG_fr hGa (fun a e1 e2 => by rw [hzb, zI_n (by omega)])
  have hLb : MD zb n c t q := MD_fr hL (kb 5 (by decide) (by decide)) (fun a e1 e2 => (fb a (by omega)).1)
  have rb : ∀ a, 82 ≤ a → a ≤ 87 → zb.1 a = z.1 a := fun a e1 e2 => by rw [hzb, zI_n (by omega), (fm a (by omega)).1, hza, zI_n (by omega)]
  -- the best is known
  have hg : ∃ zg, f_X11_visits z 68 = f_X11_visits_43 zg 68 (iv f) ∧ SEm zg (svN f s) ∧ (∀ k, k ≠ 27 → k ≠ 29 → zg.1 68 k = zb.1 68 k) ∧ Fr (fun a => a = 68) zb zg := by
    have ss : sm s.1 := ⟨by omega, by omega⟩
    have e281 : z.1 68 28 + 1 = iv (s.2.1 + 1) := by rw [s2, n_1, iv_add]
    have k30 : f_X11_visits_30 zb 68 (iv f) = f_X11_visits_43 (zI (zI zb 68 27 (iv f)) 68 29 (iv (s.2.1 + 1))) 68 (iv f) := by
      unfold f_X11_visits_30
      rw [rI, if_neg (by decide), k28]
    have se : (s.1 = -1 ∨ f < s.1) → SEm (zI (zI zb 68 27 (iv f)) 68 29 (iv (s.2.1 + 1))) (svN f s) := fun e => by
      unfold svN SEm
      rw [if_pos e]
      refine ⟨?_, ?_, ?_⟩
      · rw [rI, if_neg (by decide), rI, if_pos ⟨rfl, rfl⟩]
      · rw [rI, if_neg (by decide), rI, if_neg (by decide), k28]
      · rw [rI, if_pos ⟨rfl, rfl⟩]
    have kk : ∀ k, k ≠ 27 → k ≠ 29 → (zI (zI zb 68 27 (iv f)) 68 29 (iv (s.2.1 + 1))).1 68 k = zb.1 68 k := fun k h1 h2 => by rw [rI, if_neg (fun e => h2 e.2), rI, if_neg (fun e => h1 e.2)]
    unfold f_X11_visits f_X11_visits_0
    rw [e281, ← hza, lg, Option.bind_some]
    show ∃ zg, (if zb.1 68 27 < 0 then f_X11_visits_30 zb 68 (iv f) else f_X11_visits_22 zb 68 (iv f)) = _ ∧ _
    rw [kb 27 (by decide) (by decide), s1, n_0]
    by_cases g1 : s.1 = -1
    · rw [if_pos ((iv_ltk ss 0).mpr (by omega)), k30]
      exact ⟨_, rfl, se (Or.inl g1), kk, fr1 (fr1 Fr.refl)⟩
    · rw [if_neg (fun e => by have := (iv_ltk ss 0).mp e; omega)]
      unfold f_X11_visits_22
      rw [kb 27 (by decide) (by decide), s1]
      by_cases g2 : f < s.1
      · rw [if_neg (fun e => by have := (iv_le ss sf).mp e; omega), k30]
        exact ⟨_, rfl, se (Or.inr g2), kk, fr1 (fr1 Fr.refl)⟩
      · rw [if_pos ((iv_le ss sf).mpr (by omega))]
        refine ⟨zb, rfl, ?_, fun _ _ _ => rfl, Fr.refl⟩
        unfold svN SEm
        rw [if_neg (fun e => by rcases e with e | e; exact g1 e; exact g2 e)]
        exact ⟨by rw [kb 27 (by decide) (by decide), s1], k28, by rw [kb 29 (by decide) (by decide), s3]⟩
  obtain ⟨zg, g1, g2, g3, g4⟩ := hg
  have hLg : MD zg n c t q := MD_fr hLb (g3 5 (by decide) (by decide)) (fun a e1 e2 => (g4 a (by omega)).1)
  obtain ⟨zf, f1, f2, f3, f4, f5⟩ := lo_m hLg hB (MG_fr hGb (fun a e1 e2 => (g4 a (by omega)).1))
  rw [← hf] at f1 ⊢
  rw [f1] at g1
  have hLf : MD zf n c t q := MD_fr hLg (f5 5 (by decide)) (fun a e1 e2 => (f4 a (by omega)).1)
  have kf : ∀ k, (k < 19 ∨ k = 20 ∨ k = 21 ∨ 29 < k) → zf.1 68 k = z.1 68 k := fun k hk => by rw [f5 k (by omega), g3 k (by omega) (by omega), kb k (by omega) (by omega)]
  have rf' : ∀ a, 82 ≤ a → a ≤ 87 → zf.1 a = z.1 a := fun a e1 e2 => by rw [(f4 a (by omega)).1, (g4 a (by omega)).1, rb a e1 e2]
  have ff : Fr (fun a => a = 68 ∨ (78 ≤ a ∧ a ≤ 87)) z zf := (fb.trans (g4.mono (fun a e => Or.inl e))).trans (f4.mono (fun a e => Or.inl e))
  have i1 : inb (iv (p : Int)) 400 = true := inb_k p8 (by decide)
  have i2 : (iv (p : Int)).toNatClampNeg = p := tn (by omega)
  have e30 : zf.1 68 30 = iv (p : Int) := by rw [kf 30 (by decide), hp]
  obtain ⟨zh, hzh⟩ : ∃ zh, zh = zI (zI zf 82 p (iv (svV c t q n))) 83 p (iv 0) := ⟨_, rfl⟩
  have h68 : zh.1 68 = zf.1 68 := by rw [hzh, zI_n (by decide), zI_n (by decide)]
  have fh : Fr (fun a => a = 68 ∨ (78 ≤ a ∧ a ≤ 87)) z zh := by
    rw [hzh]
    exact (ff.zI (by decide)).zI (by decide)
  have hSf : SEm zf (svN f s) := by
    unfold SEm at g2 ⊢
    rw [f5 27 (by decide), f5 28 (by decide), f5 29 (by decide)]
    exact g2
  have st : f_X11_visits z 68 = if svV c t q n < 0 then some zh else f_X11_visits_90 zh 68 := by
    rw [g1]
    unfold f_X11_visits_60 f_X11_visits_154
    simp only [r68_31, r68_32, rI, e30, f2, i1, i2, reduceIte, Nat.reduceEqDiff, false_and, if_true, iv_lt0 (svV_sm hB h8)]
    rw [hzh]
    rfl
  have kq : ∀ k, k68 k → zf.1 68 k = z.1 68 k := fun k hk => kf k (by unfold k68 at hk; omega)
  by_cases nb : bkB q n (gr c t q n n) < 0
  · have e : svV c t q n = -1 := by
      unfold svV
      rw [if_pos nb]
    rw [if_pos (by rw [e]; decide)] at st
    refine ⟨zh, st, ?_, MD_fr hLf (by rw [h68]) (fun a e1 e2 => by rw [hzh, zI_n (by omega), zI_n (by omega)]), by rw [h68, e30], by rw [hzh, zI_n (by decide), rI, if_pos ⟨rfl, rfl⟩], by rw [hzh, rI, if_pos ⟨rfl, rfl⟩], fun w => absurd w (by omega), fun a e1 e2 i hi => by rw [hzh, rI, if_neg (by omega), rI, if_neg (by omega), rf' a e1 e2], fh, fun k hk => by rw [h68, kq k hk]⟩
    unfold SEm at hSf ⊢
    rw [h68]
    exact hSf
  · have nb' : 0 ≤ bkB q n (gr c t q n n) := Int.not_lt.mp nb
    have e : svV c t q n = (svB c t q n : Int) := by
      unfold svV
      rw [if_neg nb]
    have lt := (svB_lt hB h8 nb').1
    obtain ⟨j, hj⟩ : ∃ j, j = svB c t q n := ⟨_, rfl⟩
    rw [← hj] at lt e ⊢
    have n0 : 0 < n := by omega
    rw [if_neg (by rw [e]; omega)] at st
    have hML := f3 n0
    have j1 : inb (iv (j : Int)) 8 = true := inb_k (by omega) (by decide)
    have j2 : (iv (j : Int)).toNatClampNeg = j := tn (by omega)
    have e24 : zf.1 68 24 = iv (j : Int) := by rw [f2, e]
    obtain ⟨zk, hzk⟩ : ∃ zk, zk = zI (zI zh 84 p (iv (q j))) 85 p (iv (c j)) := ⟨_, rfl⟩
    have k68k : zk.1 68 = zf.1 68 := by rw [hzk, zI_n (by decide), zI_n (by decide), h68]
    have hLk : MD zk n c t q := MD_fr hLf (by rw [k68k]) (fun a e1 e2 => by rw [hzk, zI_n (by omega), zI_n (by omega), hzh, zI_n (by omega), zI_n (by omega)])
    have hMk : ML zk c t q n := by
      unfold ML at hML ⊢
      rw [k68k]
      exact hML
    have b0 := (brd_of hLk hB hMk nb').1
    obtain ⟨zl, hzl⟩ : ∃ zl, zl = zI zk 86 p (iv (svQ c t q n)) := ⟨_, rfl⟩
    have l68 : zl.1 68 = zf.1 68 := by rw [hzl, zI_n (by decide), k68k]
    have hLl : MD zl n c t q := MD_fr hLk (by rw [l68, k68k]) (fun a e1 e2 => by rw [hzl, zI_n (by omega)])
    have hMl : ML zl c t q n := by
      unfold ML at hMk ⊢
      rw [l68, ← k68k]
      exact hMk
    have b1 := (brd_of hLl hB hMl nb').2
    obtain ⟨zr, hzr⟩ : ∃ zr, zr = zI zl 87 p (iv (svR c t q n)) := ⟨_, rfl⟩
    have r68 : zr.1 68 = zf.1 68 := by rw [hzr, zI_n (by decide), l68]
    have h77 : zh.1 77 j = iv (q j) := by rw [hzh, zI_n (by decide), zI_n (by decide), (hLf.2.2 j lt).2.2]
    have h75 : zh.1 75 j = iv (c j) := by rw [hzh, zI_n (by decide), zI_n (by decide), (hLf.2.2 j lt).1]
    have rd : f_X11_visits_90 zh 68 = some zr := by
      have h24 : zh.1 68 24 = iv (j : Int) := by rw [h68, e24]
      have h30 : zh.1 68 30 = iv (p : Int) := by rw [h68, e30]
      have k30 : zk.1 68 30 = iv (p : Int) := by rw [k68k, e30]
      have l30 : zl.1 68 30 = iv (p : Int) := by rw [l68, e30]
      unfold f_X11_visits_90 f_X11_visits_154
      simp only [r68_33, r68_34, r68_35, r68_36, show rf 68 15 = 77 by decide, show rf 68 13 = 75 by decide, rI, h24, h30, h77, h75, i1, i2, j1, j2, reduceIte, Nat.reduceEqDiff, false_and, if_true]
      rw [← hzk, b0, Option.bind_some]
      simp only [rI, i1, i2, reduceIte, Nat.reduceEqDiff, false_and, if_true]
      rw [← hzl, b1, Option.bind_some]
      rw [k30, i1, i2, if_pos rfl, hzr]
    refine ⟨zr, by rw [st, rd], ?_, MD_fr hLl (by rw [r68, l68]) (fun a e1 e2 => by rw [hzr, zI_n (by omega)]), by rw [r68, e30], ?_, ?_, fun _ => ⟨?_, ?_, ?_, ?_⟩, fun a e1 e2 i hi => ?_, ?_, fun k hk => by rw [r68, kq k hk]⟩
    · unfold SEm at hSf ⊢
      rw [r68]
      exact hSf
    · rw [hzr, zI_n (by decide), hzl, zI_n (by decide), hzk, zI_n (by decide), zI_n (by decide), hzh, zI_n (by decide), rI, if_pos ⟨rfl, rfl⟩, e]
    · rw [hzr, zI_n (by decide), hzl, zI_n (by decide), hzk, zI_n (by decide), zI_n (by decide), hzh, rI, if_pos ⟨rfl, rfl⟩]
    · rw [hzr, zI_n (by decide), hzl, zI_n (by decide), hzk, zI_n (by decide), rI, if_pos ⟨rfl, rfl⟩]
    · rw [hzr, zI_n (by decide), hzl, zI_n (by decide), hzk, rI, if_pos ⟨rfl, rfl⟩]
    · rw [hzr, zI_n (by decide), hzl, rI, if_pos ⟨rfl, rfl⟩]
    · rw [hzr, rI, if_pos ⟨rfl, rfl⟩]
    · rw [hzr, rI, if_neg (by omega), hzl, rI, if_neg (by omega), hzk, rI, if_neg (by omega), rI, if_neg (by omega), hzh, rI, if_neg (by omega), rI, if_neg (by omega), rf' a e1 e2]
    · rw [hzr, hzl, hzk]
      exact (((fh.zI (by decide)).zI (by decide)).zI (by decide)).zI (by decide)
end MVISIT
