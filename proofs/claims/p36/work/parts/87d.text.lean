/-! TEXT: how ITEMS are read; the class -/
def byT (b : Ta) (p : Nat) : Int := if p < b.1 then b.2 p else -1
def klT (x : Int) : Int := if x = 112 then 0 else if x = 114 then 1 else if x = 104 then 2 else if x = 100 then 3 else if x = 109 then 4 else if x = 115 then 5 else -1
def dgT (x : Int) : Int := if 48 ≤ x ∧ x ≤ 57 then x - 48 else -1
def nuN (b : Ta) (p : Nat) : Int := if dgT (byT b (p + 1)) = -1 then dgT (byT b p) else dgT (byT b p) * 10 + dgT (byT b (p + 1))
def nuV (b : Ta) (w : Int) (p : Nat) : Int := if dgT (byT b p) = -1 then -1 else if loT w ≤ nuN b p ∧ nuN b p ≤ hiT w then nuN b p else -1
def nuP (b : Ta) (w : Int) (p : Nat) : Nat := if nuV b w p = -1 then p else if dgT (byT b (p + 1)) = -1 then p + 1 else p + 2
def t1P (b : Ta) (p : Nat) : Nat := nuP b 1 (p + 1)
def t2P (b : Ta) (p : Nat) : Nat := nuP b 2 (t1P b p + 1)
def t3P (b : Ta) (p : Nat) : Nat := nuP b 3 (t2P b p + 1)
abbrev itOK (b : Ta) (p : Nat) : Prop := klT (byT b p) ≠ -1 ∧ nuV b 1 (p + 1) ≠ -1 ∧ byT b (t1P b p) = 44 ∧ nuV b 2 (t1P b p + 1) ≠ -1 ∧ byT b (t2P b p) = 44 ∧ nuV b 3 (t2P b p + 1) ≠ -1
def itF (b : Ta) (p : Nat) : Nat := if klT (byT b p) = -1 then p else if nuV b 1 (p + 1) = -1 then p + 1 else if byT b (t1P b p) ≠ 44 then t1P b p else if nuV b 2 (t1P b p + 1) = -1 then t1P b p + 1 else if byT b (t2P b p) ≠ 44 then t2P b p else t2P b p + 1
def itX (b : Ta) (p : Nat) (w : Nat) : Int := if w = 0 then klT (byT b p) else if w = 1 then nuV b 1 (p + 1) else if w = 2 then nuV b 2 (t1P b p + 1) else nuV b 3 (t2P b p + 1)
section TEXT
variable {z z1 z2 : St} {b : Ta} {p k : Nat} {v : Nat → Nat → Int}
theorem byT_b (hT : TV b) : -1 ≤ byT b p ∧ byT b p ≤ 255 := by
  unfold byT
  by_cases h : p < b.1
  · rw [if_pos h]
    have := hT.2 p h
    omega
  · rw [if_neg h]
    omega
theorem dgT_b (x : Int) : -1 ≤ dgT x ∧ dgT x ≤ 9 := by
  unfold dgT
  split <;> omega
theorem nuN_b : dgT (byT b p) ≠ -1 → 0 ≤ nuN b p ∧ nuN b p ≤ 99 := fun h => by
  have a := dgT_b (byT b p)
  have c := dgT_b (byT b (p + 1))
  unfold nuN
  split <;> omega
theorem nuV_b {w : Int} : -1 ≤ nuV b w p ∧ nuV b w p ≤ 99 := by
  unfold nuV
  by_cases h : dgT (byT b p) = -1
  · rw [if_pos h]
    omega
  · have := nuN_b h
    rw [if_neg h]
    split <;> omega
theorem dg_in (hd : dgT (byT b p) ≠ -1) : p < b.1 := by
  unfold byT at hd
  by_cases h : p < b.1
  · exact h
  · rw [if_neg h] at hd
    exact absurd rfl hd
theorem nuP_b {w : Int} (hp : p ≤ b.1) : p ≤ nuP b w p ∧ nuP b w p ≤ b.1 ∧ (nuV b w p ≠ -1 → p + 1 ≤ nuP b w p) := by
  unfold nuP
  by_cases h : nuV b w p = -1
  · rw [if_pos h]
    exact ⟨Nat.le_refl _, hp, fun e => absurd h e⟩
  · rw [if_neg h]
    have hd : dgT (byT b p) ≠ -1 := fun e => by
      unfold nuV at h
      rw [if_pos e] at h
      exact h rfl
    have := dg_in hd
    by_cases h2 : dgT (byT b (p + 1)) = -1
    · rw [if_pos h2]
      omega
    · rw [if_neg h2]
      have := dg_in h2
      omega
def PC (z : St) (b : Ta) (p : Nat) : Prop := z.1 19 1 = iv (b.1 : Int) ∧ z.1 19 2 = iv (p : Int) ∧ ∀ j, j < b.1 → z.1 20 j = iv (b.2 j)
theorem PC_p (h : PC z b p) {q : Nat} : PC (zI z 19 2 (iv (q : Int))) b q := by
  refine ⟨?_, ?_, fun j hj => ?_⟩
  · rw [rI, if_neg (by decide)]
    exact h.1
  · rw [rI, if_pos ⟨rfl, rfl⟩]
  · rw [zI_n (by decide)]
    exact h.2.2 j hj
theorem bh_c (hT : TV b) (h : PC z b p) (hp : p ≤ b.1) : f_X8_byteHere z 19 = some (z, iv (byT b p)) := by
  have h60 := hT.1
  have sp : sm (p : Int) := sm_k (by omega)
  unfold f_X8_byteHere f_X8_byteHere_0 f_X8_byteHere_7 f_X8_byteHere_18 f_X8_byteHere_30 f_X8_byteHere_42 f_X8_byteHere_43 byT
  rw [h.1, h.2.1, if_neg (fun e => by have := (iv_lt0 sp).mp e; omega)]
  by_cases g : p < b.1
  · rw [if_neg (fun e => by have := (iv_le (sm_k (by omega)) sp).mp e; omega), show (60 : Int32) = iv 60 by decide, if_neg (fun e => by have := (iv_kle sp 60).mp e; omega), inb_k (show p < 60 by omega) (by decide), if_pos rfl, tn (by omega), show rf 19 0 = 20 by decide, h.2.2 p g, if_pos g]
  · rw [if_pos ((iv_le (sm_k (by omega)) sp).mpr (by omega)), if_neg g, n_m1]
theorem dh_c (hT : TV b) (h : PC z b p) (hp : p ≤ b.1) : f_X8_digitHere z 19 = some (z, iv (dgT (byT b p))) := by
  have bb := byT_b (p := p) hT
  have sb : sm (byT b p) := ⟨by omega, by omega⟩
  unfold f_X8_digitHere f_X8_digitHere_0 f_X8_digitHere_11 f_X8_digitHere_17 f_X8_digitHere_24 f_X8_digitHere_25 dgT
  rw [bh_c hT h hp, Option.bind_some, show (48 : Int32) = iv 48 by decide, show (57 : Int32) = iv 57 by decide]
  simp only [iv_ltk sb 48, iv_klt sb 57, iv_sub, n_m1]
  by_cases g1 : byT b p < 48
  · rw [if_pos g1, if_neg (by omega)]
  · rw [if_neg g1]
    by_cases g2 : 57 < byT b p
    · rw [if_pos g2, if_neg (by omega)]
    · rw [if_neg g2, if_pos (by omega)]
theorem rn_c (hT : TV b) (h : PC z b p) (hp : p ≤ b.1) {w : Int} (hw : 0 ≤ w ∧ w < 4) : ∃ z', f_X8_readNumber z 19 (iv w) = some (z', iv (nuV b w p)) ∧ PC z' b (nuP b w p) ∧ Fr (fun a => a = 19) z z' := by
  have h60 := hT.1
  have d1 := dgT_b (byT b p)
  have d2 := dgT_b (byT b (p + 1))
  unfold f_X8_readNumber f_X8_readNumber_0 f_X8_readNumber_15 f_X8_readNumber_17
  rw [dh_c hT h hp, Option.bind_some, n_m1, h.2.1, iv_s]
  have s1 : sm (dgT (byT b p)) := ⟨by omega, by omega⟩
  have s2 : sm (dgT (byT b (p + 1))) := ⟨by omega, by omega⟩
  simp only [iv_eqk s1 (-1)]
  by_cases g1 : dgT (byT b p) = -1
  · have e1 : nuV b w p = -1 := by
      unfold nuV
      rw [if_pos g1]
    have e2 : nuP b w p = p := by
      unfold nuP
      rw [if_pos e1]
    rw [if_pos g1, e1, e2]
    exact ⟨z, rfl, h, Fr.refl⟩
  · have pn := dg_in g1
    have nb := nuN_b g1
    rw [if_neg g1, dh_c hT (PC_p h (q := p + 1)) (by omega), Option.bind_some]
    simp only [iv_eqk s2 (-1)]
    -- what is left: the number read, the place behind it
    have fin : ∀ (z' : St) (q : Nat), PC z' b q → q = (if dgT (byT b (p + 1)) = -1 then p + 1 else p + 2) → Fr (fun a => a = 19) z z' → ∃ z'', f_X8_readNumber_57 z' 19 (iv w) (iv (p : Int)) (iv (nuN b p)) = some (z'', iv (nuV b w p)) ∧ PC z'' b (nuP b w p) ∧ Fr (fun a => a = 19) z z'' := fun z' q hz hq hf => by
      unfold f_X8_readNumber_57 f_X8_readNumber_65 f_X8_readNumber_72
      rw [cm_k (show sm (nuN b p) from ⟨by omega, by omega⟩) hw, Option.bind_some]
      simp only [ob_0]
      by_cases g2 : loT w ≤ nuN b p ∧ nuN b p ≤ hiT w
      · have e1 : nuV b w p = nuN b p := by
          unfold nuV
          rw [if_neg g1, if_pos g2]
        have e2 : nuP b w p = q := by
          unfold nuP
          rw [if_neg (by omega), hq]
        rw [if_neg (fun e => e g2), e1, e2]
        exact ⟨z', rfl, hz, hf⟩
      · have e1 : nuV b w p = -1 := by
          unfold nuV
          rw [if_neg g1, if_neg g2]
        have e2 : nuP b w p = p := by
          unfold nuP
          rw [if_pos e1]
        rw [if_pos g2, e1, e2, n_m1]
        exact ⟨_, rfl, PC_p hz, fr1 hf⟩
    by_cases g3 : dgT (byT b (p + 1)) = -1
    · have en : nuN b p = dgT (byT b p) := by
        unfold nuN
        rw [if_pos g3]
      have r := fin _ (p + 1) (PC_p h (q := p + 1)) (by rw [if_pos g3]) (fr1 Fr.refl)
      rw [en] at r
      rw [if_pos g3]
      exact r
    · have en : nuN b p = dgT (byT b p) * 10 + dgT (byT b (p + 1)) := by
        unfold nuN
        rw [if_neg g3]
      have r := fin _ (p + 2) (PC_p (PC_p h (q := p + 1)) (q := p + 2)) (by rw [if_neg g3]) (fr1 (fr1 Fr.refl))
      rw [en] at r
      rw [if_neg g3]
      unfold f_X8_readNumber_39
      have e5 : (zI z 19 2 (iv ((p + 1 : Nat) : Int))).1 19 2 + 1 = iv ((p + 2 : Nat) : Int) := by
        rw [rI, if_pos ⟨rfl, rfl⟩, iv_s]
      rw [e5, show (10 : Int32) = iv 10 by decide, iv_mul, iv_add]
      exact r
theorem rs_c (hT : TV b) (h : PC z b p) (hp : p ≤ b.1) {c : Int} (hc : 0 ≤ c ∧ c ≤ 255) : f_X8_readSign z 19 (iv c) = some (if byT b p = c then (zI z 19 2 (iv ((p + 1 : Nat) : Int)), 1) else (z, 0)) := by
  have bb := byT_b (p := p) hT
  unfold f_X8_readSign f_X8_readSign_0 f_X8_readSign_8 f_X8_readSign_10
  rw [bh_c hT h hp, Option.bind_some, h.2.1, iv_s]
  simp only [iv_eq (show sm (byT b p) from ⟨by omega, by omega⟩) (show sm c from ⟨by omega, by omega⟩)]
  split <;> rfl
theorem kl_c {x : Int} (sx : sm x) : f_X8_kindOf z (iv x) = some (z, iv (klT x)) := by
  unfold f_X8_kindOf f_X8_kindOf_0 f_X8_kindOf_90 f_X8_kindOf_82 f_X8_kindOf_80 f_X8_kindOf_88 f_X8_kindOf_84 f_X8_kindOf_92 f_X8_kindOf_86 klT
  rw [show (100 : Int32) = iv 100 by decide, show (101 : Int32) = iv 101 by decide, show (102 : Int32) = iv 102 by decide, show (103 : Int32) = iv 103 by decide, show (104 : Int32) = iv 104 by decide, show (105 : Int32) = iv 105 by decide, show (106 : Int32) = iv 106 by decide, show (107 : Int32) = iv 107 by decide, show (108 : Int32) = iv 108 by decide, show (109 : Int32) = iv 109 by decide, show (110 : Int32) = iv 110 by decide, show (111 : Int32) = iv 111 by decide, show (112 : Int32) = iv 112 by decide, show (113 : Int32) = iv 113 by decide, show (114 : Int32) = iv 114 by decide, show (115 : Int32) = iv 115 by decide, n_m1, n_0, n_1, n_2, n_3, n_4, show (5 : Int32) = iv 5 by decide]
  simp only [iv_eqk sx 100, iv_eqk sx 101, iv_eqk sx 102, iv_eqk sx 103, iv_eqk sx 104, iv_eqk sx 105, iv_eqk sx 106, iv_eqk sx 107, iv_eqk sx 108, iv_eqk sx 109, iv_eqk sx 110, iv_eqk sx 111, iv_eqk sx 112, iv_eqk sx 113, iv_eqk sx 114, iv_eqk sx 115]
  grind (splits := 40)
theorem kl_m {x : Int} (sx : sm x) : f_X11_kindOf z (iv x) = some (z, iv (klT x)) := by
  unfold f_X11_kindOf f_X11_kindOf_0 f_X11_kindOf_78 f_X11_kindOf_76 f_X11_kindOf_84 f_X11_kindOf_80 f_X11_kindOf_86 f_X11_kindOf_96 f_X11_kindOf_92 f_X11_kindOf_97 f_X11_kindOf_82 klT
  rw [show (100 : Int32) = iv 100 by decide, show (101 : Int32) = iv 101 by decide, show (102 : Int32) = iv 102 by decide, show (103 : Int32) = iv 103 by decide, show (104 : Int32) = iv 104 by decide, show (105 : Int32) = iv 105 by decide, show (106 : Int32) = iv 106 by decide, show (107 : Int32) = iv 107 by decide, show (108 : Int32) = iv 108 by decide, show (109 : Int32) = iv 109 by decide, show (110 : Int32) = iv 110 by decide, show (111 : Int32) = iv 111 by decide, show (112 : Int32) = iv 112 by decide, show (113 : Int32) = iv 113 by decide, show (114 : Int32) = iv 114 by decide, show (115 : Int32) = iv 115 by decide, n_m1, n_0, n_1, n_2, n_3, n_4, show (5 : Int32) = iv 5 by decide]
  simp only [iv_eqk sx 100, iv_eqk sx 101, iv_eqk sx 102, iv_eqk sx 103, iv_eqk sx 104, iv_eqk sx 105, iv_eqk sx 106, iv_eqk sx 107, iv_eqk sx 108, iv_eqk sx 109, iv_eqk sx 110, iv_eqk sx 111, iv_eqk sx 112, iv_eqk sx 113, iv_eqk sx 114, iv_eqk sx 115]
  grind (splits := 40)
theorem klT_b (x : Int) : -1 ≤ klT x ∧ klT x ≤ 5 := by
  unfold klT
  repeat' split
  all_goals omega
theorem kl_in (h : klT (byT b p) ≠ -1) : p < b.1 := by
  unfold byT at h
  by_cases g : p < b.1
  · exact g
  · rw [if_neg g] at h
    exact absurd (by decide) h
theorem by44 (h : byT b p = 44) : p < b.1 := by
  unfold byT at h
  by_cases g : p < b.1
  · exact g
  · rw [if_neg g] at h
    omega
/-- an item takes six bytes at least -/
theorem it_len (h : itOK b p) : p + 6 ≤ t3P b p ∧ t3P b p ≤ b.1 := by
  obtain ⟨h1, h2, h3, h4, h5, h6⟩ := h
  have a1 := kl_in h1
  have a2 := nuP_b (b := b) (w := 1) (p := p + 1) (by omega)
  have a3 := by44 h3
  have a4 := nuP_b (b := b) (w := 2) (p := t1P b p + 1) (by omega)
  have a5 := by44 h5
  have a6 := nuP_b (b := b) (w := 3) (p := t2P b p + 1) (by omega)
  have b2 := a2.2.2 h2
  have b4 := a4.2.2 h4
  have b6 := a6.2.2 h6
  have e1 : t1P b p = nuP b 1 (p + 1) := rfl
  have e2 : t2P b p = nuP b 2 (t1P b p + 1) := rfl
  have e3 : t3P b p = nuP b 3 (t2P b p + 1) := rfl
  omega
theorem ri_c (hT : TV b) (h : PC z b p) (hp : p ≤ b.1) (hJ : JD z 13 k v) (hk : itOK b p → k < 8) : ∃ z', (itOK b p → f_X8_readItem z 19 13 = some (z', 1) ∧ PC z' b (t3P b p) ∧ JD z' 13 (k + 1) (vA v k (itX b p))) ∧ (¬ itOK b p → f_X8_readItem z 19 13 = some (z', 0) ∧ PC z' b (itF b p)) ∧ Fr (fun a => a = 19 ∨ (13 ≤ a ∧ a ≤ 18)) z z' := by
  have bb := byT_b (p := p) hT
  have kb := klT_b (byT b p)
  have sk : sm (klT (byT b p)) := ⟨by omega, by omega⟩
  have m19 : ∀ {z z' : St}, Fr (fun a => a = 19) z z' → Fr (fun a => a = 19 ∨ (13 ≤ a ∧ a ≤ 18)) z z' := fun h => h.mono (fun a e => Or.inl e)
  have rd : f_X8_readItem z 19 13 = if klT (byT b p) = -1 then some (z, 0) else f_X8_readItem_15 z 19 13 (iv (klT (byT b p))) := by
    unfold f_X8_readItem f_X8_readItem_0 f_X8_readItem_13
    rw [bh_c hT h hp, Option.bind_some, kl_c ⟨by omega, by omega⟩, Option.bind_some, n_m1]
    simp only [iv_eqk sk (-1)]
  by_cases g0 : klT (byT b p) = -1
  · rw [if_pos g0] at rd
    exact ⟨z, fun e => absurd g0 e.1, fun _ => ⟨rd, by unfold itF; rw [if_pos g0]; exact h⟩, Fr.refl⟩
  rw [if_neg g0] at rd
  have p0 := kl_in g0
  have e15 : (z.1 19 2) + 1 = iv ((p + 1 : Nat) : Int) := by rw [h.2.1, iv_s]
  obtain ⟨z1, q1, q2, q3⟩ := rn_c hT (PC_p h (q := p + 1)) (by omega) (w := 1) (by decide)
  have n1 := nuP_b (b := b) (w := 1) (p := p + 1) (by omega)
  have v1 := nuV_b (b := b) (w := 1) (p := p + 1)
  have f1 : Fr (fun a => a = 19) z z1 := (fr1 Fr.refl).trans q3
  have rd1 : f_X8_readItem_15 z 19 13 (iv (klT (byT b p))) = if nuV b 1 (p + 1) = -1 then some (z1, 0) else f_X8_readItem_36 z1 19 13 (iv (klT (byT b p))) (iv (nuV b 1 (p + 1))) := by
    unfold f_X8_readItem_15 f_X8_readItem_45
    rw [e15, n_m1, n_1, q1, Option.bind_some]
    simp only [iv_eqk (show sm (nuV b 1 (p + 1)) from ⟨by omega, by omega⟩) (-1)]
  rw [rd1] at rd
  by_cases g1 : nuV b 1 (p + 1) = -1
  · rw [if_pos g1] at rd
    refine ⟨z1, fun e => absurd g1 e.2.1, fun _ => ⟨rd, ?_⟩, m19 f1⟩
    have e2 : nuP b 1 (p + 1) = p + 1 := by unfold nuP; rw [if_pos g1]
    unfold itF
    rw [if_neg g0, if_pos g1, ← e2]
    exact q2
  rw [if_neg g1] at rd
  have q2 : PC z1 b (t1P b p) := q2
  have n1 : t1P b p ≤ b.1 := n1.2.1
  have rd2 : f_X8_readItem_36 z1 19 13 (iv (klT (byT b p))) (iv (nuV b 1 (p + 1))) = if byT b (t1P b p) = 44 then f_X8_readItem_47 (zI z1 19 2 (iv ((t1P b p + 1 : Nat) : Int))) 19 13 (iv (klT (byT b p))) (iv (nuV b 1 (p + 1))) else some (z1, 0) := by
    unfold f_X8_readItem_36 f_X8_readItem_45
    rw [show (44 : Int32) = iv 44 by decide, rs_c hT q2 n1 (c := 44) (by decide), Option.bind_some]
    split <;> rfl
  rw [rd2] at rd
  by_cases g2 : byT b (t1P b p) = 44
  rotate_left
  · rw [if_neg g2] at rd
    refine ⟨z1, fun e => absurd e.2.2.1 g2, fun _ => ⟨rd, ?_⟩, m19 f1⟩
    unfold itF
    rw [if_neg g0, if_neg g1, if_pos g2]
    exact q2
  rw [if_pos g2] at rd
  have p1 := by44 g2
  obtain ⟨z2, r1, r2, r3⟩ := rn_c hT (PC_p q2 (q := t1P b p + 1)) (by omega) (w := 2) (by decide)
  have n2 := nuP_b (b := b) (w := 2) (p := t1P b p + 1) (by omega)
  have v2 := nuV_b (b := b) (w := 2) (p := t1P b p + 1)
  have f2 : Fr (fun a => a = 19) z z2 := (fr1 f1).trans r3
  have rd3 : f_X8_readItem_47 (zI z1 19 2 (iv ((t1P b p + 1 : Nat) : Int))) 19 13 (iv (klT (byT b p))) (iv (nuV b 1 (p + 1))) = if nuV b 2 (t1P b p + 1) = -1 then some (z2, 0) else f_X8_readItem_60 z2 19 13 (iv (klT (byT b p))) (iv (nuV b 1 (p + 1))) (iv (nuV b 2 (t1P b p + 1))) := by
    unfold f_X8_readItem_47 f_X8_readItem_69
    rw [n_m1, n_2, r1, Option.bind_some]
    simp only [iv_eqk (show sm (nuV b 2 (t1P b p + 1)) from ⟨by omega, by omega⟩) (-1)]
  rw [rd3] at rd
  by_cases g3 : nuV b 2 (t1P b p + 1) = -1
  · rw [if_pos g3] at rd
    refine ⟨z2, fun e => absurd g3 e.2.2.2.1, fun _ => ⟨rd, ?_⟩, m19 f2⟩
    have e2 : nuP b 2 (t1P b p + 1) = t1P b p + 1 := by unfold nuP; rw [if_pos g3]
    unfold itF
    rw [if_neg g0, if_neg g1, if_neg (fun e => e g2), if_pos g3, ← e2]
    exact r2
  rw [if_neg g3] at rd
  have r2 : PC z2 b (t2P b p) := r2
  have n2 : t2P b p ≤ b.1 := n2.2.1
  have rd4 : f_X8_readItem_60 z2 19 13 (iv (klT (byT b p))) (iv (nuV b 1 (p + 1))) (iv (nuV b 2 (t1P b p + 1))) = if byT b (t2P b p) = 44 then f_X8_readItem_71 (zI z2 19 2 (iv ((t2P b p + 1 : Nat) : Int))) 19 13 (iv (klT (byT b p))) (iv (nuV b 1 (p + 1))) (iv (nuV b 2 (t1P b p + 1))) else some (z2, 0) := by
    unfold f_X8_readItem_60 f_X8_readItem_69
    rw [show (44 : Int32) = iv 44 by decide, rs_c hT r2 n2 (c := 44) (by decide), Option.bind_some]
    split <;> rfl
  rw [rd4] at rd
  by_cases g4 : byT b (t2P b p) = 44
  rotate_left
  · rw [if_neg g4] at rd
    refine ⟨z2, fun e => absurd e.2.2.2.2.1 g4, fun _ => ⟨rd, ?_⟩, m19 f2⟩
    unfold itF
    rw [if_neg g0, if_neg g1, if_neg (fun e => e g2), if_neg g3, if_pos g4]
    exact r2
  rw [if_pos g4] at rd
  have p2 := by44 g4
  obtain ⟨z3, u1, u2, u3⟩ := rn_c hT (PC_p r2 (q := t2P b p + 1)) (by omega) (w := 3) (by decide)
  have v3 := nuV_b (b := b) (w := 3) (p := t2P b p + 1)
  have f3 : Fr (fun a => a = 19) z z3 := (fr1 f2).trans u3
  have rd5 : f_X8_readItem_71 (zI z2 19 2 (iv ((t2P b p + 1 : Nat) : Int))) 19 13 (iv (klT (byT b p))) (iv (nuV b 1 (p + 1))) (iv (nuV b 2 (t1P b p + 1))) = if nuV b 3 (t2P b p + 1) = -1 then some (z3, 0) else f_X8_readItem_86 z3 13 (iv (klT (byT b p))) (iv (nuV b 1 (p + 1))) (iv (nuV b 2 (t1P b p + 1))) (iv (nuV b 3 (t2P b p + 1))) := by
    unfold f_X8_readItem_71 f_X8_readItem_84
    rw [n_m1, n_3, u1, Option.bind_some]
    simp only [iv_eqk (show sm (nuV b 3 (t2P b p + 1)) from ⟨by omega, by omega⟩) (-1)]
  rw [rd5] at rd
  by_cases g5 : nuV b 3 (t2P b p + 1) = -1
  · rw [if_pos g5] at rd
    refine ⟨z3, fun e => absurd g5 e.2.2.2.2.2, fun _ => ⟨rd, ?_⟩, m19 f3⟩
    have e2 : nuP b 3 (t2P b p + 1) = t2P b p + 1 := by unfold nuP; rw [if_pos g5]
    unfold itF
    rw [if_neg g0, if_neg g1, if_neg (fun e => e g2), if_neg g3, if_neg (fun e => e g4), ← e2]
    exact u2
  rw [if_neg g5] at rd
  have ok : itOK b p := ⟨g0, g1, g2, g3, g4, g5⟩
  have hJ3 : JD z3 13 k v := JD_fr (by decide) hJ (fun a e1 e2 => (f3 a (by omega)).1)
  obtain ⟨a1, a2⟩ := ad_of (o := 13) (by decide) hJ3 (hk ok) (x := itX b p)
  have fa := adZ_fr (z := z3) (o := 13) (by decide) (k := k) (x := itX b p)
  refine ⟨adZ z3 13 k (itX b p), fun _ => ⟨?_, ?_, a2⟩, fun e => absurd ok e, (m19 f3).trans (fa.mono (fun a e => Or.inr (by unfold rng5 at e; omega)))⟩
  · rw [rd]
    unfold f_X8_readItem_86
    have a1' : f_X2_add z3 13 (iv (klT (byT b p))) (iv (nuV b 1 (p + 1))) (iv (nuV b 2 (t1P b p + 1))) (iv (nuV b 3 (t2P b p + 1))) = some (adZ z3 13 k (itX b p)) := a1
    rw [a1', Option.bind_some]
  · have g : ∀ a, a = 19 ∨ a = 20 → (adZ z3 13 k (itX b p)).1 a = z3.1 a := fun a ha => (fa a (fun e => by unfold rng5 at e; omega)).1
    have u2 : PC z3 b (t3P b p) := u2
    unfold PC at u2 ⊢
    rw [g 19 (Or.inl rfl), g 20 (Or.inr rfl)]
    exact u2
end TEXT
