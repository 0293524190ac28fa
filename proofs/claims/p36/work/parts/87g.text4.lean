/-! TEXT: an item of the model; its loop -/
section TEXT4
variable {z z1 z2 : St} {b : Ta} {p k : Nat} {v : Nat → Nat → Int}
theorem im_s {F : Nat} {o : Nat} {x : Int32} : f_X11_item_45 (F + 1) z o x = if 4 ≤ x then f_X11_item_99 z o else f_X11_item_50 (f_X11_item_45 F) z o x := rfl
/-- once a fault is known, no more is read -/
theorem im_bad {F f : Nat} {x : Int32} (h : z.1 68 10 = iv (f : Int)) (hf : f ≤ 100) : f_X11_item_45 (F + 1) z 68 x = some (zI z 68 11 (z.1 68 11 + 1)) := by
  have e : (0 : Int32) ≤ z.1 68 10 := by
    rw [h, n_0]
    exact (iv_le (sm_d 0) (sm_k (by omega))).mpr (by omega)
  rw [im_s]
  unfold f_X11_item_50
  rw [if_pos e]
  split <;> rfl
theorem im_n (hT : TV b) (h : MI z b p k) (hk : k ≤ 8) (hp : p ≤ b.1) {w : Nat} (hw : w < 4) {K : St → Nat → Int32 → Option St} : ∃ z', f_X11_item_68 K z 68 (iv (w : Int)) = K z' 68 (iv ((w + 1 : Nat) : Int)) ∧ (nuV b w p ≠ -1 → MI z' b (nuP b w p) k ∧ z'.1 74 (4 * k + w) = iv (nuV b w p)) ∧ (nuV b w p = -1 → z'.1 68 10 = iv (p : Int)) ∧ FM z z' ∧ ∀ i, i ≠ 4 * k + w → z'.1 74 i = z.1 74 i := by
  obtain ⟨z1, x, q1, q2, q3, q4, q5, q6⟩ := nu_m hT h hp (w := (w : Int)) (by omega)
  refine ⟨zI z1 74 (4 * k + w) x, ?_, fun e => ⟨MI_74 (q2 e).1, by rw [rI, if_pos ⟨rfl, rfl⟩, (q2 e).2]⟩, fun e => by rw [zI_n (by decide), q3 e], q4.trans FM_74, fun i hi => by rw [rI, if_neg (fun e => hi e.2), q6]⟩
  unfold f_X11_item_68 f_X11_item_75 f_X11_item_93
  have ei : (4 : Int32) * iv (k : Int) + iv (w : Int) = iv ((4 * k + w : Nat) : Int) := by
    rw [n_4, iv_mul, iv_add]
    congr 1
  rw [h.2.2.1, if_neg (by decide), q1, Option.bind_some, h.2.2.2.1, ei, inb_k (show 4 * k + w < 120 by omega) (by decide), if_pos rfl, r68_12, tn (by omega), iv_s]
/-- a comma, then a number -/
theorem im_c (hT : TV b) (h : MI z b p k) (hk : k ≤ 8) (hp : p ≤ b.1) {w : Nat} (hw : 2 ≤ w ∧ w < 4) {F : Nat} : ∃ z', f_X11_item_45 (F + 1) z 68 (iv (w : Int)) = f_X11_item_45 F z' 68 (iv ((w + 1 : Nat) : Int)) ∧ (byT b p = 44 → nuV b w (p + 1) ≠ -1 → MI z' b (nuP b w (p + 1)) k ∧ z'.1 74 (4 * k + w) = iv (nuV b w (p + 1))) ∧ (byT b p = 44 → nuV b w (p + 1) = -1 → z'.1 68 10 = iv ((p + 1 : Nat) : Int)) ∧ (byT b p ≠ 44 → z'.1 68 10 = iv (p : Int)) ∧ FM z z' ∧ ∀ i, i ≠ 4 * k + w → z'.1 74 i = z.1 74 i := by
  have sw : sm (w : Int) := sm_k (by omega)
  have h60 := hT.1
  have st : f_X11_item_45 (F + 1) z 68 (iv (w : Int)) = f_X11_item_68 (f_X11_item_45 F) (if byT b p = 44 then zI z 68 8 (iv ((p + 1 : Nat) : Int)) else zI z 68 10 (iv (p : Int))) 68 (iv (w : Int)) := by
    rw [im_s, n_4, if_neg (fun e => by have := (iv_kle sw 4).mp e; omega)]
    unfold f_X11_item_50 f_X11_item_57 f_X11_item_62
    rw [h.2.2.1, if_neg (by decide), n_1, if_neg (fun e => by have := (iv_lek sw 1).mp e; omega), show (44 : Int32) = iv 44 by decide, tk_m hT h hp (c := 44) (by decide), Option.bind_some]
  rw [st]
  by_cases g : byT b p = 44
  · have pn := by44 g
    rw [if_pos g]
    obtain ⟨z1, q1, q2, q3, q4, q5⟩ := im_n hT (MI_8 h (q := p + 1)) hk (by omega) (w := w) (by omega) (K := f_X11_item_45 F)
    exact ⟨z1, q1, fun _ => q2, fun _ => q3, fun e => absurd g e, FM_8.trans q4, fun i hi => by rw [q5 i hi, zI_n (by decide)]⟩
  · rw [if_neg g]
    refine ⟨zI z 68 10 (iv (p : Int)), ?_, fun e => absurd e g, fun e => absurd e g, fun _ => by rw [rI, if_pos ⟨rfl, rfl⟩], FM_10, fun i _ => by rw [zI_n (by decide)]⟩
    unfold f_X11_item_68 f_X11_item_93
    have e0 : (0 : Int32) ≤ (zI z 68 10 (iv (p : Int))).1 68 10 := by
      rw [rI, if_pos ⟨rfl, rfl⟩, n_0]
      exact (iv_le (sm_d 0) (sm_k (by omega))).mpr (by omega)
    rw [if_pos e0, iv_s]
theorem itm_of (hT : TV b) (h : MI z b p k) (hk : k ≤ 8) (hp : p ≤ b.1) : ∃ z', f_X11_item z 68 = some z' ∧ (itOK b p → MI z' b (t3P b p) (k + 1) ∧ ∀ w, w < 4 → z'.1 74 (4 * k + w) = iv (itX b p w)) ∧ (¬ itOK b p → z'.1 68 10 = iv (itF b p : Int) ∧ itF b p ≤ 60) ∧ FM z z' ∧ ∀ i, i < 4 * k → z'.1 74 i = z.1 74 i := by
  have h60 := hT.1
  have bb := byT_b (p := p) hT
  have kb := klT_b (byT b p)
  have sk : sm (klT (byT b p)) := ⟨by omega, by omega⟩
  obtain ⟨F, hF⟩ : ∃ F, FU = F + 4 := ⟨FU - 4, by have := FU_8 (n := 8) (by omega); omega⟩
  unfold f_X11_item f_X11_item_0
  rw [he_m hT h hp, Option.bind_some, kl_m ⟨by omega, by omega⟩, Option.bind_some]
  by_cases g0 : klT (byT b p) = -1
  · rw [n_0]
    have e0 : ¬ iv 0 ≤ iv (klT (byT b p)) := fun e => by have := (iv_le (sm_d 0) sk).mp e; omega
    rw [if_neg e0]
    unfold f_X11_item_12
    rw [fa_m h, Option.bind_some]
    refine ⟨_, rfl, fun e => absurd g0 e.1, fun _ => ⟨?_, ?_⟩, FM_10, fun i _ => by rw [zI_n (by decide)]⟩
    · rw [rI, if_pos ⟨rfl, rfl⟩, h.1]
      unfold itF
      rw [if_pos g0]
    · unfold itF
      rw [if_pos g0]
      omega
  · rw [n_0]
    have e0 : iv 0 ≤ iv (klT (byT b p)) := (iv_le (sm_d 0) sk).mpr (by omega)
    rw [if_pos e0]
    have p0 := kl_in g0
    obtain ⟨zk, hzk⟩ : ∃ zk, zk = zI (zI z 68 8 (iv ((p + 1 : Nat) : Int))) 74 (4 * k + 0) (iv (klT (byT b p))) := ⟨_, rfl⟩
    have hk0 : MI zk b (p + 1) k := by
      rw [hzk]
      exact MI_74 (MI_8 h)
    have f0 : FM z zk := by
      rw [hzk]
      exact FM_8.trans FM_74
    have c0 : zk.1 74 (4 * k + 0) = iv (klT (byT b p)) := by rw [hzk, rI, if_pos ⟨rfl, rfl⟩]
    have l0 : ∀ i, i < 4 * k → zk.1 74 i = z.1 74 i := fun i hi => by rw [hzk, rI, if_neg (by omega), zI_n (by decide)]
    have st : f_X11_item_21 z 68 (iv (klT (byT b p))) = f_X11_item_45 FU zk 68 1 := by
      unfold f_X11_item_21
      have e11 : (zI z 68 8 (z.1 68 8 + 1)).1 68 11 = iv (k : Int) := by rw [rI, if_neg (by decide), h.2.2.2.1]
      have e4 : (4 : Int32) * iv (k : Int) = iv ((4 * k + 0 : Nat) : Int) := by
        rw [n_4, iv_mul]
        congr 1
      rw [e11, e4, inb_k (show 4 * k + 0 < 120 by omega) (by decide), if_pos rfl, r68_12, tn (by omega), h.1, iv_s, hzk]
    rw [st, hF, im_s, n_1, n_4, if_neg (by decide)]
    unfold f_X11_item_50 f_X11_item_57
    rw [hk0.2.2.1, if_neg (by decide), n_1, if_pos (show iv 1 ≤ iv 1 by decide)]
    obtain ⟨z1, a1, a2, a3, a4, a5⟩ := im_n hT hk0 hk (by omega) (w := 1) (by decide) (K := f_X11_item_45 (F + 3))
    have a1' : f_X11_item_68 (f_X11_item_45 (F + 3)) zk 68 (iv 1) = f_X11_item_45 (F + 3) z1 68 (iv ((2 : Nat) : Int)) := a1
    rw [a1']
    have m1 := nuP_b (b := b) (w := 1) (p := p + 1) (by omega)
    have l1 : ∀ i, i < 4 * k + 1 → z1.1 74 i = zk.1 74 i := fun i hi => a5 i (by omega)
    by_cases g1 : nuV b 1 (p + 1) = -1
    · have eF : itF b p = p + 1 := by
        unfold itF
        rw [if_neg g0, if_pos g1]
      have e10 := a3 g1
      rw [im_bad (f := p + 1) e10 (by omega)]
      refine ⟨_, rfl, fun e => absurd g1 e.2.1, fun _ => ⟨by rw [rI, if_neg (by decide), e10, eF], by omega⟩, (f0.trans a4).trans FM_11, fun i hi => by rw [zI_n (by decide), l1 i (by omega), l0 i hi]⟩
    obtain ⟨b1, b2⟩ := a2 g1
    have b1 : MI z1 b (t1P b p) k := b1
    have m1 : t1P b p ≤ b.1 := m1.2.1
    obtain ⟨z2, c1, c2, c3, c4, c5, c6⟩ := im_c hT b1 hk m1 (w := 2) (by decide) (F := F + 2)
    have c1' : f_X11_item_45 (F + 3) z1 68 (iv ((2 : Nat) : Int)) = f_X11_item_45 (F + 2) z2 68 (iv ((3 : Nat) : Int)) := c1
    rw [c1']
    have l2 : ∀ i, i < 4 * k + 2 → z2.1 74 i = z1.1 74 i := fun i hi => c6 i (by omega)
    by_cases g2 : byT b (t1P b p) = 44
    rotate_left
    · have eF : itF b p = t1P b p := by
        unfold itF
        rw [if_neg g0, if_neg g1, if_pos g2]
      have e10 := c4 g2
      rw [im_bad (f := t1P b p) e10 (by omega)]
      refine ⟨_, rfl, fun e => absurd e.2.2.1 g2, fun _ => ⟨by rw [rI, if_neg (by decide), e10, eF], by omega⟩, ((f0.trans a4).trans c5).trans FM_11, fun i hi => by rw [zI_n (by decide), l2 i (by omega), l1 i (by omega), l0 i hi]⟩
    have p1 := by44 g2
    have m2 := nuP_b (b := b) (w := 2) (p := t1P b p + 1) (by omega)
    by_cases g3 : nuV b 2 (t1P b p + 1) = -1
    · have eF : itF b p = t1P b p + 1 := by
        unfold itF
        rw [if_neg g0, if_neg g1, if_neg (fun e => e g2), if_pos g3]
      have e10 := c3 g2 g3
      rw [im_bad (f := t1P b p + 1) e10 (by omega)]
      refine ⟨_, rfl, fun e => absurd g3 e.2.2.2.1, fun _ => ⟨by rw [rI, if_neg (by decide), e10, eF], by omega⟩, ((f0.trans a4).trans c5).trans FM_11, fun i hi => by rw [zI_n (by decide), l2 i (by omega), l1 i (by omega), l0 i hi]⟩
    obtain ⟨d1, d2⟩ := c2 g2 g3
    have d1 : MI z2 b (t2P b p) k := d1
    have m2 : t2P b p ≤ b.1 := m2.2.1
    obtain ⟨z3, u1, u2, u3, u4, u5, u6⟩ := im_c hT d1 hk m2 (w := 3) (by decide) (F := F + 1)
    have u1' : f_X11_item_45 (F + 2) z2 68 (iv ((3 : Nat) : Int)) = f_X11_item_45 (F + 1) z3 68 (iv ((4 : Nat) : Int)) := u1
    rw [u1']
    have l3 : ∀ i, i < 4 * k + 3 → z3.1 74 i = z2.1 74 i := fun i hi => u6 i (by omega)
    by_cases g4 : byT b (t2P b p) = 44
    rotate_left
    · have eF : itF b p = t2P b p := by
        unfold itF
        rw [if_neg g0, if_neg g1, if_neg (fun e => e g2), if_neg g3, if_pos g4]
      have e10 := u4 g4
      rw [im_bad (f := t2P b p) e10 (by omega)]
      refine ⟨_, rfl, fun e => absurd e.2.2.2.2.1 g4, fun _ => ⟨by rw [rI, if_neg (by decide), e10, eF], by omega⟩, (((f0.trans a4).trans c5).trans u5).trans FM_11, fun i hi => by rw [zI_n (by decide), l3 i (by omega), l2 i (by omega), l1 i (by omega), l0 i hi]⟩
    have p2 := by44 g4
    by_cases g5 : nuV b 3 (t2P b p + 1) = -1
    · have eF : itF b p = t2P b p + 1 := by
        unfold itF
        rw [if_neg g0, if_neg g1, if_neg (fun e => e g2), if_neg g3, if_neg (fun e => e g4)]
      have e10 := u3 g4 g5
      rw [im_bad (f := t2P b p + 1) e10 (by omega)]
      refine ⟨_, rfl, fun e => absurd g5 e.2.2.2.2.2, fun _ => ⟨by rw [rI, if_neg (by decide), e10, eF], by omega⟩, (((f0.trans a4).trans c5).trans u5).trans FM_11, fun i hi => by rw [zI_n (by decide), l3 i (by omega), l2 i (by omega), l1 i (by omega), l0 i hi]⟩
    obtain ⟨y1, y2⟩ := u2 g4 g5
    have y1 : MI z3 b (t3P b p) k := y1
    have ok : itOK b p := ⟨g0, g1, g2, g3, g4, g5⟩
    rw [im_s, n_4, if_pos (show iv 4 ≤ iv ((4 : Nat) : Int) by decide)]
    unfold f_X11_item_99
    rw [y1.2.2.2.1, iv_s]
    refine ⟨_, rfl, fun _ => ⟨?_, fun w hw => ?_⟩, fun e => absurd ok e, (((f0.trans a4).trans c5).trans u5).trans FM_11, fun i hi => by rw [zI_n (by decide), l3 i (by omega), l2 i (by omega), l1 i (by omega), l0 i hi]⟩
    · obtain ⟨y1, h2, h3, h4, h5⟩ := y1
      exact ⟨by rw [rI, if_neg (by decide), y1], by rw [rI, if_neg (by decide), h2], by rw [rI, if_neg (by decide), h3], by rw [rI, if_pos ⟨rfl, rfl⟩], fun j hj => by rw [zI_n (by decide), h5 j hj]⟩
    · rw [zI_n (by decide)]
      rcases (show w = 0 ∨ w = 1 ∨ w = 2 ∨ w = 3 by omega) with rfl | rfl | rfl | rfl
      · rw [l3 _ (by omega), l2 _ (by omega), l1 _ (by omega), c0]
        rfl
      · rw [l3 _ (by omega), l2 _ (by omega), b2]
        rfl
      · rw [l3 _ (by omega), d2]
        rfl
      · rw [y2]
        rfl
end TEXT4
