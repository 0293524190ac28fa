/-! LEAST: what the class knows, beside the model's search -/
section KNOW
variable {z z' : St} {y : Sy} {n : Nat} {c t q : Nat → Int} {v : Nat → Nat → Int}
theorem BD_I {n : Nat} {v : Nat → Nat → Int} (h : JV n v) : ∀ j, j < n → (0 ≤ cmO v j ∧ cmO v j ≤ 160) ∧ (1 ≤ tkO v j ∧ tkO v j ≤ 25) ∧ (0 ≤ clO v j ∧ clO v j ≤ 130) := by
  intro j hj
  obtain ⟨a, b, c, d⟩ := h j hj
  unfold cmO tkO tk0 clO
  refine ⟨⟨?_, ?_⟩, ⟨?_, ?_⟩, ⟨?_, ?_⟩⟩ <;> repeat' split
  all_goals omega
/-- what the class may change as it comes to know LEAST -/
def sK (a : Nat) : Prop := a = 0 ∨ sC a ∨ (52 ≤ a ∧ a ≤ 54)
theorem INV_k (h : INV z y) (hf : Fr sK z z') (h14 : z'.1 0 14 = z.1 0 14) (hC : CL z' y.1 (cmO y.2.1) (tkO y.2.1) (clO y.2.1)) : INV z' y := by
  have s : ∀ a, a < 68 → ((0 < a ∧ a < 13) ∨ (19 ≤ a ∧ a ≤ 24) ∨ 57 ≤ a) → z'.1 a = z.1 a ∧ z'.2 a = z.2 a := fun a h1 h2 => hf a (by unfold sK sC; omega)
  obtain ⟨⟨h1, h2, h3, h4, h5, h6, h7⟩, hm, hv⟩ := h
  refine ⟨⟨JD_fr (by decide) h1 (fun a e1 e2 => (s a (by omega) (by omega)).1), LD_fr h2 (fun a ha => ?_), CKe_fr h3 h14 (fun a e1 e2 => (s a (by omega) (by omega)).1), CT_fr h4 ?_ (s 20 (by decide) (by decide)).1, CB_fr h5 (s 57 (by decide) (by decide)).1 (s 58 (by decide) (by decide)).1, CS_fr h6 (fun a e1 e2 => s a (by omega) (by omega)), hC⟩, XM_c hm (hf.mono (fun a e => by unfold sK sC at e; omega)), hv⟩
  · have := own_rng (o := 21) (Or.inr (by decide)) ha
    exact (s a (by omega) (by omega)).1
  · rw [(s 19 (by decide) (by decide)).1]
theorem kl_of (h : INV z y) : ∃ z', f_X10_knowLeast z 0 = some z' ∧ INV z' y ∧ z'.1 0 15 = iv 1 ∧ LKN z' y.1 (cmO y.2.1) (tkO y.2.1) (clO y.2.1) ∧ Fr sK z z' ∧ (0 ≤ (SR (cmO y.2.1) (tkO y.2.1) (clO y.2.1) y.1).1 ∧ (SR (cmO y.2.1) (tkO y.2.1) (clO y.2.1) y.1).1 ≤ 500) := by
  have h8 := h.1.1.2.1
  have hb := BD_I h.2.2.1
  have hB := BD_O h.2.2.1
  obtain ⟨z1, z3, a1, a2, a3, a4, a5, a6, a7, a8⟩ := bs_c h.1.2.1 hb (root_D h8 hb) (tk_le h8 hb)
  rcases h.1.2.2.2.2.2.2 with w | ⟨w1, w2⟩
  · obtain ⟨S, hS⟩ : ∃ S, S = SR (cmO y.2.1) (tkO y.2.1) (clO y.2.1) y.1 := ⟨_, rfl⟩
    rw [← hS] at a3 a6 a7 a8 ⊢
    obtain ⟨za, hza⟩ : ∃ za, za = zI (zI (zI z3 0 16 (iv S.1)) 0 17 (iv S.2.1)) 0 18 (iv S.2.2) := ⟨_, rfl⟩
    have fa : Fr (fun a => a = 0) z3 za := by
      rw [hza]
      exact ((Fr.refl.zI (P := fun a => a = 0) rfl).zI rfl).zI rfl
    have L21 : LD za 21 y.1 (cmO y.2.1) (tkO y.2.1) (clO y.2.1) := LD_fr h.1.2.1 (fun a ha => by
      have := own_rng (o := 21) (Or.inr (by decide)) ha
      rw [(fa a (by omega)).1, (a5 a (by unfold fS; omega)).1])
    obtain ⟨z5, g1, g2, g3, g4, g5⟩ := wg_LKN L21 hB (lim := S.1) ⟨a6.1, by omega⟩
    have k16 : za.1 0 16 = iv S.1 := by rw [hza, rI, if_neg (by decide), rI, if_neg (by decide), rI, if_pos ⟨rfl, rfl⟩]
    have k17 : za.1 0 17 = iv S.2.1 := by rw [hza, rI, if_neg (by decide), rI, if_pos ⟨rfl, rfl⟩]
    have k18 : za.1 0 18 = iv S.2.2 := by rw [hza, rI, if_pos ⟨rfl, rfl⟩]
    have k14 : za.1 0 14 = z.1 0 14 := by rw [hza, rI, if_neg (by decide), rI, if_neg (by decide), rI, if_neg (by decide), (a5 0 (by unfold fS; omega)).1]
    have z50 : z5.1 0 = za.1 0 := (g2 0 (by unfold fW; omega)).1
    have run : f_X10_knowLeast z 0 = some (zI z5 0 15 1) := by
      unfold f_X10_knowLeast f_X10_knowLeast_0
      rw [w, n_0, if_pos rfl]
      unfold f_X10_knowLeast_8
      rw [r0_4, r0_5, r0_10, r0_11, a1, Option.bind_some, a2, Option.bind_some]
      have e8 : z3.1 40 8 = iv S.1 := a3.1
      have e9 : (zI z3 0 16 (iv S.1)).1 40 9 = iv S.2.1 := by rw [rI, if_neg (by decide)]; exact a3.2.1
      have e10 : (zI (zI z3 0 16 (iv S.1)) 0 17 (iv S.2.1)).1 40 10 = iv S.2.2 := by rw [rI, if_neg (by decide), rI, if_neg (by decide)]; exact a3.2.2
      rw [e8, e9, e10, ← hza, k16, g1, Option.bind_some]
    have lk : LKN (zI z5 0 15 1) y.1 (cmO y.2.1) (tkO y.2.1) (clO y.2.1) := by
      unfold LKN
      rw [← hS]
      refine ⟨?_, ?_, ?_, ?_, ?_, fun s hs => ?_⟩
      · rw [rI, if_neg (by decide), z50, k16]
      · rw [rI, if_neg (by decide), z50, k17]
      · rw [rI, if_neg (by decide), z50, k18]
      · rw [zI_n (by decide)]
        exact g3
      · rw [zI_n (by decide)]
        exact g4
      · rw [zI_n (by decide), zI_n (by decide)]
        exact g5 s hs
    have f15 : (zI z5 0 15 1).1 0 15 = iv 1 := by rw [rI, if_pos ⟨rfl, rfl⟩]; exact n_1
    have fr : Fr sK z (zI z5 0 15 1) := (((a5.mono (Q := sK) (fun a e => by unfold fS at e; unfold sK sC; omega)).trans (fa.mono (Q := sK) (fun a e => Or.inl e))).trans (g2.mono (Q := sK) (fun a e => Or.inr (Or.inr e)))).zI (Or.inl rfl)
    refine ⟨_, run, INV_k h fr ?_ (Or.inr ⟨f15, lk⟩), f15, lk, fr, a6⟩
    rw [rI, if_neg (by decide), z50, k14]
  · refine ⟨z, ?_, h, w1, w2, Fr.refl, a6⟩
    unfold f_X10_knowLeast f_X10_knowLeast_0
    rw [w1, if_neg (by decide)]
    rfl
theorem s_least (h : INV z y) (a : Int32) : Both (f_X10_least z 0 a) (fun z => f_X11_least z 68 a) := by
  obtain ⟨w, sw, rfl⟩ := ex_iv a
  have h8 := h.1.1.2.1
  have hb := BD_I h.2.2.1
  by_cases g : 0 ≤ w ∧ w ≤ 2
  · obtain ⟨z1, k1, k2, k3, k4, k5, k6⟩ := kl_of h
    have rf := root_f h8 hb
    obtain ⟨z2, m1, m2, m3, m4, m5⟩ := sr_m k2.2.1.1 k2.2.2.1 (root_G h8 hb (root_D h8 hb)) (tk_le h8 hb) rf.2.2
    obtain ⟨S, hS⟩ : ∃ S, S = SR (cmO y.2.1) (tkO y.2.1) (clO y.2.1) y.1 := ⟨_, rfl⟩
    unfold LKN at k4
    rw [← hS] at k4 m2
    refine ⟨z1, z2, if w = 0 then iv S.1 else if w = 1 then iv S.2.1 else iv S.2.2, ?_, ?_, y, INV_m k2 (m4.mono (fun a e => by unfold fM at e; unfold sM; omega)) m5⟩
    · unfold f_X10_least f_X10_least_0 f_X10_least_4
      rw [if_neg (fun e => by have := (iv_lt0 sw).mp e; omega), n_2, if_pos ((iv_lek sw 2).mpr g.2)]
      unfold f_X10_least_12
      rw [k1, Option.bind_some, n_0]
      unfold f_X10_least_20 f_X10_least_25 f_X10_least_30 f_X10_least_37 f_X10_least_41
      rw [n_1]
      simp only [iv_eqk sw 0, iv_eqk sw 1, k4.1, k4.2.1, k4.2.2.1]
      split <;> (try rfl)
      split <;> rfl
    · show f_X11_least z1 68 (iv w) = _
      unfold f_X11_least f_X11_least_0
      have ei : f_X11_in z1 (iv w) 0 2 = some (z1, ob (0 ≤ w ∧ w ≤ 2)) := by
        rw [n_0, n_2]
        exact in_ob sw (sm_d 0) (sm_d 2)
      rw [ei, Option.bind_some]
      show (if ob (0 ≤ w ∧ w ≤ 2) = 0 then _ else _) = _
      rw [if_neg (fun e => ob_0.mp e g)]
      unfold f_X11_least_12
      show ((f_X11_search z1 68).bind _) = _
      rw [m1, Option.bind_some, n_0]
      unfold f_X11_least_20 f_X11_least_27 f_X11_least_32 f_X11_least_39 f_X11_least_43
      rw [n_1]
      simp only [iv_eqk sw 0, iv_eqk sw 1, m2.1, m2.2.1, m2.2.2]
      split <;> (try rfl)
      split <;> rfl
  · refine Both_s h (r := iv (-2)) ?_ ?_
    · unfold f_X10_least f_X10_least_0 f_X10_least_4 f_X10_least_9
      by_cases g0 : w < 0
      · rw [if_pos ((iv_lt0 sw).mpr g0), n_m2]
      · rw [if_neg (fun e => g0 ((iv_lt0 sw).mp e)), n_m2, n_2, if_neg (fun e => by have := (iv_lek sw 2).mp e; omega)]
    · show f_X11_least z 68 (iv w) = _
      unfold f_X11_least f_X11_least_0
      have ei : f_X11_in z (iv w) 0 2 = some (z, ob (0 ≤ w ∧ w ≤ 2)) := by
        rw [n_0, n_2]
        exact in_ob sw (sm_d 0) (sm_d 2)
      rw [ei, Option.bind_some]
      show (if ob (0 ≤ w ∧ w ≤ 2) = 0 then _ else _) = _
      rw [if_pos (ob_0.mpr g)]
      unfold f_X11_least_9
      rw [n_m2]
end KNOW
