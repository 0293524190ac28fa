abbrev rm_X0_findBar : Room := { frames := 1, cells := 0, slots := 0, locals := 21 }
def f_X0_findBar_56  (z : St) (o0 : Nat) (o1 : Nat) (x5 : Int32) (x6 : Int32) (x8 : Int32) : Option (St) :=
  ((f_X4_coolsOf (zI z o0 2 x8) o1 ((zI z o0 2 x8).1 o0 2)).bind fun r1 => ((f_X4_coolsOf r1.1 o1 (r1.1.1 o0 0)).bind fun r3 => ((f_X4_comesOf (zI r3.1 o0 5 (imax r1.2 (x5 + r3.2))) o1 ((zI r3.1 o0 5 (imax r1.2 (x5 + r3.2))).1 o0 2)).bind fun r5 => some (zI r5.1 o0 6 (imax r5.2 (x6 + x5))))))
theorem b_X0_findBar_56 {p : Program} {l : Launch} {e : Env} {s : State} {m : MethodId} {args : Array Value} {below : List Frame} {meth : Method} {c : Code} {g : Ga} {A : Nat → Prop} (C : Cx l g A p s m args c cX0_findBar 9 RX0 (rm_X0_findBar) (0, 0)) (hr : meth.sig.returnType = none) (hk : meth.locks = false)   (z : St) (o0 : Nat) (o1 : Nat) (x5 : Int32) (x6 : Int32) (x8 : Int32) (ho0 : kd o0 = 0) (ho1 : kd o1 = 4) {res : St} (hf : f_X0_findBar_56  z o0 o1 x5 x6 x8 = some res) : Zj p l e (rm_X0_findBar) s m args below meth c g A 9 (0, 0) (QV g A below args s res) z 56 [(0, .ref (g.1 o0)), (1, .ref (g.1 o1)), (5, .int x5), (6, .int x6), (8, .int x8)] [] := by
  unfold f_X0_findBar_56 at hf
  refine z_aload_n C dX0_findBar_56 rfl 0 rfl ?_
  refine z_iload C dX0_findBar_57 4 rfl ?_
  refine pf_X0_50 C dX0_findBar_59 ho0 ?_
  refine z_aload_n C dX0_findBar_62 rfl 0 rfl ?_
  refine z_aload_n C dX0_findBar_63 rfl 1 rfl ?_
  refine z_aload_n C dX0_findBar_64 rfl 0 rfl ?_
  refine gf_X0_50 C dX0_findBar_65 ho0 ?_
  obtain ⟨r1, hc2, hf⟩ := q_bd hf
  refine z_cVi C (st := [.ref (g.1 o0)]) (c_X4_coolsOf ho1 hc2) mw_X4_coolsOf ml_X0_42 ho1 (by decide) rfl dX0_findBar_68 rfl rfl rfl ⟨Nat.le_of_ble_eq_true rfl, Nat.le_of_ble_eq_true rfl⟩ rfl (Nat.le_of_ble_eq_true rfl) ?_
  refine z_iload C dX0_findBar_71 2 rfl ?_
  refine z_aload_n C dX0_findBar_73 rfl 1 rfl ?_
  refine z_aload_n C dX0_findBar_74 rfl 0 rfl ?_
  refine gf_X0_27 C dX0_findBar_75 ho0 ?_
  obtain ⟨r3, hc4, hf⟩ := q_bd hf
  refine z_cVi C (st := [.int x5, .int r1.2, .ref (g.1 o0)]) (c_X4_coolsOf ho1 hc4) mw_X4_coolsOf ml_X0_42 ho1 (by decide) rfl dX0_findBar_78 rfl rfl rfl ⟨Nat.le_of_ble_eq_true rfl, Nat.le_of_ble_eq_true rfl⟩ rfl (Nat.le_of_ble_eq_true rfl) ?_
  refine z_iadd C dX0_findBar_81 ?_
  refine z_mmax C (st := [.ref (g.1 o0)]) dX0_findBar_82 ml_X0_56 mm_max.1 mm_i mm_max.2 ⟨Nat.le_of_ble_eq_true rfl, Nat.le_of_ble_eq_true rfl⟩ (Nat.le_of_ble_eq_true rfl) ?_
  refine pf_X0_62 C dX0_findBar_85 ho0 ?_
  refine z_aload_n C dX0_findBar_88 rfl 0 rfl ?_
  refine z_aload_n C dX0_findBar_89 rfl 1 rfl ?_
  refine z_aload_n C dX0_findBar_90 rfl 0 rfl ?_
  refine gf_X0_50 C dX0_findBar_91 ho0 ?_
  obtain ⟨r5, hc6, hf⟩ := q_bd hf
  refine z_cVi C (st := [.ref (g.1 o0)]) (c_X4_comesOf ho1 hc6) mw_X4_comesOf ml_X0_65 ho1 (by decide) rfl dX0_findBar_94 rfl rfl rfl ⟨Nat.le_of_ble_eq_true rfl, Nat.le_of_ble_eq_true rfl⟩ rfl (Nat.le_of_ble_eq_true rfl) ?_
  refine z_iload C dX0_findBar_97 3 rfl ?_
  refine z_iload C dX0_findBar_99 2 rfl ?_
  refine z_iadd C dX0_findBar_101 ?_
  refine z_mmax C (st := [.ref (g.1 o0)]) dX0_findBar_102 ml_X0_56 mm_max.1 mm_i mm_max.2 ⟨Nat.le_of_ble_eq_true rfl, Nat.le_of_ble_eq_true rfl⟩ (Nat.le_of_ble_eq_true rfl) ?_
  refine pf_X0_68 C dX0_findBar_105 ho0 ?_
  cases hf
  exact z_vret C hr hk dX0_findBar_108
def f_X0_findBar_159 (K20 : St → Nat → Nat → Nat → Int32 → Int32 → Int32 → Int32 → Option (St)) (z : St) (o0 : Nat) (o1 : Nat) (o2 : Nat) (x3 : Int32) (x5 : Int32) (x7 : Int32) (s0 : Int32) : Option (St) :=
  K20 z o0 o1 o2 x3 x5 s0 (x7 + (-1))
theorem b_X0_findBar_159 {p : Program} {l : Launch} {e : Env} {s : State} {m : MethodId} {args : Array Value} {below : List Frame} {meth : Method} {c : Code} {g : Ga} {A : Nat → Prop} (C : Cx l g A p s m args c cX0_findBar 9 RX0 (rm_X0_findBar) (0, 0)) (hr : meth.sig.returnType = none) (hk : meth.locks = false) {K20 : St → Nat → Nat → Nat → Int32 → Int32 → Int32 → Int32 → Option (St)} (hK20 : ∀ (z : St) (o0 : Nat) (o1 : Nat) (o2 : Nat) (x3 : Int32) (x5 : Int32) (x6 : Int32) (x7 : Int32) (_ : kd o0 = 0) (_ : kd o1 = 4) (_ : kd o2 = 3) {res : St}, K20 z o0 o1 o2 x3 x5 x6 x7 = some res → Zj p l e (rm_X0_findBar) s m args below meth c g A 9 (0, 0) (QV g A below args s res) z 20 [(0, .ref (g.1 o0)), (1, .ref (g.1 o1)), (2, .ref (g.1 o2)), (3, .int x3), (5, .int x5), (6, .int x6), (7, .int x7)] []) (z : St) (o0 : Nat) (o1 : Nat) (o2 : Nat) (x3 : Int32) (x5 : Int32) (x7 : Int32) (s0 : Int32) (ho0 : kd o0 = 0) (ho1 : kd o1 = 4) (ho2 : kd o2 = 3) {res : St} (hf : f_X0_findBar_159 K20 z o0 o1 o2 x3 x5 x7 s0 = some res) : Zj p l e (rm_X0_findBar) s m args below meth c g A 9 (0, 0) (QV g A below args s res) z 159 [(0, .ref (g.1 o0)), (1, .ref (g.1 o1)), (2, .ref (g.1 o2)), (3, .int x3), (5, .int x5), (7, .int x7)] [.int s0] := by
  unfold f_X0_findBar_159 at hf
  refine z_istore C (lv2 := [(6, .int s0), (0, .ref (g.1 o0)), (1, .ref (g.1 o1)), (2, .ref (g.1 o2)), (3, .int x3), (5, .int x5), (7, .int x7)]) dX0_findBar_159 (by decide) rfl ?_
  refine z_iinc C (k := 6) (v := x7 + (-1)) (lv2 := [(7, .int (x7 + (-1))), (6, .int s0), (0, .ref (g.1 o0)), (1, .ref (g.1 o1)), (2, .ref (g.1 o2)), (3, .int x3), (5, .int x5)]) dX0_findBar_161 rfl rfl (by decide) rfl ?_
  exact z_goto C dX0_findBar_164 (by decide) (z_sub [2, 3, 4, 5, 6, 1, 0] rfl (hK20 z o0 o1 o2 x3 x5 s0 (x7 + (-1)) ho0 ho1 ho2 hf))
def f_X0_findBar_139 (K20 : St → Nat → Nat → Nat → Int32 → Int32 → Int32 → Int32 → Option (St)) (z : St) (o0 : Nat) (o1 : Nat) (o2 : Nat) (x3 : Int32) (x5 : Int32) (x7 : Int32) (x8 : Int32) : Option (St) :=
  ((f_X4_comesOf z o1 x8).bind fun r1 => f_X0_findBar_159 K20 r1.1 o0 o1 o2 x3 x5 x7 r1.2)
theorem b_X0_findBar_139 {p : Program} {l : Launch} {e : Env} {s : State} {m : MethodId} {args : Array Value} {below : List Frame} {meth : Method} {c : Code} {g : Ga} {A : Nat → Prop} (C : Cx l g A p s m args c cX0_findBar 9 RX0 (rm_X0_findBar) (0, 0)) (hr : meth.sig.returnType = none) (hk : meth.locks = false) {K20 : St → Nat → Nat → Nat → Int32 → Int32 → Int32 → Int32 → Option (St)} (hK20 : ∀ (z : St) (o0 : Nat) (o1 : Nat) (o2 : Nat) (x3 : Int32) (x5 : Int32) (x6 : Int32) (x7 : Int32) (_ : kd o0 = 0) (_ : kd o1 = 4) (_ : kd o2 = 3) {res : St}, K20 z o0 o1 o2 x3 x5 x6 x7 = some res → Zj p l e (rm_X0_findBar) s m args below meth c g A 9 (0, 0) (QV g A below args s res) z 20 [(0, .ref (g.1 o0)), (1, .ref (g.1 o1)), (2, .ref (g.1 o2)), (3, .int x3), (5, .int x5), (6, .int x6), (7, .int x7)] []) (z : St) (o0 : Nat) (o1 : Nat) (o2 : Nat) (x3 : Int32) (x5 : Int32) (x7 : Int32) (x8 : Int32) (ho0 : kd o0 = 0) (ho1 : kd o1 = 4) (ho2 : kd o2 = 3) {res : St} (hf : f_X0_findBar_139 K20 z o0 o1 o2 x3 x5 x7 x8 = some res) : Zj p l e (rm_X0_findBar) s m args below meth c g A 9 (0, 0) (QV g A below args s res) z 139 [(0, .ref (g.1 o0)), (1, .ref (g.1 o1)), (2, .ref (g.1 o2)), (3, .int x3), (5, .int x5), (7, .int x7), (8, .int x8)] [] := by
  unfold f_X0_findBar_139 at hf
  refine z_aload_n C dX0_findBar_139 rfl 1 rfl ?_
  refine z_iload C dX0_findBar_140 6 rfl ?_
  obtain ⟨r1, hc2, hf⟩ := q_bd hf
  refine z_cVi C (st := []) (c_X4_comesOf ho1 hc2) mw_X4_comesOf ml_X0_65 ho1 (by decide) rfl dX0_findBar_142 rfl rfl rfl ⟨Nat.le_of_ble_eq_true rfl, Nat.le_of_ble_eq_true rfl⟩ rfl (Nat.le_of_ble_eq_true rfl) ?_
  exact z_goto C dX0_findBar_145 (by decide) (z_sub [0, 1, 2, 3, 4, 5] rfl (b_X0_findBar_159 C hr hk hK20 r1.1 o0 o1 o2 x3 x5 x7 r1.2 ho0 ho1 ho2 hf))
def f_X0_findBar_148 (K20 : St → Nat → Nat → Nat → Int32 → Int32 → Int32 → Int32 → Option (St)) (z : St) (o0 : Nat) (o1 : Nat) (o2 : Nat) (x3 : Int32) (x5 : Int32) (x6 : Int32) (x7 : Int32) (x8 : Int32) : Option (St) :=
  ((f_X4_comesOf z o1 x8).bind fun r1 => f_X0_findBar_159 K20 r1.1 o0 o1 o2 x3 x5 x7 (imin x6 r1.2))
theorem b_X0_findBar_148 {p : Program} {l : Launch} {e : Env} {s : State} {m : MethodId} {args : Array Value} {below : List Frame} {meth : Method} {c : Code} {g : Ga} {A : Nat → Prop} (C : Cx l g A p s m args c cX0_findBar 9 RX0 (rm_X0_findBar) (0, 0)) (hr : meth.sig.returnType = none) (hk : meth.locks = false) {K20 : St → Nat → Nat → Nat → Int32 → Int32 → Int32 → Int32 → Option (St)} (hK20 : ∀ (z : St) (o0 : Nat) (o1 : Nat) (o2 : Nat) (x3 : Int32) (x5 : Int32) (x6 : Int32) (x7 : Int32) (_ : kd o0 = 0) (_ : kd o1 = 4) (_ : kd o2 = 3) {res : St}, K20 z o0 o1 o2 x3 x5 x6 x7 = some res → Zj p l e (rm_X0_findBar) s m args below meth c g A 9 (0, 0) (QV g A below args s res) z 20 [(0, .ref (g.1 o0)), (1, .ref (g.1 o1)), (2, .ref (g.1 o2)), (3, .int x3), (5, .int x5), (6, .int x6), (7, .int x7)] []) (z : St) (o0 : Nat) (o1 : Nat) (o2 : Nat) (x3 : Int32) (x5 : Int32) (x6 : Int32) (x7 : Int32) (x8 : Int32) (ho0 : kd o0 = 0) (ho1 : kd o1 = 4) (ho2 : kd o2 = 3) {res : St} (hf : f_X0_findBar_148 K20 z o0 o1 o2 x3 x5 x6 x7 x8 = some res) : Zj p l e (rm_X0_findBar) s m args below meth c g A 9 (0, 0) (QV g A below args s res) z 148 [(0, .ref (g.1 o0)), (1, .ref (g.1 o1)), (2, .ref (g.1 o2)), (3, .int x3), (5, .int x5), (6, .int x6), (7, .int x7), (8, .int x8)] [] := by
  unfold f_X0_findBar_148 at hf
  refine z_iload C dX0_findBar_148 5 rfl ?_
  refine z_aload_n C dX0_findBar_150 rfl 1 rfl ?_
  refine z_iload C dX0_findBar_151 7 rfl ?_
  obtain ⟨r1, hc2, hf⟩ := q_bd hf
  refine z_cVi C (st := [.int x6]) (c_X4_comesOf ho1 hc2) mw_X4_comesOf ml_X0_65 ho1 (by decide) rfl dX0_findBar_153 rfl rfl rfl ⟨Nat.le_of_ble_eq_true rfl, Nat.le_of_ble_eq_true rfl⟩ rfl (Nat.le_of_ble_eq_true rfl) ?_
  refine z_mmin C (st := []) dX0_findBar_156 ml_X0_74 mm_min.1 mm_i mm_min.2 ⟨Nat.le_of_ble_eq_true rfl, Nat.le_of_ble_eq_true rfl⟩ (Nat.le_of_ble_eq_true rfl) ?_
  exact z_sub [0, 1, 2, 3, 4, 6] rfl (b_X0_findBar_159 C hr hk hK20 r1.1 o0 o1 o2 x3 x5 x7 (imin x6 r1.2) ho0 ho1 ho2 hf)
def f_X0_findBar_109 (K20 : St → Nat → Nat → Nat → Int32 → Int32 → Int32 → Int32 → Option (St)) (z : St) (o0 : Nat) (o1 : Nat) (o2 : Nat) (x3 : Int32) (x5 : Int32) (x6 : Int32) (x7 : Int32) (x8 : Int32) : Option (St) :=
  ((f_X4_takesOf (zI z o0 3 ((z.1 o0 3) ||| ((1 : Int32) <<< (x8 &&& 31)))) o1 x8).bind fun r1 => if x6 = ((-1)) then f_X0_findBar_139 K20 r1.1 o0 o1 o2 x3 (x5 + r1.2) x7 x8 else f_X0_findBar_148 K20 r1.1 o0 o1 o2 x3 (x5 + r1.2) x6 x7 x8)
theorem b_X0_findBar_109 {p : Program} {l : Launch} {e : Env} {s : State} {m : MethodId} {args : Array Value} {below : List Frame} {meth : Method} {c : Code} {g : Ga} {A : Nat → Prop} (C : Cx l g A p s m args c cX0_findBar 9 RX0 (rm_X0_findBar) (0, 0)) (hr : meth.sig.returnType = none) (hk : meth.locks = false) {K20 : St → Nat → Nat → Nat → Int32 → Int32 → Int32 → Int32 → Option (St)} (hK20 : ∀ (z : St) (o0 : Nat) (o1 : Nat) (o2 : Nat) (x3 : Int32) (x5 : Int32) (x6 : Int32) (x7 : Int32) (_ : kd o0 = 0) (_ : kd o1 = 4) (_ : kd o2 = 3) {res : St}, K20 z o0 o1 o2 x3 x5 x6 x7 = some res → Zj p l e (rm_X0_findBar) s m args below meth c g A 9 (0, 0) (QV g A below args s res) z 20 [(0, .ref (g.1 o0)), (1, .ref (g.1 o1)), (2, .ref (g.1 o2)), (3, .int x3), (5, .int x5), (6, .int x6), (7, .int x7)] []) (z : St) (o0 : Nat) (o1 : Nat) (o2 : Nat) (x3 : Int32) (x5 : Int32) (x6 : Int32) (x7 : Int32) (x8 : Int32) (ho0 : kd o0 = 0) (ho1 : kd o1 = 4) (ho2 : kd o2 = 3) {res : St} (hf : f_X0_findBar_109 K20 z o0 o1 o2 x3 x5 x6 x7 x8 = some res) : Zj p l e (rm_X0_findBar) s m args below meth c g A 9 (0, 0) (QV g A below args s res) z 109 [(0, .ref (g.1 o0)), (1, .ref (g.1 o1)), (2, .ref (g.1 o2)), (3, .int x3), (5, .int x5), (6, .int x6), (7, .int x7), (8, .int x8)] [] := by
  unfold f_X0_findBar_109 at hf
  refine z_aload_n C dX0_findBar_109 rfl 0 rfl ?_
  refine z_dup C dX0_findBar_110 rfl ?_
  refine gf_X0_53 C dX0_findBar_111 ho0 ?_
  refine z_iconst C dX0_findBar_114 (v := 1) (by decide) ?_
  refine z_iload C dX0_findBar_115 7 rfl ?_
  refine z_ishl C dX0_findBar_117 ?_
  refine z_ior C dX0_findBar_118 ?_
  refine pf_X0_53 C dX0_findBar_119 ho0 ?_
  refine z_iload C dX0_findBar_122 4 rfl ?_
  refine z_aload_n C dX0_findBar_124 rfl 1 rfl ?_
  refine z_iload C dX0_findBar_125 7 rfl ?_
  obtain ⟨r1, hc2, hf⟩ := q_bd hf
  refine z_cVi C (st := [.int x5]) (c_X4_takesOf ho1 hc2) mw_X4_takesOf ml_X0_71 ho1 (by decide) rfl dX0_findBar_127 rfl rfl rfl ⟨Nat.le_of_ble_eq_true rfl, Nat.le_of_ble_eq_true rfl⟩ rfl (Nat.le_of_ble_eq_true rfl) ?_
  refine z_iadd C dX0_findBar_130 ?_
  refine z_istore C (lv2 := [(5, .int (x5 + r1.2)), (0, .ref (g.1 o0)), (1, .ref (g.1 o1)), (2, .ref (g.1 o2)), (3, .int x3), (6, .int x6), (7, .int x7), (8, .int x8)]) dX0_findBar_131 (by decide) rfl ?_
  refine z_iload C dX0_findBar_133 5 rfl ?_
  refine z_iconst C dX0_findBar_135 (v := (-1)) (by decide) ?_
  exact z_icmp_ne C dX0_findBar_136 (by decide) (fun h => z_sub [1, 2, 3, 4, 0, 5, 6, 7] rfl (b_X0_findBar_148 C hr hk hK20 r1.1 o0 o1 o2 x3 (x5 + r1.2) x6 x7 x8 ho0 ho1 ho2 (q_f hf h))) (fun h => z_sub [1, 2, 3, 4, 0, 6, 7] rfl (b_X0_findBar_139 C hr hk hK20 r1.1 o0 o1 o2 x3 (x5 + r1.2) x7 x8 ho0 ho1 ho2 (q_t hf h)))
def f_X0_findBar_31 (K20 : St → Nat → Nat → Nat → Int32 → Int32 → Int32 → Int32 → Option (St)) (z : St) (o0 : Nat) (o1 : Nat) (o2 : Nat) (x3 : Int32) (x5 : Int32) (x6 : Int32) (x7 : Int32) : Option (St) :=
  ((f_X3_jobAt z o2 x7).bind fun r1 => ((f_X4_coolsOf r1.1 o1 r1.2).bind fun r3 => ((f_X4_coolsOf r3.1 o1 (r3.1.1 o0 0)).bind fun r5 => if r5.2 ≤ r3.2 then f_X0_findBar_109 K20 r5.1 o0 o1 o2 x3 x5 x6 x7 r1.2 else f_X0_findBar_56 r5.1 o0 o1 x5 x6 r1.2)))
theorem b_X0_findBar_31 {p : Program} {l : Launch} {e : Env} {s : State} {m : MethodId} {args : Array Value} {below : List Frame} {meth : Method} {c : Code} {g : Ga} {A : Nat → Prop} (C : Cx l g A p s m args c cX0_findBar 9 RX0 (rm_X0_findBar) (0, 0)) (hr : meth.sig.returnType = none) (hk : meth.locks = false) {K20 : St → Nat → Nat → Nat → Int32 → Int32 → Int32 → Int32 → Option (St)} (hK20 : ∀ (z : St) (o0 : Nat) (o1 : Nat) (o2 : Nat) (x3 : Int32) (x5 : Int32) (x6 : Int32) (x7 : Int32) (_ : kd o0 = 0) (_ : kd o1 = 4) (_ : kd o2 = 3) {res : St}, K20 z o0 o1 o2 x3 x5 x6 x7 = some res → Zj p l e (rm_X0_findBar) s m args below meth c g A 9 (0, 0) (QV g A below args s res) z 20 [(0, .ref (g.1 o0)), (1, .ref (g.1 o1)), (2, .ref (g.1 o2)), (3, .int x3), (5, .int x5), (6, .int x6), (7, .int x7)] []) (z : St) (o0 : Nat) (o1 : Nat) (o2 : Nat) (x3 : Int32) (x5 : Int32) (x6 : Int32) (x7 : Int32) (ho0 : kd o0 = 0) (ho1 : kd o1 = 4) (ho2 : kd o2 = 3) {res : St} (hf : f_X0_findBar_31 K20 z o0 o1 o2 x3 x5 x6 x7 = some res) : Zj p l e (rm_X0_findBar) s m args below meth c g A 9 (0, 0) (QV g A below args s res) z 31 [(0, .ref (g.1 o0)), (1, .ref (g.1 o1)), (2, .ref (g.1 o2)), (3, .int x3), (5, .int x5), (6, .int x6), (7, .int x7)] [] := by
  unfold f_X0_findBar_31 at hf
  refine z_aload_n C dX0_findBar_31 rfl 2 rfl ?_
  refine z_iload C dX0_findBar_32 6 rfl ?_
  obtain ⟨r1, hc2, hf⟩ := q_bd hf
  refine z_cVi C (st := []) (c_X3_jobAt ho2 hc2) mw_X3_jobAt ml_X0_15 ho2 (by decide) rfl dX0_findBar_34 rfl rfl rfl ⟨Nat.le_of_ble_eq_true rfl, Nat.le_of_ble_eq_true rfl⟩ rfl (Nat.le_of_ble_eq_true rfl) ?_
  refine z_istore C (lv2 := [(8, .int r1.2), (0, .ref (g.1 o0)), (1, .ref (g.1 o1)), (2, .ref (g.1 o2)), (3, .int x3), (5, .int x5), (6, .int x6), (7, .int x7)]) dX0_findBar_37 (by decide) rfl ?_
  refine z_aload_n C dX0_findBar_39 rfl 2 rfl ?_
  refine z_iload C dX0_findBar_40 0 rfl ?_
  obtain ⟨r3, hc4, hf⟩ := q_bd hf
  refine z_cVi C (st := []) (c_X4_coolsOf ho1 hc4) mw_X4_coolsOf ml_X0_42 ho1 (by decide) rfl dX0_findBar_42 rfl rfl rfl ⟨Nat.le_of_ble_eq_true rfl, Nat.le_of_ble_eq_true rfl⟩ rfl (Nat.le_of_ble_eq_true rfl) ?_
  refine z_aload_n C dX0_findBar_45 rfl 2 rfl ?_
  refine z_aload_n C dX0_findBar_46 rfl 1 rfl ?_
  refine gf_X0_27 C dX0_findBar_47 ho0 ?_
  obtain ⟨r5, hc6, hf⟩ := q_bd hf
  refine z_cVi C (st := [.int r3.2]) (c_X4_coolsOf ho1 hc6) mw_X4_coolsOf ml_X0_42 ho1 (by decide) rfl dX0_findBar_50 rfl rfl rfl ⟨Nat.le_of_ble_eq_true rfl, Nat.le_of_ble_eq_true rfl⟩ rfl (Nat.le_of_ble_eq_true rfl) ?_
  exact z_icmp_ge C dX0_findBar_53 (by decide) (fun h => z_sub [1, 2, 3, 4, 5, 6, 7, 0] rfl (b_X0_findBar_109 C hr hk hK20 r5.1 o0 o1 o2 x3 x5 x6 x7 r1.2 ho0 ho1 ho2 (q_t hf h))) (fun h => z_sub [1, 2, 5, 6, 0] rfl (b_X0_findBar_56 C hr hk r5.1 o0 o1 x5 x6 r1.2 ho0 ho1 (q_f hf h)))
def f_X0_findBar_167  (z : St) (o0 : Nat) : Option (St) :=
  some (zI z o0 3 0)
theorem b_X0_findBar_167 {p : Program} {l : Launch} {e : Env} {s : State} {m : MethodId} {args : Array Value} {below : List Frame} {meth : Method} {c : Code} {g : Ga} {A : Nat → Prop} (C : Cx l g A p s m args c cX0_findBar 9 RX0 (rm_X0_findBar) (0, 0)) (hr : meth.sig.returnType = none) (hk : meth.locks = false)   (z : St) (o0 : Nat) (ho0 : kd o0 = 0) {res : St} (hf : f_X0_findBar_167  z o0 = some res) : Zj p l e (rm_X0_findBar) s m args below meth c g A 9 (0, 0) (QV g A below args s res) z 167 [(0, .ref (g.1 o0))] [] := by
  unfold f_X0_findBar_167 at hf
  refine z_aload_n C dX0_findBar_167 rfl 0 rfl ?_
  refine z_iconst C dX0_findBar_168 (v := 0) (by decide) ?_
  refine pf_X0_53 C dX0_findBar_169 ho0 ?_
  cases hf
  exact z_vret C hr hk dX0_findBar_172
def f_X0_findBar_26 (K20 : St → Nat → Nat → Nat → Int32 → Int32 → Int32 → Int32 → Option (St)) (z : St) (o0 : Nat) (o1 : Nat) (o2 : Nat) (x3 : Int32) (x5 : Int32) (x6 : Int32) (x7 : Int32) : Option (St) :=
  if x7 < 0 then f_X0_findBar_167 z o0 else f_X0_findBar_31 K20 z o0 o1 o2 x3 x5 x6 x7
theorem b_X0_findBar_26 {p : Program} {l : Launch} {e : Env} {s : State} {m : MethodId} {args : Array Value} {below : List Frame} {meth : Method} {c : Code} {g : Ga} {A : Nat → Prop} (C : Cx l g A p s m args c cX0_findBar 9 RX0 (rm_X0_findBar) (0, 0)) (hr : meth.sig.returnType = none) (hk : meth.locks = false) {K20 : St → Nat → Nat → Nat → Int32 → Int32 → Int32 → Int32 → Option (St)} (hK20 : ∀ (z : St) (o0 : Nat) (o1 : Nat) (o2 : Nat) (x3 : Int32) (x5 : Int32) (x6 : Int32) (x7 : Int32) (_ : kd o0 = 0) (_ : kd o1 = 4) (_ : kd o2 = 3) {res : St}, K20 z o0 o1 o2 x3 x5 x6 x7 = some res → Zj p l e (rm_X0_findBar) s m args below meth c g A 9 (0, 0) (QV g A below args s res) z 20 [(0, .ref (g.1 o0)), (1, .ref (g.1 o1)), (2, .ref (g.1 o2)), (3, .int x3), (5, .int x5), (6, .int x6), (7, .int x7)] []) (z : St) (o0 : Nat) (o1 : Nat) (o2 : Nat) (x3 : Int32) (x5 : Int32) (x6 : Int32) (x7 : Int32) (ho0 : kd o0 = 0) (ho1 : kd o1 = 4) (ho2 : kd o2 = 3) {res : St} (hf : f_X0_findBar_26 K20 z o0 o1 o2 x3 x5 x6 x7 = some res) : Zj p l e (rm_X0_findBar) s m args below meth c g A 9 (0, 0) (QV g A below args s res) z 26 [(0, .ref (g.1 o0)), (1, .ref (g.1 o1)), (2, .ref (g.1 o2)), (3, .int x3), (5, .int x5), (6, .int x6), (7, .int x7)] [] := by
  unfold f_X0_findBar_26 at hf
  refine z_iload C dX0_findBar_26 6 rfl ?_
  exact z_if_lt C dX0_findBar_28 (by decide) (fun h => z_sub [0] rfl (b_X0_findBar_167 C hr hk z o0 ho0 (q_t hf h))) (fun h => z_sub [0, 1, 2, 3, 4, 5, 6] rfl (b_X0_findBar_31 C hr hk hK20 z o0 o1 o2 x3 x5 x6 x7 ho0 ho1 ho2 (q_f hf h)))
def f_X0_findBar_20  : Nat → St → Nat → Nat → Nat → Int32 → Int32 → Int32 → Int32 → Option (St)
  | 0, _, _, _, _, _, _, _, _ => none
  | n + 1, z, o0, o1, o2, x3, x5, x6, x7 => if x7 < x3 then f_X0_findBar_167 z o0 else f_X0_findBar_26 (f_X0_findBar_20 n) z o0 o1 o2 x3 x5 x6 x7
theorem b_X0_findBar_20 {p : Program} {l : Launch} {e : Env} {s : State} {m : MethodId} {args : Array Value} {below : List Frame} {meth : Method} {c : Code} {g : Ga} {A : Nat → Prop} (C : Cx l g A p s m args c cX0_findBar 9 RX0 (rm_X0_findBar) (0, 0)) (hr : meth.sig.returnType = none) (hk : meth.locks = false)   : ∀ (n : Nat) (z : St) (o0 : Nat) (o1 : Nat) (o2 : Nat) (x3 : Int32) (x5 : Int32) (x6 : Int32) (x7 : Int32) (_ : kd o0 = 0) (_ : kd o1 = 4) (_ : kd o2 = 3) {res : St} (_ : f_X0_findBar_20  n z o0 o1 o2 x3 x5 x6 x7 = some res), Zj p l e (rm_X0_findBar) s m args below meth c g A 9 (0, 0) (QV g A below args s res) z 20 [(0, .ref (g.1 o0)), (1, .ref (g.1 o1)), (2, .ref (g.1 o2)), (3, .int x3), (5, .int x5), (6, .int x6), (7, .int x7)] [] := by
  intro n
  induction n with
  | zero =>
    intro z o0 o1 o2 x3 x5 x6 x7 ho0 ho1 ho2 res hf
    cases hf
  | succ n ih =>
    intro z o0 o1 o2 x3 x5 x6 x7 ho0 ho1 ho2 res hf
    rw [f_X0_findBar_20] at hf
    refine z_iload C dX0_findBar_20 6 rfl ?_
    refine z_iload_n C dX0_findBar_22 rfl 3 rfl ?_
    exact z_icmp_lt C dX0_findBar_23 (by decide) (fun h => z_sub [0] rfl (b_X0_findBar_167 C hr hk z o0 ho0 (q_t hf h))) (fun h => z_sub [0, 1, 2, 3, 4, 5, 6] rfl (b_X0_findBar_26 C hr hk ih z o0 o1 o2 x3 x5 x6 x7 ho0 ho1 ho2 (q_f hf h)))
def f_X0_findBar_0  (z : St) (o0 : Nat) (o1 : Nat) (o2 : Nat) (x3 : Int32) (x4 : Int32) : Option (St) :=
  f_X0_findBar_20 FU (zI (zI z o0 2 ((-1))) o0 3 0) o0 o1 o2 x3 0 ((-1)) x4
theorem b_X0_findBar_0 {p : Program} {l : Launch} {e : Env} {s : State} {m : MethodId} {args : Array Value} {below : List Frame} {meth : Method} {c : Code} {g : Ga} {A : Nat → Prop} (C : Cx l g A p s m args c cX0_findBar 9 RX0 (rm_X0_findBar) (0, 0)) (hr : meth.sig.returnType = none) (hk : meth.locks = false)   (z : St) (o0 : Nat) (o1 : Nat) (o2 : Nat) (x3 : Int32) (x4 : Int32) (ho0 : kd o0 = 0) (ho1 : kd o1 = 4) (ho2 : kd o2 = 3) {res : St} (hf : f_X0_findBar_0  z o0 o1 o2 x3 x4 = some res) : Zj p l e (rm_X0_findBar) s m args below meth c g A 9 (0, 0) (QV g A below args s res) z 0 [(0, .ref (g.1 o0)), (1, .ref (g.1 o1)), (2, .ref (g.1 o2)), (3, .int x3), (4, .int x4)] [] := by
  unfold f_X0_findBar_0 at hf
  refine z_aload_n C dX0_findBar_0 rfl 0 rfl ?_
  refine z_iconst C dX0_findBar_1 (v := (-1)) (by decide) ?_
  refine pf_X0_50 C dX0_findBar_2 ho0 ?_
  refine z_aload_n C dX0_findBar_5 rfl 0 rfl ?_
  refine z_iconst C dX0_findBar_6 (v := 0) (by decide) ?_
  refine pf_X0_53 C dX0_findBar_7 ho0 ?_
  refine z_iconst C dX0_findBar_10 (v := 0) (by decide) ?_
  refine z_istore C (lv2 := [(5, .int 0), (0, .ref (g.1 o0)), (1, .ref (g.1 o1)), (2, .ref (g.1 o2)), (3, .int x3), (4, .int x4)]) dX0_findBar_11 (by decide) rfl ?_
  refine z_iconst C dX0_findBar_13 (v := (-1)) (by decide) ?_
  refine z_istore C (lv2 := [(6, .int ((-1))), (5, .int 0), (0, .ref (g.1 o0)), (1, .ref (g.1 o1)), (2, .ref (g.1 o2)), (3, .int x3), (4, .int x4)]) dX0_findBar_14 (by decide) rfl ?_
  refine z_iload C dX0_findBar_16 6 rfl ?_
  refine z_istore C (lv2 := [(7, .int x4), (6, .int ((-1))), (5, .int 0), (0, .ref (g.1 o0)), (1, .ref (g.1 o1)), (2, .ref (g.1 o2)), (3, .int x3), (4, .int x4)]) dX0_findBar_18 (by decide) rfl ?_
  exact z_sub [3, 4, 5, 6, 2, 1, 0] rfl (b_X0_findBar_20 C hr hk FU (zI (zI z o0 2 ((-1))) o0 3 0) o0 o1 o2 x3 0 ((-1)) x4 ho0 ho1 ho2 hf)
def f_X0_findBar (z : St) (o0 : Nat) (o1 : Nat) (o2 : Nat) (x3 : Int32) (x4 : Int32) : Option (St) := f_X0_findBar_0 z o0 o1 o2 x3 x4
theorem c_X0_findBar {l : Launch} {g : Ga} {A : Nat → Prop} {z : St} {o0 : Nat} {o1 : Nat} {o2 : Nat} {x3 : Int32} {x4 : Int32} (ho0 : kd o0 = 0) (ho1 : kd o1 = 4) (ho2 : kd o2 = 3) {res : St} (hf : f_X0_findBar z o0 o1 o2 x3 x4 = some res) : CV l g A yX0_findBar cX0_findBar 9 none rm_X0_findBar [.ref (g.1 o0), .ref (g.1 o1), .ref (g.1 o2), .int x3, .int x4] z res :=
  e_CV (by decide) (Nat.le_of_ble_eq_true rfl) rfl (fun p e s m args below meth c C hr hk => z_sub [0, 1, 2, 3, 4] rfl (b_X0_findBar_0 C hr hk z o0 o1 o2 x3 x4 ho0 ho1 ho2 hf))
abbrev rm_X0_placeOfLast : Room := { frames := 1, cells := 0, slots := 0, locals := 21 }
def f_X0_placeOfLast_41 (K4 : St → Nat → Nat → Int32 → Int32 → Option (St × Int32)) (z : St) (o0 : Nat) (o1 : Nat) (x2 : Int32) (x3 : Int32) : Option (St × Int32) :=
  K4 z o0 o1 x2 (x3 + 1)
theorem b_X0_placeOfLast_41 {p : Program} {l : Launch} {e : Env} {s : State} {m : MethodId} {args : Array Value} {below : List Frame} {meth : Method} {c : Code} {g : Ga} {A : Nat → Prop} (C : Cx l g A p s m args c cX0_placeOfLast 5 RX0 (rm_X0_placeOfLast) (0, 0)) (hr : meth.sig.returnType = (some .int)) (hk : meth.locks = false) {K4 : St → Nat → Nat → Int32 → Int32 → Option (St × Int32)} (hK4 : ∀ (z : St) (o0 : Nat) (o1 : Nat) (x2 : Int32) (x3 : Int32) (_ : kd o0 = 4) (_ : kd o1 = 3) {res : St × Int32}, K4 z o0 o1 x2 x3 = some res → Zj p l e (rm_X0_placeOfLast) s m args below meth c g A 5 (0, 0) (QI g A below args s res) z 4 [(0, .ref (g.1 o0)), (1, .ref (g.1 o1)), (2, .int x2), (3, .int x3)] []) (z : St) (o0 : Nat) (o1 : Nat) (x2 : Int32) (x3 : Int32) (ho0 : kd o0 = 4) (ho1 : kd o1 = 3) {res : St × Int32} (hf : f_X0_placeOfLast_41 K4 z o0 o1 x2 x3 = some res) : Zj p l e (rm_X0_placeOfLast) s m args below meth c g A 5 (0, 0) (QI g A below args s res) z 41 [(0, .ref (g.1 o0)), (1, .ref (g.1 o1)), (2, .int x2), (3, .int x3)] [] := by
  unfold f_X0_placeOfLast_41 at hf
  refine z_iinc C (k := 3) (v := x3 + 1) (lv2 := [(3, .int (x3 + 1)), (0, .ref (g.1 o0)), (1, .ref (g.1 o1)), (2, .int x2)]) dX0_placeOfLast_41 rfl rfl (by decide) rfl ?_
  exact z_goto C dX0_placeOfLast_44 (by decide) (z_sub [1, 2, 3, 0] rfl (hK4 z o0 o1 x2 (x3 + 1) ho0 ho1 hf))
def f_X0_placeOfLast_39 (K4 : St → Nat → Nat → Int32 → Int32 → Option (St × Int32)) (z : St) (o0 : Nat) (o1 : Nat) (x3 : Int32) : Option (St × Int32) :=
  f_X0_placeOfLast_41 K4 z o0 o1 x3 x3
theorem b_X0_placeOfLast_39 {p : Program} {l : Launch} {e : Env} {s : State} {m : MethodId} {args : Array Value} {below : List Frame} {meth : Method} {c : Code} {g : Ga} {A : Nat → Prop} (C : Cx l g A p s m args c cX0_placeOfLast 5 RX0 (rm_X0_placeOfLast) (0, 0)) (hr : meth.sig.returnType = (some .int)) (hk : meth.locks = false) {K4 : St → Nat → Nat → Int32 → Int32 → Option (St × Int32)} (hK4 : ∀ (z : St) (o0 : Nat) (o1 : Nat) (x2 : Int32) (x3 : Int32) (_ : kd o0 = 4) (_ : kd o1 = 3) {res : St × Int32}, K4 z o0 o1 x2 x3 = some res → Zj p l e (rm_X0_placeOfLast) s m args below meth c g A 5 (0, 0) (QI g A below args s res) z 4 [(0, .ref (g.1 o0)), (1, .ref (g.1 o1)), (2, .int x2), (3, .int x3)] []) (z : St) (o0 : Nat) (o1 : Nat) (x3 : Int32) (ho0 : kd o0 = 4) (ho1 : kd o1 = 3) {res : St × Int32} (hf : f_X0_placeOfLast_39 K4 z o0 o1 x3 = some res) : Zj p l e (rm_X0_placeOfLast) s m args below meth c g A 5 (0, 0) (QI g A below args s res) z 39 [(0, .ref (g.1 o0)), (1, .ref (g.1 o1)), (3, .int x3)] [] := by
  unfold f_X0_placeOfLast_39 at hf
  refine z_iload_n C dX0_placeOfLast_39 rfl 2 rfl ?_
  refine z_istore_n C (lv2 := [(2, .int x3), (0, .ref (g.1 o0)), (1, .ref (g.1 o1)), (3, .int x3)]) dX0_placeOfLast_40 rfl (by decide) rfl ?_
  exact z_sub [1, 2, 0, 3] rfl (b_X0_placeOfLast_41 C hr hk hK4 z o0 o1 x3 x3 ho0 ho1 hf)
def f_X0_placeOfLast_12 (K4 : St → Nat → Nat → Int32 → Int32 → Option (St × Int32)) (z : St) (o0 : Nat) (o1 : Nat) (x2 : Int32) (x3 : Int32) : Option (St × Int32) :=
  ((f_X3_jobAt z o1 x3).bind fun r1 => ((f_X3_endOf r1.1 o1 r1.2).bind fun r3 => ((f_X4_coolsOf r3.1 o0 r1.2).bind fun r5 => if (r3.2 + r5.2) = (r5.1.1 o1 6) then f_X0_placeOfLast_39 K4 r5.1 o0 o1 x3 else f_X0_placeOfLast_41 K4 r5.1 o0 o1 x2 x3)))
theorem b_X0_placeOfLast_12 {p : Program} {l : Launch} {e : Env} {s : State} {m : MethodId} {args : Array Value} {below : List Frame} {meth : Method} {c : Code} {g : Ga} {A : Nat → Prop} (C : Cx l g A p s m args c cX0_placeOfLast 5 RX0 (rm_X0_placeOfLast) (0, 0)) (hr : meth.sig.returnType = (some .int)) (hk : meth.locks = false) {K4 : St → Nat → Nat → Int32 → Int32 → Option (St × Int32)} (hK4 : ∀ (z : St) (o0 : Nat) (o1 : Nat) (x2 : Int32) (x3 : Int32) (_ : kd o0 = 4) (_ : kd o1 = 3) {res : St × Int32}, K4 z o0 o1 x2 x3 = some res → Zj p l e (rm_X0_placeOfLast) s m args below meth c g A 5 (0, 0) (QI g A below args s res) z 4 [(0, .ref (g.1 o0)), (1, .ref (g.1 o1)), (2, .int x2), (3, .int x3)] []) (z : St) (o0 : Nat) (o1 : Nat) (x2 : Int32) (x3 : Int32) (ho0 : kd o0 = 4) (ho1 : kd o1 = 3) {res : St × Int32} (hf : f_X0_placeOfLast_12 K4 z o0 o1 x2 x3 = some res) : Zj p l e (rm_X0_placeOfLast) s m args below meth c g A 5 (0, 0) (QI g A below args s res) z 12 [(0, .ref (g.1 o0)), (1, .ref (g.1 o1)), (2, .int x2), (3, .int x3)] [] := by
  unfold f_X0_placeOfLast_12 at hf
  refine z_aload_n C dX0_placeOfLast_12 rfl 1 rfl ?_
  refine z_iload_n C dX0_placeOfLast_13 rfl 3 rfl ?_
  obtain ⟨r1, hc2, hf⟩ := q_bd hf
  refine z_cVi C (st := []) (c_X3_jobAt ho1 hc2) mw_X3_jobAt ml_X0_15 ho1 (by decide) rfl dX0_placeOfLast_14 rfl rfl rfl ⟨Nat.le_of_ble_eq_true rfl, Nat.le_of_ble_eq_true rfl⟩ rfl (Nat.le_of_ble_eq_true rfl) ?_
  refine z_istore C (lv2 := [(4, .int r1.2), (0, .ref (g.1 o0)), (1, .ref (g.1 o1)), (2, .int x2), (3, .int x3)]) dX0_placeOfLast_17 (by decide) rfl ?_
  refine z_aload_n C dX0_placeOfLast_19 rfl 2 rfl ?_
  refine z_iload C dX0_placeOfLast_20 0 rfl ?_
  obtain ⟨r3, hc4, hf⟩ := q_bd hf
  refine z_cVi C (st := []) (c_X3_endOf ho1 hc4) mw_X3_endOf ml_X0_24 ho1 (by decide) rfl dX0_placeOfLast_22 rfl rfl rfl ⟨Nat.le_of_ble_eq_true rfl, Nat.le_of_ble_eq_true rfl⟩ rfl (Nat.le_of_ble_eq_true rfl) ?_
  refine z_aload_n C dX0_placeOfLast_25 rfl 1 rfl ?_
  refine z_iload C dX0_placeOfLast_26 0 rfl ?_
  obtain ⟨r5, hc6, hf⟩ := q_bd hf
  refine z_cVi C (st := [.int r3.2]) (c_X4_coolsOf ho0 hc6) mw_X4_coolsOf ml_X0_42 ho0 (by decide) rfl dX0_placeOfLast_28 rfl rfl rfl ⟨Nat.le_of_ble_eq_true rfl, Nat.le_of_ble_eq_true rfl⟩ rfl (Nat.le_of_ble_eq_true rfl) ?_
  refine z_iadd C dX0_placeOfLast_31 ?_
  refine z_aload_n C dX0_placeOfLast_32 rfl 2 rfl ?_
  refine gf_X0_47 C dX0_placeOfLast_33 ho1 ?_
  exact z_icmp_ne C dX0_placeOfLast_36 (by decide) (fun h => z_sub [1, 2, 3, 4] rfl (b_X0_placeOfLast_41 C hr hk hK4 r5.1 o0 o1 x2 x3 ho0 ho1 (q_f hf h))) (fun h => z_sub [1, 2, 4] rfl (b_X0_placeOfLast_39 C hr hk hK4 r5.1 o0 o1 x3 ho0 ho1 (q_t hf h)))
def f_X0_placeOfLast_47  (z : St) (x2 : Int32) : Option (St × Int32) :=
  some (z, x2)
theorem b_X0_placeOfLast_47 {p : Program} {l : Launch} {e : Env} {s : State} {m : MethodId} {args : Array Value} {below : List Frame} {meth : Method} {c : Code} {g : Ga} {A : Nat → Prop} (C : Cx l g A p s m args c cX0_placeOfLast 5 RX0 (rm_X0_placeOfLast) (0, 0)) (hr : meth.sig.returnType = (some .int)) (hk : meth.locks = false)   (z : St) (x2 : Int32)  {res : St × Int32} (hf : f_X0_placeOfLast_47  z x2 = some res) : Zj p l e (rm_X0_placeOfLast) s m args below meth c g A 5 (0, 0) (QI g A below args s res) z 47 [(2, .int x2)] [] := by
  unfold f_X0_placeOfLast_47 at hf
  refine z_iload_n C dX0_placeOfLast_47 rfl 0 rfl ?_
  cases hf
  exact z_iret C hr hk dX0_placeOfLast_48
def f_X0_placeOfLast_4  : Nat → St → Nat → Nat → Int32 → Int32 → Option (St × Int32)
  | 0, _, _, _, _, _ => none
  | n + 1, z, o0, o1, x2, x3 => if (z.1 o1 3) ≤ x3 then f_X0_placeOfLast_47 z x2 else f_X0_placeOfLast_12 (f_X0_placeOfLast_4 n) z o0 o1 x2 x3
theorem b_X0_placeOfLast_4 {p : Program} {l : Launch} {e : Env} {s : State} {m : MethodId} {args : Array Value} {below : List Frame} {meth : Method} {c : Code} {g : Ga} {A : Nat → Prop} (C : Cx l g A p s m args c cX0_placeOfLast 5 RX0 (rm_X0_placeOfLast) (0, 0)) (hr : meth.sig.returnType = (some .int)) (hk : meth.locks = false)   : ∀ (n : Nat) (z : St) (o0 : Nat) (o1 : Nat) (x2 : Int32) (x3 : Int32) (_ : kd o0 = 4) (_ : kd o1 = 3) {res : St × Int32} (_ : f_X0_placeOfLast_4  n z o0 o1 x2 x3 = some res), Zj p l e (rm_X0_placeOfLast) s m args below meth c g A 5 (0, 0) (QI g A below args s res) z 4 [(0, .ref (g.1 o0)), (1, .ref (g.1 o1)), (2, .int x2), (3, .int x3)] [] := by
  intro n
  induction n with
  | zero =>
    intro z o0 o1 x2 x3 ho0 ho1 res hf
    cases hf
  | succ n ih =>
    intro z o0 o1 x2 x3 ho0 ho1 res hf
    rw [f_X0_placeOfLast_4] at hf
    refine z_iload_n C dX0_placeOfLast_4 rfl 3 rfl ?_
    refine z_aload_n C dX0_placeOfLast_5 rfl 1 rfl ?_
    refine gf_X0_41 C dX0_placeOfLast_6 ho1 ?_
    exact z_icmp_ge C dX0_placeOfLast_9 (by decide) (fun h => z_sub [2] rfl (b_X0_placeOfLast_47 C hr hk z x2 (q_t hf h))) (fun h => z_sub [0, 1, 2, 3] rfl (b_X0_placeOfLast_12 C hr hk ih z o0 o1 x2 x3 ho0 ho1 (q_f hf h)))
def f_X0_placeOfLast_0  (z : St) (o0 : Nat) (o1 : Nat) : Option (St × Int32) :=
  f_X0_placeOfLast_4 FU z o0 o1 ((-1)) 0
theorem b_X0_placeOfLast_0 {p : Program} {l : Launch} {e : Env} {s : State} {m : MethodId} {args : Array Value} {below : List Frame} {meth : Method} {c : Code} {g : Ga} {A : Nat → Prop} (C : Cx l g A p s m args c cX0_placeOfLast 5 RX0 (rm_X0_placeOfLast) (0, 0)) (hr : meth.sig.returnType = (some .int)) (hk : meth.locks = false)   (z : St) (o0 : Nat) (o1 : Nat) (ho0 : kd o0 = 4) (ho1 : kd o1 = 3) {res : St × Int32} (hf : f_X0_placeOfLast_0  z o0 o1 = some res) : Zj p l e (rm_X0_placeOfLast) s m args below meth c g A 5 (0, 0) (QI g A below args s res) z 0 [(0, .ref (g.1 o0)), (1, .ref (g.1 o1))] [] := by
  unfold f_X0_placeOfLast_0 at hf
  refine z_iconst C dX0_placeOfLast_0 (v := (-1)) (by decide) ?_
  refine z_istore_n C (lv2 := [(2, .int ((-1))), (0, .ref (g.1 o0)), (1, .ref (g.1 o1))]) dX0_placeOfLast_1 rfl (by decide) rfl ?_
  refine z_iconst C dX0_placeOfLast_2 (v := 0) (by decide) ?_
  refine z_istore_n C (lv2 := [(3, .int 0), (2, .int ((-1))), (0, .ref (g.1 o0)), (1, .ref (g.1 o1))]) dX0_placeOfLast_3 rfl (by decide) rfl ?_
  exact z_sub [2, 3, 1, 0] rfl (b_X0_placeOfLast_4 C hr hk FU z o0 o1 ((-1)) 0 ho0 ho1 hf)
def f_X0_placeOfLast (z : St) (o0 : Nat) (o1 : Nat) : Option (St × Int32) := f_X0_placeOfLast_0 z o0 o1
theorem c_X0_placeOfLast {l : Launch} {g : Ga} {A : Nat → Prop} {z : St} {o0 : Nat} {o1 : Nat} (ho0 : kd o0 = 4) (ho1 : kd o1 = 3) {res : St × Int32} (hf : f_X0_placeOfLast z o0 o1 = some res) : CI l g A yX0_placeOfLast cX0_placeOfLast 5 (some .int) rm_X0_placeOfLast [.ref (g.1 o0), .ref (g.1 o1)] z res :=
  e_CI (by decide) (Nat.le_of_ble_eq_true rfl) rfl (fun p e s m args below meth c C hr hk => z_sub [0, 1] rfl (b_X0_placeOfLast_0 C hr hk z o0 o1 ho0 ho1 hf))
abbrev rm_X0_find : Room := { frames := 2, cells := 0, slots := 0, locals := 49 }
def f_X0_find_39 (K9 : St → Nat → Nat → Nat → Int32 → Int32 → Option (St)) (z : St) (o0 : Nat) (o1 : Nat) (o2 : Nat) (x3 : Int32) (x4 : Int32) : Option (St) :=
  K9 z o0 o1 o2 x3 (x4 + (-1))
theorem b_X0_find_39 {p : Program} {l : Launch} {e : Env} {s : State} {m : MethodId} {args : Array Value} {below : List Frame} {meth : Method} {c : Code} {g : Ga} {A : Nat → Prop} (C : Cx l g A p s m args c cX0_find 5 RX0 (rm_X0_find) (0, 0)) (hr : meth.sig.returnType = none) (hk : meth.locks = false) {K9 : St → Nat → Nat → Nat → Int32 → Int32 → Option (St)} (hK9 : ∀ (z : St) (o0 : Nat) (o1 : Nat) (o2 : Nat) (x3 : Int32) (x4 : Int32) (_ : kd o0 = 0) (_ : kd o1 = 4) (_ : kd o2 = 3) {res : St}, K9 z o0 o1 o2 x3 x4 = some res → Zj p l e (rm_X0_find) s m args below meth c g A 5 (0, 0) (QV g A below args s res) z 9 [(0, .ref (g.1 o0)), (1, .ref (g.1 o1)), (2, .ref (g.1 o2)), (3, .int x3), (4, .int x4)] []) (z : St) (o0 : Nat) (o1 : Nat) (o2 : Nat) (x3 : Int32) (x4 : Int32) (ho0 : kd o0 = 0) (ho1 : kd o1 = 4) (ho2 : kd o2 = 3) {res : St} (hf : f_X0_find_39 K9 z o0 o1 o2 x3 x4 = some res) : Zj p l e (rm_X0_find) s m args below meth c g A 5 (0, 0) (QV g A below args s res) z 39 [(0, .ref (g.1 o0)), (1, .ref (g.1 o1)), (2, .ref (g.1 o2)), (3, .int x3), (4, .int x4)] [] := by
  unfold f_X0_find_39 at hf
  refine z_iinc C (k := 4) (v := x4 + (-1)) (lv2 := [(4, .int (x4 + (-1))), (0, .ref (g.1 o0)), (1, .ref (g.1 o1)), (2, .ref (g.1 o2)), (3, .int x3)]) dX0_find_39 rfl rfl (by decide) rfl ?_
  exact z_goto C dX0_find_42 (by decide) (z_sub [1, 2, 3, 4, 0] rfl (hK9 z o0 o1 o2 x3 (x4 + (-1)) ho0 ho1 ho2 hf))
def f_X0_find_45  (z : St) (o0 : Nat) (o1 : Nat) (o2 : Nat) (x3 : Int32) (x4 : Int32) : Option (St) :=
  ((f_X3_jobAt z o2 x3).bind fun r1 => ((f_X3_jobAt (zI r1.1 o0 0 r1.2) o2 x4).bind fun r3 => ((f_X0_findBar (zI (zI r3.1 o0 1 r3.2) o0 4 ((x3 - x4) + 1)) o0 o1 o2 x4 x3).bind fun r5 => some r5)))
theorem b_X0_find_45 {p : Program} {l : Launch} {e : Env} {s : State} {m : MethodId} {args : Array Value} {below : List Frame} {meth : Method} {c : Code} {g : Ga} {A : Nat → Prop} (C : Cx l g A p s m args c cX0_find 5 RX0 (rm_X0_find) (0, 0)) (hr : meth.sig.returnType = none) (hk : meth.locks = false)   (z : St) (o0 : Nat) (o1 : Nat) (o2 : Nat) (x3 : Int32) (x4 : Int32) (ho0 : kd o0 = 0) (ho1 : kd o1 = 4) (ho2 : kd o2 = 3) {res : St} (hf : f_X0_find_45  z o0 o1 o2 x3 x4 = some res) : Zj p l e (rm_X0_find) s m args below meth c g A 5 (0, 0) (QV g A below args s res) z 45 [(0, .ref (g.1 o0)), (1, .ref (g.1 o1)), (2, .ref (g.1 o2)), (3, .int x3), (4, .int x4)] [] := by
  unfold f_X0_find_45 at hf
  refine z_aload_n C dX0_find_45 rfl 0 rfl ?_
  refine z_aload_n C dX0_find_46 rfl 2 rfl ?_
  refine z_iload_n C dX0_find_47 rfl 3 rfl ?_
  obtain ⟨r1, hc2, hf⟩ := q_bd hf
  refine z_cVi C (st := [.ref (g.1 o0)]) (c_X3_jobAt ho2 hc2) mw_X3_jobAt ml_X0_15 ho2 (by decide) rfl dX0_find_48 rfl rfl rfl ⟨Nat.le_of_ble_eq_true rfl, Nat.le_of_ble_eq_true rfl⟩ rfl (Nat.le_of_ble_eq_true rfl) ?_
  refine pf_X0_27 C dX0_find_51 ho0 ?_
  refine z_aload_n C dX0_find_54 rfl 0 rfl ?_
  refine z_aload_n C dX0_find_55 rfl 2 rfl ?_
  refine z_iload C dX0_find_56 4 rfl ?_
  obtain ⟨r3, hc4, hf⟩ := q_bd hf
  refine z_cVi C (st := [.ref (g.1 o0)]) (c_X3_jobAt ho2 hc4) mw_X3_jobAt ml_X0_15 ho2 (by decide) rfl dX0_find_58 rfl rfl rfl ⟨Nat.le_of_ble_eq_true rfl, Nat.le_of_ble_eq_true rfl⟩ rfl (Nat.le_of_ble_eq_true rfl) ?_
  refine pf_X0_31 C dX0_find_61 ho0 ?_
  refine z_aload_n C dX0_find_64 rfl 0 rfl ?_
  refine z_iload_n C dX0_find_65 rfl 3 rfl ?_
  refine z_iload C dX0_find_66 4 rfl ?_
  refine z_isub C dX0_find_68 ?_
  refine z_iconst C dX0_find_69 (v := 1) (by decide) ?_
  refine z_iadd C dX0_find_70 ?_
  refine pf_X0_34 C dX0_find_71 ho0 ?_
  refine z_aload_n C dX0_find_74 rfl 0 rfl ?_
  refine z_aload_n C dX0_find_75 rfl 1 rfl ?_
  refine z_aload_n C dX0_find_76 rfl 2 rfl ?_
  refine z_iload C dX0_find_77 4 rfl ?_
  refine z_iload_n C dX0_find_79 rfl 3 rfl ?_
  obtain ⟨r5, hc6, hf⟩ := q_bd hf
  refine z_cVv C (st := []) (c_X0_findBar ho0 ho1 ho2 hc6) mw_X0_findBar ml_X0_37 ho0 (by decide) rfl dX0_find_80 rfl rfl rfl ⟨Nat.le_of_ble_eq_true rfl, Nat.le_of_ble_eq_true rfl⟩ rfl (Nat.le_of_ble_eq_true rfl) ?_
  cases hf
  exact z_vret C hr hk dX0_find_83
def f_X0_find_14 (K9 : St → Nat → Nat → Nat → Int32 → Int32 → Option (St)) (z : St) (o0 : Nat) (o1 : Nat) (o2 : Nat) (x3 : Int32) (x4 : Int32) : Option (St) :=
  ((f_X3_jobAt z o2 x4).bind fun r1 => ((f_X3_beginOf r1.1 o2 r1.2).bind fun r3 => ((f_X3_jobAt r3.1 o2 (x4 - 1)).bind fun r5 => ((f_X3_endOf r5.1 o2 r5.2).bind fun r7 => if r3.2 = r7.2 then f_X0_find_39 K9 r7.1 o0 o1 o2 x3 x4 else f_X0_find_45 r7.1 o0 o1 o2 x3 x4))))
theorem b_X0_find_14 {p : Program} {l : Launch} {e : Env} {s : State} {m : MethodId} {args : Array Value} {below : List Frame} {meth : Method} {c : Code} {g : Ga} {A : Nat → Prop} (C : Cx l g A p s m args c cX0_find 5 RX0 (rm_X0_find) (0, 0)) (hr : meth.sig.returnType = none) (hk : meth.locks = false) {K9 : St → Nat → Nat → Nat → Int32 → Int32 → Option (St)} (hK9 : ∀ (z : St) (o0 : Nat) (o1 : Nat) (o2 : Nat) (x3 : Int32) (x4 : Int32) (_ : kd o0 = 0) (_ : kd o1 = 4) (_ : kd o2 = 3) {res : St}, K9 z o0 o1 o2 x3 x4 = some res → Zj p l e (rm_X0_find) s m args below meth c g A 5 (0, 0) (QV g A below args s res) z 9 [(0, .ref (g.1 o0)), (1, .ref (g.1 o1)), (2, .ref (g.1 o2)), (3, .int x3), (4, .int x4)] []) (z : St) (o0 : Nat) (o1 : Nat) (o2 : Nat) (x3 : Int32) (x4 : Int32) (ho0 : kd o0 = 0) (ho1 : kd o1 = 4) (ho2 : kd o2 = 3) {res : St} (hf : f_X0_find_14 K9 z o0 o1 o2 x3 x4 = some res) : Zj p l e (rm_X0_find) s m args below meth c g A 5 (0, 0) (QV g A below args s res) z 14 [(0, .ref (g.1 o0)), (1, .ref (g.1 o1)), (2, .ref (g.1 o2)), (3, .int x3), (4, .int x4)] [] := by
  unfold f_X0_find_14 at hf
  refine z_aload_n C dX0_find_14 rfl 2 rfl ?_
  refine z_aload_n C dX0_find_15 rfl 2 rfl ?_
  refine z_iload C dX0_find_16 4 rfl ?_
  obtain ⟨r1, hc2, hf⟩ := q_bd hf
  refine z_cVi C (st := [.ref (g.1 o2)]) (c_X3_jobAt ho2 hc2) mw_X3_jobAt ml_X0_15 ho2 (by decide) rfl dX0_find_18 rfl rfl rfl ⟨Nat.le_of_ble_eq_true rfl, Nat.le_of_ble_eq_true rfl⟩ rfl (Nat.le_of_ble_eq_true rfl) ?_
  obtain ⟨r3, hc4, hf⟩ := q_bd hf
  refine z_cVi C (st := []) (c_X3_beginOf ho2 hc4) mw_X3_beginOf ml_X0_21 ho2 (by decide) rfl dX0_find_21 rfl rfl rfl ⟨Nat.le_of_ble_eq_true rfl, Nat.le_of_ble_eq_true rfl⟩ rfl (Nat.le_of_ble_eq_true rfl) ?_
  refine z_aload_n C dX0_find_24 rfl 2 rfl ?_
  refine z_aload_n C dX0_find_25 rfl 2 rfl ?_
  refine z_iload C dX0_find_26 4 rfl ?_
  refine z_iconst C dX0_find_28 (v := 1) (by decide) ?_
  refine z_isub C dX0_find_29 ?_
  obtain ⟨r5, hc6, hf⟩ := q_bd hf
  refine z_cVi C (st := [.ref (g.1 o2), .int r3.2]) (c_X3_jobAt ho2 hc6) mw_X3_jobAt ml_X0_15 ho2 (by decide) rfl dX0_find_30 rfl rfl rfl ⟨Nat.le_of_ble_eq_true rfl, Nat.le_of_ble_eq_true rfl⟩ rfl (Nat.le_of_ble_eq_true rfl) ?_
  obtain ⟨r7, hc8, hf⟩ := q_bd hf
  refine z_cVi C (st := [.int r3.2]) (c_X3_endOf ho2 hc8) mw_X3_endOf ml_X0_24 ho2 (by decide) rfl dX0_find_33 rfl rfl rfl ⟨Nat.le_of_ble_eq_true rfl, Nat.le_of_ble_eq_true rfl⟩ rfl (Nat.le_of_ble_eq_true rfl) ?_
  exact z_icmp_ne C dX0_find_36 (by decide) (fun h => z_sub [0, 1, 2, 3, 4] rfl (b_X0_find_45 C hr hk r7.1 o0 o1 o2 x3 x4 ho0 ho1 ho2 (q_f hf h))) (fun h => z_sub [0, 1, 2, 3, 4] rfl (b_X0_find_39 C hr hk hK9 r7.1 o0 o1 o2 x3 x4 ho0 ho1 ho2 (q_t hf h)))
def f_X0_find_9  : Nat → St → Nat → Nat → Nat → Int32 → Int32 → Option (St)
  | 0, _, _, _, _, _, _ => none
  | n + 1, z, o0, o1, o2, x3, x4 => if x4 ≤ 0 then f_X0_find_45 z o0 o1 o2 x3 x4 else f_X0_find_14 (f_X0_find_9 n) z o0 o1 o2 x3 x4
theorem b_X0_find_9 {p : Program} {l : Launch} {e : Env} {s : State} {m : MethodId} {args : Array Value} {below : List Frame} {meth : Method} {c : Code} {g : Ga} {A : Nat → Prop} (C : Cx l g A p s m args c cX0_find 5 RX0 (rm_X0_find) (0, 0)) (hr : meth.sig.returnType = none) (hk : meth.locks = false)   : ∀ (n : Nat) (z : St) (o0 : Nat) (o1 : Nat) (o2 : Nat) (x3 : Int32) (x4 : Int32) (_ : kd o0 = 0) (_ : kd o1 = 4) (_ : kd o2 = 3) {res : St} (_ : f_X0_find_9  n z o0 o1 o2 x3 x4 = some res), Zj p l e (rm_X0_find) s m args below meth c g A 5 (0, 0) (QV g A below args s res) z 9 [(0, .ref (g.1 o0)), (1, .ref (g.1 o1)), (2, .ref (g.1 o2)), (3, .int x3), (4, .int x4)] [] := by
  intro n
  induction n with
  | zero =>
    intro z o0 o1 o2 x3 x4 ho0 ho1 ho2 res hf
    cases hf
  | succ n ih =>
    intro z o0 o1 o2 x3 x4 ho0 ho1 ho2 res hf
    rw [f_X0_find_9] at hf
    refine z_iload C dX0_find_9 4 rfl ?_
    exact z_if_le C dX0_find_11 (by decide) (fun h => z_sub [0, 1, 2, 3, 4] rfl (b_X0_find_45 C hr hk z o0 o1 o2 x3 x4 ho0 ho1 ho2 (q_t hf h))) (fun h => z_sub [0, 1, 2, 3, 4] rfl (b_X0_find_14 C hr hk ih z o0 o1 o2 x3 x4 ho0 ho1 ho2 (q_f hf h)))
def f_X0_find_0  (z : St) (o0 : Nat) (o1 : Nat) (o2 : Nat) : Option (St) :=
  ((f_X0_placeOfLast z o1 o2).bind fun r1 => f_X0_find_9 FU r1.1 o0 o1 o2 r1.2 r1.2)
theorem b_X0_find_0 {p : Program} {l : Launch} {e : Env} {s : State} {m : MethodId} {args : Array Value} {below : List Frame} {meth : Method} {c : Code} {g : Ga} {A : Nat → Prop} (C : Cx l g A p s m args c cX0_find 5 RX0 (rm_X0_find) (0, 0)) (hr : meth.sig.returnType = none) (hk : meth.locks = false)   (z : St) (o0 : Nat) (o1 : Nat) (o2 : Nat) (ho0 : kd o0 = 0) (ho1 : kd o1 = 4) (ho2 : kd o2 = 3) {res : St} (hf : f_X0_find_0  z o0 o1 o2 = some res) : Zj p l e (rm_X0_find) s m args below meth c g A 5 (0, 0) (QV g A below args s res) z 0 [(0, .ref (g.1 o0)), (1, .ref (g.1 o1)), (2, .ref (g.1 o2))] [] := by
  unfold f_X0_find_0 at hf
  refine z_aload_n C dX0_find_0 rfl 1 rfl ?_
  refine z_aload_n C dX0_find_1 rfl 2 rfl ?_
  obtain ⟨r1, hc2, hf⟩ := q_bd hf
  refine z_cSi C (st := []) (c_X0_placeOfLast ho1 ho2 hc2) mw_X0_placeOfLast ml_X0_9 dX0_find_2 rfl rfl rfl ⟨Nat.le_of_ble_eq_true rfl, Nat.le_of_ble_eq_true rfl⟩ rfl (Nat.le_of_ble_eq_true rfl) ?_
  refine z_istore_n C (lv2 := [(3, .int r1.2), (0, .ref (g.1 o0)), (1, .ref (g.1 o1)), (2, .ref (g.1 o2))]) dX0_find_5 rfl (by decide) rfl ?_
  refine z_iload_n C dX0_find_6 rfl 0 rfl ?_
  refine z_istore C (lv2 := [(4, .int r1.2), (3, .int r1.2), (0, .ref (g.1 o0)), (1, .ref (g.1 o1)), (2, .ref (g.1 o2))]) dX0_find_7 (by decide) rfl ?_
  exact z_sub [2, 3, 4, 1, 0] rfl (b_X0_find_9 C hr hk FU r1.1 o0 o1 o2 r1.2 r1.2 ho0 ho1 ho2 hf)
def f_X0_find (z : St) (o0 : Nat) (o1 : Nat) (o2 : Nat) : Option (St) := f_X0_find_0 z o0 o1 o2
theorem c_X0_find {l : Launch} {g : Ga} {A : Nat → Prop} {z : St} {o0 : Nat} {o1 : Nat} {o2 : Nat} (ho0 : kd o0 = 0) (ho1 : kd o1 = 4) (ho2 : kd o2 = 3) {res : St} (hf : f_X0_find z o0 o1 o2 = some res) : CV l g A yX0_find cX0_find 5 none rm_X0_find [.ref (g.1 o0), .ref (g.1 o1), .ref (g.1 o2)] z res :=
  e_CV (by decide) (Nat.le_of_ble_eq_true rfl) rfl (fun p e s m args below meth c C hr hk => z_sub [0, 1, 2] rfl (b_X0_find_0 C hr hk z o0 o1 o2 ho0 ho1 ho2 hf))
