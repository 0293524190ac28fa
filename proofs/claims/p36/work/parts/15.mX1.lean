abbrev rm_X1_run : Room := { frames := 2, cells := 0, slots := 0, locals := 46 }
def f_X1_run_21 (K12 : St → Nat → Nat → Int32 → Option (St)) (z : St) (o0 : Nat) (o1 : Nat) (x2 : Int32) : Option (St) :=
  ((f_X4_takesOf z o1 x2).bind fun r1 => if inb x2 8 = true then (K12 (zI r1.1 (rf o0 0) (Int32.toNatClampNeg x2) r1.2) o0 o1 (x2 + 1)) else none)
theorem b_X1_run_21 {p : Program} {l : Launch} {e : Env} {s : State} {m : MethodId} {args : Array Value} {below : List Frame} {meth : Method} {c : Code} {g : Ga} {A : Nat → Prop} (C : Cx l g A p s m args c cX1_run 7 RX1 (rm_X1_run) (0, 0)) (hr : meth.sig.returnType = none) (hk : meth.locks = false) {K12 : St → Nat → Nat → Int32 → Option (St)} (hK12 : ∀ (z : St) (o0 : Nat) (o1 : Nat) (x2 : Int32) (_ : kd o0 = 1) (_ : kd o1 = 4) {res : St}, K12 z o0 o1 x2 = some res → Zj p l e (rm_X1_run) s m args below meth c g A 7 (0, 0) (QV g A below args s res) z 12 [(0, .ref (g.1 o0)), (1, .ref (g.1 o1)), (2, .int x2)] []) (z : St) (o0 : Nat) (o1 : Nat) (x2 : Int32) (ho0 : kd o0 = 1) (ho1 : kd o1 = 4) {res : St} (hf : f_X1_run_21 K12 z o0 o1 x2 = some res) : Zj p l e (rm_X1_run) s m args below meth c g A 7 (0, 0) (QV g A below args s res) z 21 [(0, .ref (g.1 o0)), (1, .ref (g.1 o1)), (2, .int x2)] [] := by
  unfold f_X1_run_21 at hf
  refine z_aload_n C dX1_run_21 rfl 0 rfl ?_
  refine gf_X1_9 C dX1_run_22 ho0 ?_
  refine z_iload_n C dX1_run_25 rfl 2 rfl ?_
  refine z_aload_n C dX1_run_26 rfl 1 rfl ?_
  refine z_iload_n C dX1_run_27 rfl 2 rfl ?_
  obtain ⟨r1, hc2, hf⟩ := q_bd hf
  refine z_cVi C (st := [.int x2, .ref (g.1 (rf o0 0))]) (c_X4_takesOf ho1 hc2) mw_X4_takesOf ml_X1_22 ho1 (by decide) rfl dX1_run_28 rfl rfl rfl ⟨Nat.le_of_ble_eq_true rfl, Nat.le_of_ble_eq_true rfl⟩ rfl (Nat.le_of_ble_eq_true rfl) ?_
  obtain ⟨h3, hf⟩ := q_ck hf
  refine z_iast C (n := 8) dX1_run_31 (rt_1_0 _ (kd_lt ho0 (by decide)) ho0) (by decide) h3 ?_
  refine z_iinc C (k := 2) (v := x2 + 1) (lv2 := [(2, .int (x2 + 1)), (0, .ref (g.1 o0)), (1, .ref (g.1 o1))]) dX1_run_32 rfl rfl (by decide) rfl ?_
  exact z_goto C dX1_run_35 (by decide) (z_sub [1, 2, 0] rfl (hK12 (zI r1.1 (rf o0 0) (Int32.toNatClampNeg x2) r1.2) o0 o1 (x2 + 1) ho0 ho1 hf))
def f_X1_run_90  (z : St)  : Option (St) :=
  some z
theorem b_X1_run_90 {p : Program} {l : Launch} {e : Env} {s : State} {m : MethodId} {args : Array Value} {below : List Frame} {meth : Method} {c : Code} {g : Ga} {A : Nat → Prop} (C : Cx l g A p s m args c cX1_run 7 RX1 (rm_X1_run) (0, 0)) (hr : meth.sig.returnType = none) (hk : meth.locks = false)   (z : St)   {res : St} (hf : f_X1_run_90  z  = some res) : Zj p l e (rm_X1_run) s m args below meth c g A 7 (0, 0) (QV g A below args s res) z 90 [] [] := by
  unfold f_X1_run_90 at hf
  cases hf
  exact z_vret C hr hk dX1_run_90
def f_X1_run_175 (K45 : St → Nat → Nat → Int32 → Int32 → Int32 → Option (St)) (z : St) (o0 : Nat) (o1 : Nat) (x2 : Int32) (x3 : Int32) (x4 : Int32) : Option (St) :=
  K45 z o0 o1 x2 x3 (x4 + 1)
theorem b_X1_run_175 {p : Program} {l : Launch} {e : Env} {s : State} {m : MethodId} {args : Array Value} {below : List Frame} {meth : Method} {c : Code} {g : Ga} {A : Nat → Prop} (C : Cx l g A p s m args c cX1_run 7 RX1 (rm_X1_run) (0, 0)) (hr : meth.sig.returnType = none) (hk : meth.locks = false) {K45 : St → Nat → Nat → Int32 → Int32 → Int32 → Option (St)} (hK45 : ∀ (z : St) (o0 : Nat) (o1 : Nat) (x2 : Int32) (x3 : Int32) (x4 : Int32) (_ : kd o0 = 1) (_ : kd o1 = 4) {res : St}, K45 z o0 o1 x2 x3 x4 = some res → Zj p l e (rm_X1_run) s m args below meth c g A 7 (0, 0) (QV g A below args s res) z 45 [(0, .ref (g.1 o0)), (1, .ref (g.1 o1)), (2, .int x2), (3, .int x3), (4, .int x4)] []) (z : St) (o0 : Nat) (o1 : Nat) (x2 : Int32) (x3 : Int32) (x4 : Int32) (ho0 : kd o0 = 1) (ho1 : kd o1 = 4) {res : St} (hf : f_X1_run_175 K45 z o0 o1 x2 x3 x4 = some res) : Zj p l e (rm_X1_run) s m args below meth c g A 7 (0, 0) (QV g A below args s res) z 175 [(0, .ref (g.1 o0)), (1, .ref (g.1 o1)), (2, .int x2), (3, .int x3), (4, .int x4)] [] := by
  unfold f_X1_run_175 at hf
  refine z_iinc C (k := 4) (v := x4 + 1) (lv2 := [(4, .int (x4 + 1)), (0, .ref (g.1 o0)), (1, .ref (g.1 o1)), (2, .int x2), (3, .int x3)]) dX1_run_175 rfl rfl (by decide) rfl ?_
  exact z_goto C dX1_run_178 (by decide) (z_sub [1, 2, 3, 4, 0] rfl (hK45 z o0 o1 x2 x3 (x4 + 1) ho0 ho1 hf))
def f_X1_run_136 (K45 : St → Nat → Nat → Int32 → Int32 → Int32 → Option (St)) (z : St) (o0 : Nat) (o1 : Nat) (x2 : Int32) (x3 : Int32) (x4 : Int32) : Option (St) :=
  f_X1_run_175 K45 (zI z o0 2 ((z.1 o0 2) + 1)) o0 o1 x2 x3 x4
theorem b_X1_run_136 {p : Program} {l : Launch} {e : Env} {s : State} {m : MethodId} {args : Array Value} {below : List Frame} {meth : Method} {c : Code} {g : Ga} {A : Nat → Prop} (C : Cx l g A p s m args c cX1_run 7 RX1 (rm_X1_run) (0, 0)) (hr : meth.sig.returnType = none) (hk : meth.locks = false) {K45 : St → Nat → Nat → Int32 → Int32 → Int32 → Option (St)} (hK45 : ∀ (z : St) (o0 : Nat) (o1 : Nat) (x2 : Int32) (x3 : Int32) (x4 : Int32) (_ : kd o0 = 1) (_ : kd o1 = 4) {res : St}, K45 z o0 o1 x2 x3 x4 = some res → Zj p l e (rm_X1_run) s m args below meth c g A 7 (0, 0) (QV g A below args s res) z 45 [(0, .ref (g.1 o0)), (1, .ref (g.1 o1)), (2, .int x2), (3, .int x3), (4, .int x4)] []) (z : St) (o0 : Nat) (o1 : Nat) (x2 : Int32) (x3 : Int32) (x4 : Int32) (ho0 : kd o0 = 1) (ho1 : kd o1 = 4) {res : St} (hf : f_X1_run_136 K45 z o0 o1 x2 x3 x4 = some res) : Zj p l e (rm_X1_run) s m args below meth c g A 7 (0, 0) (QV g A below args s res) z 136 [(0, .ref (g.1 o0)), (1, .ref (g.1 o1)), (2, .int x2), (3, .int x3), (4, .int x4)] [] := by
  unfold f_X1_run_136 at hf
  refine z_aload_n C dX1_run_136 rfl 0 rfl ?_
  refine z_dup C dX1_run_137 rfl ?_
  refine gf_X1_19 C dX1_run_138 ho0 ?_
  refine z_iconst C dX1_run_141 (v := 1) (by decide) ?_
  refine z_iadd C dX1_run_142 ?_
  refine pf_X1_19 C dX1_run_143 ho0 ?_
  exact z_goto C dX1_run_146 (by decide) (z_sub [0, 1, 2, 3, 4] rfl (b_X1_run_175 C hr hk hK45 (zI z o0 2 ((z.1 o0 2) + 1)) o0 o1 x2 x3 x4 ho0 ho1 hf))
def f_X1_run_149 (K45 : St → Nat → Nat → Int32 → Int32 → Int32 → Option (St)) (z : St) (o0 : Nat) (o1 : Nat) (x2 : Int32) (x3 : Int32) (x4 : Int32) (x5 : Int32) : Option (St) :=
  ((f_X4_coolsOf z o1 x5).bind fun r1 => f_X1_run_175 K45 (zI r1.1 o0 1 (imax (z.1 o0 1) (x3 + r1.2))) o0 o1 (x2 ||| ((1 : Int32) <<< (x5 &&& 31))) x3 x4)
theorem b_X1_run_149 {p : Program} {l : Launch} {e : Env} {s : State} {m : MethodId} {args : Array Value} {below : List Frame} {meth : Method} {c : Code} {g : Ga} {A : Nat → Prop} (C : Cx l g A p s m args c cX1_run 7 RX1 (rm_X1_run) (0, 0)) (hr : meth.sig.returnType = none) (hk : meth.locks = false) {K45 : St → Nat → Nat → Int32 → Int32 → Int32 → Option (St)} (hK45 : ∀ (z : St) (o0 : Nat) (o1 : Nat) (x2 : Int32) (x3 : Int32) (x4 : Int32) (_ : kd o0 = 1) (_ : kd o1 = 4) {res : St}, K45 z o0 o1 x2 x3 x4 = some res → Zj p l e (rm_X1_run) s m args below meth c g A 7 (0, 0) (QV g A below args s res) z 45 [(0, .ref (g.1 o0)), (1, .ref (g.1 o1)), (2, .int x2), (3, .int x3), (4, .int x4)] []) (z : St) (o0 : Nat) (o1 : Nat) (x2 : Int32) (x3 : Int32) (x4 : Int32) (x5 : Int32) (ho0 : kd o0 = 1) (ho1 : kd o1 = 4) {res : St} (hf : f_X1_run_149 K45 z o0 o1 x2 x3 x4 x5 = some res) : Zj p l e (rm_X1_run) s m args below meth c g A 7 (0, 0) (QV g A below args s res) z 149 [(0, .ref (g.1 o0)), (1, .ref (g.1 o1)), (2, .int x2), (3, .int x3), (4, .int x4), (5, .int x5)] [] := by
  unfold f_X1_run_149 at hf
  refine z_iload_n C dX1_run_149 rfl 2 rfl ?_
  refine z_iconst C dX1_run_150 (v := 1) (by decide) ?_
  refine z_iload C dX1_run_151 5 rfl ?_
  refine z_ishl C dX1_run_153 ?_
  refine z_ior C dX1_run_154 ?_
  refine z_istore_n C (lv2 := [(2, .int (x2 ||| ((1 : Int32) <<< (x5 &&& 31)))), (0, .ref (g.1 o0)), (1, .ref (g.1 o1)), (3, .int x3), (4, .int x4), (5, .int x5)]) dX1_run_155 rfl (by decide) rfl ?_
  refine z_aload_n C dX1_run_156 rfl 1 rfl ?_
  refine z_aload_n C dX1_run_157 rfl 1 rfl ?_
  refine gf_X1_15 C dX1_run_158 ho0 ?_
  refine z_iload_n C dX1_run_161 rfl 3 rfl ?_
  refine z_aload_n C dX1_run_162 rfl 2 rfl ?_
  refine z_iload C dX1_run_163 5 rfl ?_
  obtain ⟨r1, hc2, hf⟩ := q_bd hf
  refine z_cVi C (st := [.int x3, .int (z.1 o0 1), .ref (g.1 o0)]) (c_X4_coolsOf ho1 hc2) mw_X4_coolsOf ml_X1_43 ho1 (by decide) rfl dX1_run_165 rfl rfl rfl ⟨Nat.le_of_ble_eq_true rfl, Nat.le_of_ble_eq_true rfl⟩ rfl (Nat.le_of_ble_eq_true rfl) ?_
  refine z_iadd C dX1_run_168 ?_
  refine z_mmax C (st := [.ref (g.1 o0)]) dX1_run_169 ml_X1_46 mm_max.1 mm_i mm_max.2 ⟨Nat.le_of_ble_eq_true rfl, Nat.le_of_ble_eq_true rfl⟩ (Nat.le_of_ble_eq_true rfl) ?_
  refine pf_X1_15 C dX1_run_172 ho0 ?_
  exact z_sub [1, 2, 0, 3, 4] rfl (b_X1_run_175 C hr hk hK45 (zI r1.1 o0 1 (imax (z.1 o0 1) (x3 + r1.2))) o0 o1 (x2 ||| ((1 : Int32) <<< (x5 &&& 31))) x3 x4 ho0 ho1 hf)
def f_X1_run_91 (K45 : St → Nat → Nat → Int32 → Int32 → Int32 → Option (St)) (z : St) (o0 : Nat) (o1 : Nat) (x2 : Int32) (x3 : Int32) (x4 : Int32) (x5 : Int32) : Option (St) :=
  if inb x5 8 = true then (((f_X4_hourOfLonger z o1 x5 x3 (x3 + (z.1 (rf o0 0) (Int32.toNatClampNeg x5)))).bind fun r2 => if inb x5 8 = true then (if inb x5 8 = true then (if inb x5 8 = true then (if ((zI r2.1 (rf o0 0) (Int32.toNatClampNeg x5) ((r2.1.1 (rf o0 0) (Int32.toNatClampNeg x5)) - (r2.2 - x3))).1 (rf o0 0) (Int32.toNatClampNeg x5)) ≤ 0 then f_X1_run_149 K45 (zI r2.1 (rf o0 0) (Int32.toNatClampNeg x5) ((r2.1.1 (rf o0 0) (Int32.toNatClampNeg x5)) - (r2.2 - x3))) o0 o1 x2 r2.2 x4 x5 else f_X1_run_136 K45 (zI r2.1 (rf o0 0) (Int32.toNatClampNeg x5) ((r2.1.1 (rf o0 0) (Int32.toNatClampNeg x5)) - (r2.2 - x3))) o0 o1 x2 r2.2 x4) else none) else none) else none)) else none
theorem b_X1_run_91 {p : Program} {l : Launch} {e : Env} {s : State} {m : MethodId} {args : Array Value} {below : List Frame} {meth : Method} {c : Code} {g : Ga} {A : Nat → Prop} (C : Cx l g A p s m args c cX1_run 7 RX1 (rm_X1_run) (0, 0)) (hr : meth.sig.returnType = none) (hk : meth.locks = false) {K45 : St → Nat → Nat → Int32 → Int32 → Int32 → Option (St)} (hK45 : ∀ (z : St) (o0 : Nat) (o1 : Nat) (x2 : Int32) (x3 : Int32) (x4 : Int32) (_ : kd o0 = 1) (_ : kd o1 = 4) {res : St}, K45 z o0 o1 x2 x3 x4 = some res → Zj p l e (rm_X1_run) s m args below meth c g A 7 (0, 0) (QV g A below args s res) z 45 [(0, .ref (g.1 o0)), (1, .ref (g.1 o1)), (2, .int x2), (3, .int x3), (4, .int x4)] []) (z : St) (o0 : Nat) (o1 : Nat) (x2 : Int32) (x3 : Int32) (x4 : Int32) (x5 : Int32) (ho0 : kd o0 = 1) (ho1 : kd o1 = 4) {res : St} (hf : f_X1_run_91 K45 z o0 o1 x2 x3 x4 x5 = some res) : Zj p l e (rm_X1_run) s m args below meth c g A 7 (0, 0) (QV g A below args s res) z 91 [(0, .ref (g.1 o0)), (1, .ref (g.1 o1)), (2, .int x2), (3, .int x3), (4, .int x4), (5, .int x5)] [] := by
  unfold f_X1_run_91 at hf
  refine z_aload_n C dX1_run_91 rfl 1 rfl ?_
  refine z_iload C dX1_run_92 5 rfl ?_
  refine z_iload_n C dX1_run_94 rfl 3 rfl ?_
  refine z_iload_n C dX1_run_95 rfl 3 rfl ?_
  refine z_aload_n C dX1_run_96 rfl 0 rfl ?_
  refine gf_X1_9 C dX1_run_97 ho0 ?_
  refine z_iload C dX1_run_100 5 rfl ?_
  obtain ⟨h1, hf⟩ := q_ck hf
  refine z_iald C (n := 8) dX1_run_102 (rt_1_0 _ (kd_lt ho0 (by decide)) ho0) (by decide) h1 ?_
  refine z_iadd C dX1_run_103 ?_
  obtain ⟨r2, hc3, hf⟩ := q_bd hf
  refine z_cVi C (st := []) (c_X4_hourOfLonger ho1 hc3) mw_X4_hourOfLonger ml_X1_39 ho1 (by decide) rfl dX1_run_104 rfl rfl rfl ⟨Nat.le_of_ble_eq_true rfl, Nat.le_of_ble_eq_true rfl⟩ rfl (Nat.le_of_ble_eq_true rfl) ?_
  refine z_istore C (lv2 := [(6, .int r2.2), (0, .ref (g.1 o0)), (1, .ref (g.1 o1)), (2, .int x2), (3, .int x3), (4, .int x4), (5, .int x5)]) dX1_run_107 (by decide) rfl ?_
  refine z_aload_n C dX1_run_109 rfl 1 rfl ?_
  refine gf_X1_9 C dX1_run_110 ho0 ?_
  refine z_iload C dX1_run_113 6 rfl ?_
  refine z_dup2 C dX1_run_115 rfl rfl ?_
  obtain ⟨h4, hf⟩ := q_ck hf
  refine z_iald C (n := 8) dX1_run_116 (rt_1_0 _ (kd_lt ho0 (by decide)) ho0) (by decide) h4 ?_
  refine z_iload C dX1_run_117 0 rfl ?_
  refine z_iload_n C dX1_run_119 rfl 4 rfl ?_
  refine z_isub C dX1_run_120 ?_
  refine z_isub C dX1_run_121 ?_
  obtain ⟨h5, hf⟩ := q_ck hf
  refine z_iast C (n := 8) dX1_run_122 (rt_1_0 _ (kd_lt ho0 (by decide)) ho0) (by decide) h5 ?_
  refine z_iload C dX1_run_123 0 rfl ?_
  refine z_istore_n C (lv2 := [(3, .int r2.2), (6, .int r2.2), (0, .ref (g.1 o0)), (1, .ref (g.1 o1)), (2, .int x2), (4, .int x4), (5, .int x5)]) dX1_run_125 rfl (by decide) rfl ?_
  refine z_aload_n C dX1_run_126 rfl 2 rfl ?_
  refine gf_X1_9 C dX1_run_127 ho0 ?_
  refine z_iload C dX1_run_130 6 rfl ?_
  obtain ⟨h6, hf⟩ := q_ck hf
  refine z_iald C (n := 8) dX1_run_132 (rt_1_0 _ (kd_lt ho0 (by decide)) ho0) (by decide) h6 ?_
  exact z_if_le C dX1_run_133 (by decide) (fun h => z_sub [2, 3, 4, 0, 5, 6] rfl (b_X1_run_149 C hr hk hK45 (zI r2.1 (rf o0 0) (Int32.toNatClampNeg x5) ((r2.1.1 (rf o0 0) (Int32.toNatClampNeg x5)) - (r2.2 - x3))) o0 o1 x2 r2.2 x4 x5 ho0 ho1 (q_t hf h))) (fun h => z_sub [2, 3, 4, 0, 5] rfl (b_X1_run_136 C hr hk hK45 (zI r2.1 (rf o0 0) (Int32.toNatClampNeg x5) ((r2.1.1 (rf o0 0) (Int32.toNatClampNeg x5)) - (r2.2 - x3))) o0 o1 x2 r2.2 x4 ho0 ho1 (q_f hf h)))
def f_X1_run_80 (K45 : St → Nat → Nat → Int32 → Int32 → Int32 → Option (St)) (z : St) (o0 : Nat) (o1 : Nat) (x2 : Int32) (x3 : Int32) (x4 : Int32) (x5 : Int32) : Option (St) :=
  if x5 < 8 then f_X1_run_91 K45 z o0 o1 x2 x3 x4 x5 else f_X1_run_90 z
theorem b_X1_run_80 {p : Program} {l : Launch} {e : Env} {s : State} {m : MethodId} {args : Array Value} {below : List Frame} {meth : Method} {c : Code} {g : Ga} {A : Nat → Prop} (C : Cx l g A p s m args c cX1_run 7 RX1 (rm_X1_run) (0, 0)) (hr : meth.sig.returnType = none) (hk : meth.locks = false) {K45 : St → Nat → Nat → Int32 → Int32 → Int32 → Option (St)} (hK45 : ∀ (z : St) (o0 : Nat) (o1 : Nat) (x2 : Int32) (x3 : Int32) (x4 : Int32) (_ : kd o0 = 1) (_ : kd o1 = 4) {res : St}, K45 z o0 o1 x2 x3 x4 = some res → Zj p l e (rm_X1_run) s m args below meth c g A 7 (0, 0) (QV g A below args s res) z 45 [(0, .ref (g.1 o0)), (1, .ref (g.1 o1)), (2, .int x2), (3, .int x3), (4, .int x4)] []) (z : St) (o0 : Nat) (o1 : Nat) (x2 : Int32) (x3 : Int32) (x4 : Int32) (x5 : Int32) (ho0 : kd o0 = 1) (ho1 : kd o1 = 4) {res : St} (hf : f_X1_run_80 K45 z o0 o1 x2 x3 x4 x5 = some res) : Zj p l e (rm_X1_run) s m args below meth c g A 7 (0, 0) (QV g A below args s res) z 80 [(0, .ref (g.1 o0)), (1, .ref (g.1 o1)), (2, .int x2), (3, .int x3), (4, .int x4), (5, .int x5)] [] := by
  unfold f_X1_run_80 at hf
  refine z_iload C dX1_run_80 5 rfl ?_
  refine z_aload_n C dX1_run_82 rfl 0 rfl ?_
  refine gf_X1_9 C dX1_run_83 ho0 ?_
  refine z_alenI C (n := 8) (v := 8) dX1_run_86 (rt_1_0 _ (kd_lt ho0 (by decide)) ho0) (by decide) rfl ?_
  exact z_icmp_lt C dX1_run_87 (by decide) (fun h => z_sub [0, 1, 2, 3, 4, 5] rfl (b_X1_run_91 C hr hk hK45 z o0 o1 x2 x3 x4 x5 ho0 ho1 (q_t hf h))) (fun h => z_sub [] rfl (b_X1_run_90 C hr hk z (q_f hf h)))
def f_X1_run_60 (K45 : St → Nat → Nat → Int32 → Int32 → Int32 → Option (St)) (z : St) (o0 : Nat) (o1 : Nat) (x2 : Int32) (x3 : Int32) (x4 : Int32) : Option (St) :=
  ((f_X4_hourOfSome z o1 x2 x3).bind fun r1 => ((f_X4_nextToBegin r1.1 o1 x2 r1.2).bind fun r3 => if r3.2 < 0 then f_X1_run_90 r3.1 else f_X1_run_80 K45 r3.1 o0 o1 x2 r1.2 x4 r3.2))
theorem b_X1_run_60 {p : Program} {l : Launch} {e : Env} {s : State} {m : MethodId} {args : Array Value} {below : List Frame} {meth : Method} {c : Code} {g : Ga} {A : Nat → Prop} (C : Cx l g A p s m args c cX1_run 7 RX1 (rm_X1_run) (0, 0)) (hr : meth.sig.returnType = none) (hk : meth.locks = false) {K45 : St → Nat → Nat → Int32 → Int32 → Int32 → Option (St)} (hK45 : ∀ (z : St) (o0 : Nat) (o1 : Nat) (x2 : Int32) (x3 : Int32) (x4 : Int32) (_ : kd o0 = 1) (_ : kd o1 = 4) {res : St}, K45 z o0 o1 x2 x3 x4 = some res → Zj p l e (rm_X1_run) s m args below meth c g A 7 (0, 0) (QV g A below args s res) z 45 [(0, .ref (g.1 o0)), (1, .ref (g.1 o1)), (2, .int x2), (3, .int x3), (4, .int x4)] []) (z : St) (o0 : Nat) (o1 : Nat) (x2 : Int32) (x3 : Int32) (x4 : Int32) (ho0 : kd o0 = 1) (ho1 : kd o1 = 4) {res : St} (hf : f_X1_run_60 K45 z o0 o1 x2 x3 x4 = some res) : Zj p l e (rm_X1_run) s m args below meth c g A 7 (0, 0) (QV g A below args s res) z 60 [(0, .ref (g.1 o0)), (1, .ref (g.1 o1)), (2, .int x2), (3, .int x3), (4, .int x4)] [] := by
  unfold f_X1_run_60 at hf
  refine z_aload_n C dX1_run_60 rfl 1 rfl ?_
  refine z_iload_n C dX1_run_61 rfl 2 rfl ?_
  refine z_iload_n C dX1_run_62 rfl 3 rfl ?_
  obtain ⟨r1, hc2, hf⟩ := q_bd hf
  refine z_cVi C (st := []) (c_X4_hourOfSome ho1 hc2) mw_X4_hourOfSome ml_X1_32 ho1 (by decide) rfl dX1_run_63 rfl rfl rfl ⟨Nat.le_of_ble_eq_true rfl, Nat.le_of_ble_eq_true rfl⟩ rfl (Nat.le_of_ble_eq_true rfl) ?_
  refine z_istore_n C (lv2 := [(3, .int r1.2), (0, .ref (g.1 o0)), (1, .ref (g.1 o1)), (2, .int x2), (4, .int x4)]) dX1_run_66 rfl (by decide) rfl ?_
  refine z_aload_n C dX1_run_67 rfl 2 rfl ?_
  refine z_iload_n C dX1_run_68 rfl 3 rfl ?_
  refine z_iload_n C dX1_run_69 rfl 0 rfl ?_
  obtain ⟨r3, hc4, hf⟩ := q_bd hf
  refine z_cVi C (st := []) (c_X4_nextToBegin ho1 hc4) mw_X4_nextToBegin ml_X1_36 ho1 (by decide) rfl dX1_run_70 rfl rfl rfl ⟨Nat.le_of_ble_eq_true rfl, Nat.le_of_ble_eq_true rfl⟩ rfl (Nat.le_of_ble_eq_true rfl) ?_
  refine z_istore C (lv2 := [(5, .int r3.2), (3, .int r1.2), (0, .ref (g.1 o0)), (1, .ref (g.1 o1)), (2, .int x2), (4, .int x4)]) dX1_run_73 (by decide) rfl ?_
  refine z_iload C dX1_run_75 0 rfl ?_
  exact z_if_lt C dX1_run_77 (by decide) (fun h => z_sub [] rfl (b_X1_run_90 C hr hk r3.1 (q_t hf h))) (fun h => z_sub [2, 3, 4, 1, 5, 0] rfl (b_X1_run_80 C hr hk hK45 r3.1 o0 o1 x2 r1.2 x4 r3.2 ho0 ho1 (q_f hf h)))
def f_X1_run_181  (z : St)  : Option (St) :=
  some z
theorem b_X1_run_181 {p : Program} {l : Launch} {e : Env} {s : State} {m : MethodId} {args : Array Value} {below : List Frame} {meth : Method} {c : Code} {g : Ga} {A : Nat → Prop} (C : Cx l g A p s m args c cX1_run 7 RX1 (rm_X1_run) (0, 0)) (hr : meth.sig.returnType = none) (hk : meth.locks = false)   (z : St)   {res : St} (hf : f_X1_run_181  z  = some res) : Zj p l e (rm_X1_run) s m args below meth c g A 7 (0, 0) (QV g A below args s res) z 181 [] [] := by
  unfold f_X1_run_181 at hf
  cases hf
  exact z_vret C hr hk dX1_run_181
def f_X1_run_52 (K45 : St → Nat → Nat → Int32 → Int32 → Int32 → Option (St)) (z : St) (o0 : Nat) (o1 : Nat) (x2 : Int32) (x3 : Int32) (x4 : Int32) : Option (St) :=
  ((f_X4_everyone z o1).bind fun r1 => if x2 = r1.2 then f_X1_run_181 r1.1 else f_X1_run_60 K45 r1.1 o0 o1 x2 x3 x4)
theorem b_X1_run_52 {p : Program} {l : Launch} {e : Env} {s : State} {m : MethodId} {args : Array Value} {below : List Frame} {meth : Method} {c : Code} {g : Ga} {A : Nat → Prop} (C : Cx l g A p s m args c cX1_run 7 RX1 (rm_X1_run) (0, 0)) (hr : meth.sig.returnType = none) (hk : meth.locks = false) {K45 : St → Nat → Nat → Int32 → Int32 → Int32 → Option (St)} (hK45 : ∀ (z : St) (o0 : Nat) (o1 : Nat) (x2 : Int32) (x3 : Int32) (x4 : Int32) (_ : kd o0 = 1) (_ : kd o1 = 4) {res : St}, K45 z o0 o1 x2 x3 x4 = some res → Zj p l e (rm_X1_run) s m args below meth c g A 7 (0, 0) (QV g A below args s res) z 45 [(0, .ref (g.1 o0)), (1, .ref (g.1 o1)), (2, .int x2), (3, .int x3), (4, .int x4)] []) (z : St) (o0 : Nat) (o1 : Nat) (x2 : Int32) (x3 : Int32) (x4 : Int32) (ho0 : kd o0 = 1) (ho1 : kd o1 = 4) {res : St} (hf : f_X1_run_52 K45 z o0 o1 x2 x3 x4 = some res) : Zj p l e (rm_X1_run) s m args below meth c g A 7 (0, 0) (QV g A below args s res) z 52 [(0, .ref (g.1 o0)), (1, .ref (g.1 o1)), (2, .int x2), (3, .int x3), (4, .int x4)] [] := by
  unfold f_X1_run_52 at hf
  refine z_iload_n C dX1_run_52 rfl 2 rfl ?_
  refine z_aload_n C dX1_run_53 rfl 1 rfl ?_
  obtain ⟨r1, hc2, hf⟩ := q_bd hf
  refine z_cVi C (st := [.int x2]) (c_X4_everyone ho1 hc2) mw_X4_everyone ml_X1_28 ho1 (by decide) rfl dX1_run_54 rfl rfl rfl ⟨Nat.le_of_ble_eq_true rfl, Nat.le_of_ble_eq_true rfl⟩ rfl (Nat.le_of_ble_eq_true rfl) ?_
  exact z_icmp_eq C dX1_run_57 (by decide) (fun h => z_sub [] rfl (b_X1_run_181 C hr hk r1.1 (q_t hf h))) (fun h => z_sub [0, 1, 2, 3, 4] rfl (b_X1_run_60 C hr hk hK45 r1.1 o0 o1 x2 x3 x4 ho0 ho1 (q_f hf h)))
def f_X1_run_45  : Nat → St → Nat → Nat → Int32 → Int32 → Int32 → Option (St)
  | 0, _, _, _, _, _, _ => none
  | n + 1, z, o0, o1, x2, x3, x4 => if 16 ≤ x4 then f_X1_run_181 z else f_X1_run_52 (f_X1_run_45 n) z o0 o1 x2 x3 x4
theorem b_X1_run_45 {p : Program} {l : Launch} {e : Env} {s : State} {m : MethodId} {args : Array Value} {below : List Frame} {meth : Method} {c : Code} {g : Ga} {A : Nat → Prop} (C : Cx l g A p s m args c cX1_run 7 RX1 (rm_X1_run) (0, 0)) (hr : meth.sig.returnType = none) (hk : meth.locks = false)   : ∀ (n : Nat) (z : St) (o0 : Nat) (o1 : Nat) (x2 : Int32) (x3 : Int32) (x4 : Int32) (_ : kd o0 = 1) (_ : kd o1 = 4) {res : St} (_ : f_X1_run_45  n z o0 o1 x2 x3 x4 = some res), Zj p l e (rm_X1_run) s m args below meth c g A 7 (0, 0) (QV g A below args s res) z 45 [(0, .ref (g.1 o0)), (1, .ref (g.1 o1)), (2, .int x2), (3, .int x3), (4, .int x4)] [] := by
  intro n
  induction n with
  | zero =>
    intro z o0 o1 x2 x3 x4 ho0 ho1 res hf
    cases hf
  | succ n ih =>
    intro z o0 o1 x2 x3 x4 ho0 ho1 res hf
    rw [f_X1_run_45] at hf
    refine z_iload C dX1_run_45 4 rfl ?_
    refine z_bipush C dX1_run_47 (v := 16) (by decide) ?_
    exact z_icmp_ge C dX1_run_49 (by decide) (fun h => z_sub [] rfl (b_X1_run_181 C hr hk z (q_t hf h))) (fun h => z_sub [0, 1, 2, 3, 4] rfl (b_X1_run_52 C hr hk ih z o0 o1 x2 x3 x4 ho0 ho1 (q_f hf h)))
def f_X1_run_38  (z : St) (o0 : Nat) (o1 : Nat) : Option (St) :=
  f_X1_run_45 FU z o0 o1 0 0 0
theorem b_X1_run_38 {p : Program} {l : Launch} {e : Env} {s : State} {m : MethodId} {args : Array Value} {below : List Frame} {meth : Method} {c : Code} {g : Ga} {A : Nat → Prop} (C : Cx l g A p s m args c cX1_run 7 RX1 (rm_X1_run) (0, 0)) (hr : meth.sig.returnType = none) (hk : meth.locks = false)   (z : St) (o0 : Nat) (o1 : Nat) (ho0 : kd o0 = 1) (ho1 : kd o1 = 4) {res : St} (hf : f_X1_run_38  z o0 o1 = some res) : Zj p l e (rm_X1_run) s m args below meth c g A 7 (0, 0) (QV g A below args s res) z 38 [(0, .ref (g.1 o0)), (1, .ref (g.1 o1))] [] := by
  unfold f_X1_run_38 at hf
  refine z_iconst C dX1_run_38 (v := 0) (by decide) ?_
  refine z_istore_n C (lv2 := [(2, .int 0), (0, .ref (g.1 o0)), (1, .ref (g.1 o1))]) dX1_run_39 rfl (by decide) rfl ?_
  refine z_iconst C dX1_run_40 (v := 0) (by decide) ?_
  refine z_istore_n C (lv2 := [(3, .int 0), (2, .int 0), (0, .ref (g.1 o0)), (1, .ref (g.1 o1))]) dX1_run_41 rfl (by decide) rfl ?_
  refine z_iconst C dX1_run_42 (v := 0) (by decide) ?_
  refine z_istore C (lv2 := [(4, .int 0), (3, .int 0), (2, .int 0), (0, .ref (g.1 o0)), (1, .ref (g.1 o1))]) dX1_run_43 (by decide) rfl ?_
  exact z_sub [3, 4, 2, 1, 0] rfl (b_X1_run_45 C hr hk FU z o0 o1 0 0 0 ho0 ho1 hf)
def f_X1_run_12  : Nat → St → Nat → Nat → Int32 → Option (St)
  | 0, _, _, _, _ => none
  | n + 1, z, o0, o1, x2 => if 8 ≤ x2 then f_X1_run_38 z o0 o1 else f_X1_run_21 (f_X1_run_12 n) z o0 o1 x2
theorem b_X1_run_12 {p : Program} {l : Launch} {e : Env} {s : State} {m : MethodId} {args : Array Value} {below : List Frame} {meth : Method} {c : Code} {g : Ga} {A : Nat → Prop} (C : Cx l g A p s m args c cX1_run 7 RX1 (rm_X1_run) (0, 0)) (hr : meth.sig.returnType = none) (hk : meth.locks = false)   : ∀ (n : Nat) (z : St) (o0 : Nat) (o1 : Nat) (x2 : Int32) (_ : kd o0 = 1) (_ : kd o1 = 4) {res : St} (_ : f_X1_run_12  n z o0 o1 x2 = some res), Zj p l e (rm_X1_run) s m args below meth c g A 7 (0, 0) (QV g A below args s res) z 12 [(0, .ref (g.1 o0)), (1, .ref (g.1 o1)), (2, .int x2)] [] := by
  intro n
  induction n with
  | zero =>
    intro z o0 o1 x2 ho0 ho1 res hf
    cases hf
  | succ n ih =>
    intro z o0 o1 x2 ho0 ho1 res hf
    rw [f_X1_run_12] at hf
    refine z_iload_n C dX1_run_12 rfl 2 rfl ?_
    refine z_aload_n C dX1_run_13 rfl 0 rfl ?_
    refine gf_X1_9 C dX1_run_14 ho0 ?_
    refine z_alenI C (n := 8) (v := 8) dX1_run_17 (rt_1_0 _ (kd_lt ho0 (by decide)) ho0) (by decide) rfl ?_
    exact z_icmp_ge C dX1_run_18 (by decide) (fun h => z_sub [0, 1] rfl (b_X1_run_38 C hr hk z o0 o1 ho0 ho1 (q_t hf h))) (fun h => z_sub [0, 1, 2] rfl (b_X1_run_21 C hr hk ih z o0 o1 x2 ho0 ho1 (q_f hf h)))
def f_X1_run_0  (z : St) (o0 : Nat) (o1 : Nat) : Option (St) :=
  f_X1_run_12 FU (zI (zI z o0 1 0) o0 2 0) o0 o1 0
theorem b_X1_run_0 {p : Program} {l : Launch} {e : Env} {s : State} {m : MethodId} {args : Array Value} {below : List Frame} {meth : Method} {c : Code} {g : Ga} {A : Nat → Prop} (C : Cx l g A p s m args c cX1_run 7 RX1 (rm_X1_run) (0, 0)) (hr : meth.sig.returnType = none) (hk : meth.locks = false)   (z : St) (o0 : Nat) (o1 : Nat) (ho0 : kd o0 = 1) (ho1 : kd o1 = 4) {res : St} (hf : f_X1_run_0  z o0 o1 = some res) : Zj p l e (rm_X1_run) s m args below meth c g A 7 (0, 0) (QV g A below args s res) z 0 [(0, .ref (g.1 o0)), (1, .ref (g.1 o1))] [] := by
  unfold f_X1_run_0 at hf
  refine z_aload_n C dX1_run_0 rfl 0 rfl ?_
  refine z_iconst C dX1_run_1 (v := 0) (by decide) ?_
  refine pf_X1_15 C dX1_run_2 ho0 ?_
  refine z_aload_n C dX1_run_5 rfl 0 rfl ?_
  refine z_iconst C dX1_run_6 (v := 0) (by decide) ?_
  refine pf_X1_19 C dX1_run_7 ho0 ?_
  refine z_iconst C dX1_run_10 (v := 0) (by decide) ?_
  refine z_istore_n C (lv2 := [(2, .int 0), (0, .ref (g.1 o0)), (1, .ref (g.1 o1))]) dX1_run_11 rfl (by decide) rfl ?_
  exact z_sub [1, 2, 0] rfl (b_X1_run_12 C hr hk FU (zI (zI z o0 1 0) o0 2 0) o0 o1 0 ho0 ho1 hf)
def f_X1_run (z : St) (o0 : Nat) (o1 : Nat) : Option (St) := f_X1_run_0 z o0 o1
theorem c_X1_run {l : Launch} {g : Ga} {A : Nat → Prop} {z : St} {o0 : Nat} {o1 : Nat} (ho0 : kd o0 = 1) (ho1 : kd o1 = 4) {res : St} (hf : f_X1_run z o0 o1 = some res) : CV l g A yX1_run cX1_run 7 none rm_X1_run [.ref (g.1 o0), .ref (g.1 o1)] z res :=
  e_CV (by decide) (Nat.le_of_ble_eq_true rfl) rfl (fun p e s m args below meth c C hr hk => z_sub [0, 1] rfl (b_X1_run_0 C hr hk z o0 o1 ho0 ho1 hf))
