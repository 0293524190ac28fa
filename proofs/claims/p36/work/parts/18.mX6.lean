abbrev rm_X6_goOn : Room := { frames := 3, cells := 0, slots := 0, locals := 72 }
def f_X6_goOn_18  (z : St)  : Option (St × Int32) :=
  some (z, 0)
theorem b_X6_goOn_18 {p : Program} {l : Launch} {e : Env} {s : State} {m : MethodId} {args : Array Value} {below : List Frame} {meth : Method} {c : Code} {g : Ga} {A : Nat → Prop} (C : Cx l g A p s m args c cX6_goOn 4 RX6 (rm_X6_goOn) (0, 0)) (hr : meth.sig.returnType = (some .boolean)) (hk : meth.locks = false)   (z : St)   {res : St × Int32} (hf : f_X6_goOn_18  z  = some res) : Zj p l e (rm_X6_goOn) s m args below meth c g A 4 (0, 0) (QI g A below args s res) z 18 [] [] := by
  unfold f_X6_goOn_18 at hf
  refine z_iconst C dX6_goOn_18 (v := 0) (by decide) ?_
  cases hf
  exact z_zret C hr hk (by decide) dX6_goOn_19
def f_X6_goOn_95  (z : St) (o0 : Nat) : Option (St × Int32) :=
  some (zI z o0 7 ((z.1 o0 7) - 1), 0)
theorem b_X6_goOn_95 {p : Program} {l : Launch} {e : Env} {s : State} {m : MethodId} {args : Array Value} {below : List Frame} {meth : Method} {c : Code} {g : Ga} {A : Nat → Prop} (C : Cx l g A p s m args c cX6_goOn 4 RX6 (rm_X6_goOn) (0, 0)) (hr : meth.sig.returnType = (some .boolean)) (hk : meth.locks = false)   (z : St) (o0 : Nat) (ho0 : kd o0 = 6) {res : St × Int32} (hf : f_X6_goOn_95  z o0 = some res) : Zj p l e (rm_X6_goOn) s m args below meth c g A 4 (0, 0) (QI g A below args s res) z 95 [(0, .ref (g.1 o0))] [] := by
  unfold f_X6_goOn_95 at hf
  refine z_aload_n C dX6_goOn_95 rfl 0 rfl ?_
  refine z_dup C dX6_goOn_96 rfl ?_
  refine gf_X6_45 C dX6_goOn_97 ho0 ?_
  refine z_iconst C dX6_goOn_100 (v := 1) (by decide) ?_
  refine z_isub C dX6_goOn_101 ?_
  refine pf_X6_45 C dX6_goOn_102 ho0 ?_
  refine z_iconst C dX6_goOn_105 (v := 0) (by decide) ?_
  cases hf
  exact z_zret C hr hk (by decide) dX6_goOn_106
def f_X6_goOn_134  (z : St) (s0 : Int32) : Option (St × Int32) :=
  if zb s0 = true then some (z, s0) else none
theorem b_X6_goOn_134 {p : Program} {l : Launch} {e : Env} {s : State} {m : MethodId} {args : Array Value} {below : List Frame} {meth : Method} {c : Code} {g : Ga} {A : Nat → Prop} (C : Cx l g A p s m args c cX6_goOn 4 RX6 (rm_X6_goOn) (0, 0)) (hr : meth.sig.returnType = (some .boolean)) (hk : meth.locks = false)   (z : St) (s0 : Int32)  {res : St × Int32} (hf : f_X6_goOn_134  z s0 = some res) : Zj p l e (rm_X6_goOn) s m args below meth c g A 4 (0, 0) (QI g A below args s res) z 134 [] [.int s0] := by
  unfold f_X6_goOn_134 at hf
  obtain ⟨h1, hf⟩ := q_ck hf
  cases hf
  exact z_zret C hr hk h1 dX6_goOn_134
def f_X6_goOn_129  (z : St)  : Option (St × Int32) :=
  f_X6_goOn_134 z 1
theorem b_X6_goOn_129 {p : Program} {l : Launch} {e : Env} {s : State} {m : MethodId} {args : Array Value} {below : List Frame} {meth : Method} {c : Code} {g : Ga} {A : Nat → Prop} (C : Cx l g A p s m args c cX6_goOn 4 RX6 (rm_X6_goOn) (0, 0)) (hr : meth.sig.returnType = (some .boolean)) (hk : meth.locks = false)   (z : St)   {res : St × Int32} (hf : f_X6_goOn_129  z  = some res) : Zj p l e (rm_X6_goOn) s m args below meth c g A 4 (0, 0) (QI g A below args s res) z 129 [] [] := by
  unfold f_X6_goOn_129 at hf
  refine z_iconst C dX6_goOn_129 (v := 1) (by decide) ?_
  exact z_goto C dX6_goOn_130 (by decide) (z_sub [] rfl (b_X6_goOn_134 C hr hk z 1 hf))
def f_X6_goOn_133  (z : St)  : Option (St × Int32) :=
  f_X6_goOn_134 z 0
theorem b_X6_goOn_133 {p : Program} {l : Launch} {e : Env} {s : State} {m : MethodId} {args : Array Value} {below : List Frame} {meth : Method} {c : Code} {g : Ga} {A : Nat → Prop} (C : Cx l g A p s m args c cX6_goOn 4 RX6 (rm_X6_goOn) (0, 0)) (hr : meth.sig.returnType = (some .boolean)) (hk : meth.locks = false)   (z : St)   {res : St × Int32} (hf : f_X6_goOn_133  z  = some res) : Zj p l e (rm_X6_goOn) s m args below meth c g A 4 (0, 0) (QI g A below args s res) z 133 [] [] := by
  unfold f_X6_goOn_133 at hf
  refine z_iconst C dX6_goOn_133 (v := 0) (by decide) ?_
  exact z_sub [] rfl (b_X6_goOn_134 C hr hk z 0 hf)
def f_X6_goOn_107  (z : St) (o0 : Nat) (o1 : Nat) : Option (St × Int32) :=
  ((f_X1_run z (rf o0 2) o1).bind fun r1 => if (r1.1 o0 8) ≤ (r1.1 (rf o0 2) 1) then f_X6_goOn_133 r1 else f_X6_goOn_129 r1)
theorem b_X6_goOn_107 {p : Program} {l : Launch} {e : Env} {s : State} {m : MethodId} {args : Array Value} {below : List Frame} {meth : Method} {c : Code} {g : Ga} {A : Nat → Prop} (C : Cx l g A p s m args c cX6_goOn 4 RX6 (rm_X6_goOn) (0, 0)) (hr : meth.sig.returnType = (some .boolean)) (hk : meth.locks = false)   (z : St) (o0 : Nat) (o1 : Nat) (ho0 : kd o0 = 6) (ho1 : kd o1 = 4) {res : St × Int32} (hf : f_X6_goOn_107  z o0 o1 = some res) : Zj p l e (rm_X6_goOn) s m args below meth c g A 4 (0, 0) (QI g A below args s res) z 107 [(0, .ref (g.1 o0)), (1, .ref (g.1 o1))] [] := by
  unfold f_X6_goOn_107 at hf
  refine z_aload_n C dX6_goOn_107 rfl 0 rfl ?_
  refine gf_X6_28 C dX6_goOn_108 ho0 ?_
  refine z_aload_n C dX6_goOn_111 rfl 1 rfl ?_
  obtain ⟨r1, hc2, hf⟩ := q_bd hf
  refine z_cVv C (st := []) (c_X1_run (rt_6_2 _ (kd_lt ho0 (by decide)) ho0) ho1 hc2) mw_X1_run ml_X6_95 (rt_6_2 _ (kd_lt ho0 (by decide)) ho0) (by decide) rfl dX6_goOn_112 rfl rfl rfl ⟨Nat.le_of_ble_eq_true rfl, Nat.le_of_ble_eq_true rfl⟩ rfl (Nat.le_of_ble_eq_true rfl) ?_
  refine z_aload_n C dX6_goOn_115 rfl 0 rfl ?_
  refine gf_X6_28 C dX6_goOn_116 ho0 ?_
  refine gf_X6_98 C dX6_goOn_119 (rt_6_2 _ (kd_lt ho0 (by decide)) ho0) ?_
  refine z_aload_n C dX6_goOn_122 rfl 0 rfl ?_
  refine gf_X6_49 C dX6_goOn_123 ho0 ?_
  exact z_icmp_ge C dX6_goOn_126 (by decide) (fun h => z_sub [] rfl (b_X6_goOn_133 C hr hk r1 (q_t hf h))) (fun h => z_sub [] rfl (b_X6_goOn_129 C hr hk r1 (q_f hf h)))
def f_X6_goOn_90  (z : St) (o0 : Nat) (o1 : Nat) (x3 : Int32) : Option (St × Int32) :=
  if x3 ≤ 1 then f_X6_goOn_107 z o0 o1 else f_X6_goOn_95 z o0
theorem b_X6_goOn_90 {p : Program} {l : Launch} {e : Env} {s : State} {m : MethodId} {args : Array Value} {below : List Frame} {meth : Method} {c : Code} {g : Ga} {A : Nat → Prop} (C : Cx l g A p s m args c cX6_goOn 4 RX6 (rm_X6_goOn) (0, 0)) (hr : meth.sig.returnType = (some .boolean)) (hk : meth.locks = false)   (z : St) (o0 : Nat) (o1 : Nat) (x3 : Int32) (ho0 : kd o0 = 6) (ho1 : kd o1 = 4) {res : St × Int32} (hf : f_X6_goOn_90  z o0 o1 x3 = some res) : Zj p l e (rm_X6_goOn) s m args below meth c g A 4 (0, 0) (QI g A below args s res) z 90 [(0, .ref (g.1 o0)), (1, .ref (g.1 o1)), (3, .int x3)] [] := by
  unfold f_X6_goOn_90 at hf
  refine z_iload_n C dX6_goOn_90 rfl 2 rfl ?_
  refine z_iconst C dX6_goOn_91 (v := 1) (by decide) ?_
  exact z_icmp_le C dX6_goOn_92 (by decide) (fun h => z_sub [0, 1] rfl (b_X6_goOn_107 C hr hk z o0 o1 ho0 ho1 (q_t hf h))) (fun h => z_sub [0] rfl (b_X6_goOn_95 C hr hk z o0 ho0 (q_f hf h)))
def f_X6_goOn_68  (z : St) (o0 : Nat) (o1 : Nat) (x2 : Int32) (x3 : Int32) : Option (St × Int32) :=
  if inb x2 1650 = true then (if inb x2 1650 = true then (((f_X4_changeComes z o1 (z.1 (rf o0 3) (Int32.toNatClampNeg x2)) (z.1 (rf o0 6) (Int32.toNatClampNeg x2))).bind fun r3 => if inb x2 1650 = true then (f_X6_goOn_90 (zI r3.1 (rf o0 6) (Int32.toNatClampNeg x2) r3.2) o0 o1 x3) else none)) else none) else none
theorem b_X6_goOn_68 {p : Program} {l : Launch} {e : Env} {s : State} {m : MethodId} {args : Array Value} {below : List Frame} {meth : Method} {c : Code} {g : Ga} {A : Nat → Prop} (C : Cx l g A p s m args c cX6_goOn 4 RX6 (rm_X6_goOn) (0, 0)) (hr : meth.sig.returnType = (some .boolean)) (hk : meth.locks = false)   (z : St) (o0 : Nat) (o1 : Nat) (x2 : Int32) (x3 : Int32) (ho0 : kd o0 = 6) (ho1 : kd o1 = 4) {res : St × Int32} (hf : f_X6_goOn_68  z o0 o1 x2 x3 = some res) : Zj p l e (rm_X6_goOn) s m args below meth c g A 4 (0, 0) (QI g A below args s res) z 68 [(0, .ref (g.1 o0)), (1, .ref (g.1 o1)), (2, .int x2), (3, .int x3)] [] := by
  unfold f_X6_goOn_68 at hf
  refine z_aload_n C dX6_goOn_68 rfl 0 rfl ?_
  refine gf_X6_42 C dX6_goOn_69 ho0 ?_
  refine z_iload_n C dX6_goOn_72 rfl 2 rfl ?_
  refine z_aload_n C dX6_goOn_73 rfl 1 rfl ?_
  refine z_aload_n C dX6_goOn_74 rfl 0 rfl ?_
  refine gf_X6_32 C dX6_goOn_75 ho0 ?_
  refine z_iload_n C dX6_goOn_78 rfl 2 rfl ?_
  obtain ⟨h1, hf⟩ := q_ck hf
  refine z_iald C (n := 1650) dX6_goOn_79 (rt_6_3 _ (kd_lt ho0 (by decide)) ho0) (by decide) h1 ?_
  refine z_aload_n C dX6_goOn_80 rfl 0 rfl ?_
  refine gf_X6_42 C dX6_goOn_81 ho0 ?_
  refine z_iload_n C dX6_goOn_84 rfl 2 rfl ?_
  obtain ⟨h2, hf⟩ := q_ck hf
  refine z_iald C (n := 1650) dX6_goOn_85 (rt_6_6 _ (kd_lt ho0 (by decide)) ho0) (by decide) h2 ?_
  obtain ⟨r3, hc4, hf⟩ := q_bd hf
  refine z_cVi C (st := [.int x2, .ref (g.1 (rf o0 6))]) (c_X4_changeComes ho1 hc4) mw_X4_changeComes ml_X6_92 ho1 (by decide) rfl dX6_goOn_86 rfl rfl rfl ⟨Nat.le_of_ble_eq_true rfl, Nat.le_of_ble_eq_true rfl⟩ rfl (Nat.le_of_ble_eq_true rfl) ?_
  obtain ⟨h5, hf⟩ := q_ck hf
  refine z_iast C (n := 1650) dX6_goOn_89 (rt_6_6 _ (kd_lt ho0 (by decide)) ho0) (by decide) h5 ?_
  exact z_sub [0, 1, 3] rfl (b_X6_goOn_90 C hr hk (zI r3.1 (rf o0 6) (Int32.toNatClampNeg x2) r3.2) o0 o1 x3 ho0 ho1 hf)
def f_X6_goOn_64  (z : St) (o0 : Nat) (o1 : Nat) (x2 : Int32) (x3 : Int32) : Option (St × Int32) :=
  if x3 ≤ 0 then f_X6_goOn_90 z o0 o1 x3 else f_X6_goOn_68 z o0 o1 x2 x3
theorem b_X6_goOn_64 {p : Program} {l : Launch} {e : Env} {s : State} {m : MethodId} {args : Array Value} {below : List Frame} {meth : Method} {c : Code} {g : Ga} {A : Nat → Prop} (C : Cx l g A p s m args c cX6_goOn 4 RX6 (rm_X6_goOn) (0, 0)) (hr : meth.sig.returnType = (some .boolean)) (hk : meth.locks = false)   (z : St) (o0 : Nat) (o1 : Nat) (x2 : Int32) (x3 : Int32) (ho0 : kd o0 = 6) (ho1 : kd o1 = 4) {res : St × Int32} (hf : f_X6_goOn_64  z o0 o1 x2 x3 = some res) : Zj p l e (rm_X6_goOn) s m args below meth c g A 4 (0, 0) (QI g A below args s res) z 64 [(0, .ref (g.1 o0)), (1, .ref (g.1 o1)), (2, .int x2), (3, .int x3)] [] := by
  unfold f_X6_goOn_64 at hf
  refine z_iload_n C dX6_goOn_64 rfl 3 rfl ?_
  exact z_if_le C dX6_goOn_65 (by decide) (fun h => z_sub [0, 1, 3] rfl (b_X6_goOn_90 C hr hk z o0 o1 x3 ho0 ho1 (q_t hf h))) (fun h => z_sub [0, 1, 2, 3] rfl (b_X6_goOn_68 C hr hk z o0 o1 x2 x3 ho0 ho1 (q_f hf h)))
def f_X6_goOn_42  (z : St) (o0 : Nat) (o1 : Nat) (x2 : Int32) (x3 : Int32) : Option (St × Int32) :=
  if inb x2 1650 = true then (if inb x2 1650 = true then (((f_X4_changeCools z o1 (z.1 (rf o0 3) (Int32.toNatClampNeg x2)) (z.1 (rf o0 5) (Int32.toNatClampNeg x2))).bind fun r3 => if inb x2 1650 = true then (f_X6_goOn_64 (zI r3.1 (rf o0 5) (Int32.toNatClampNeg x2) r3.2) o0 o1 x2 x3) else none)) else none) else none
theorem b_X6_goOn_42 {p : Program} {l : Launch} {e : Env} {s : State} {m : MethodId} {args : Array Value} {below : List Frame} {meth : Method} {c : Code} {g : Ga} {A : Nat → Prop} (C : Cx l g A p s m args c cX6_goOn 4 RX6 (rm_X6_goOn) (0, 0)) (hr : meth.sig.returnType = (some .boolean)) (hk : meth.locks = false)   (z : St) (o0 : Nat) (o1 : Nat) (x2 : Int32) (x3 : Int32) (ho0 : kd o0 = 6) (ho1 : kd o1 = 4) {res : St × Int32} (hf : f_X6_goOn_42  z o0 o1 x2 x3 = some res) : Zj p l e (rm_X6_goOn) s m args below meth c g A 4 (0, 0) (QI g A below args s res) z 42 [(0, .ref (g.1 o0)), (1, .ref (g.1 o1)), (2, .int x2), (3, .int x3)] [] := by
  unfold f_X6_goOn_42 at hf
  refine z_aload_n C dX6_goOn_42 rfl 0 rfl ?_
  refine gf_X6_39 C dX6_goOn_43 ho0 ?_
  refine z_iload_n C dX6_goOn_46 rfl 2 rfl ?_
  refine z_aload_n C dX6_goOn_47 rfl 1 rfl ?_
  refine z_aload_n C dX6_goOn_48 rfl 0 rfl ?_
  refine gf_X6_32 C dX6_goOn_49 ho0 ?_
  refine z_iload_n C dX6_goOn_52 rfl 2 rfl ?_
  obtain ⟨h1, hf⟩ := q_ck hf
  refine z_iald C (n := 1650) dX6_goOn_53 (rt_6_3 _ (kd_lt ho0 (by decide)) ho0) (by decide) h1 ?_
  refine z_aload_n C dX6_goOn_54 rfl 0 rfl ?_
  refine gf_X6_39 C dX6_goOn_55 ho0 ?_
  refine z_iload_n C dX6_goOn_58 rfl 2 rfl ?_
  obtain ⟨h2, hf⟩ := q_ck hf
  refine z_iald C (n := 1650) dX6_goOn_59 (rt_6_5 _ (kd_lt ho0 (by decide)) ho0) (by decide) h2 ?_
  obtain ⟨r3, hc4, hf⟩ := q_bd hf
  refine z_cVi C (st := [.int x2, .ref (g.1 (rf o0 5))]) (c_X4_changeCools ho1 hc4) mw_X4_changeCools ml_X6_86 ho1 (by decide) rfl dX6_goOn_60 rfl rfl rfl ⟨Nat.le_of_ble_eq_true rfl, Nat.le_of_ble_eq_true rfl⟩ rfl (Nat.le_of_ble_eq_true rfl) ?_
  obtain ⟨h5, hf⟩ := q_ck hf
  refine z_iast C (n := 1650) dX6_goOn_63 (rt_6_5 _ (kd_lt ho0 (by decide)) ho0) (by decide) h5 ?_
  exact z_sub [0, 1, 2, 3] rfl (b_X6_goOn_64 C hr hk (zI r3.1 (rf o0 5) (Int32.toNatClampNeg x2) r3.2) o0 o1 x2 x3 ho0 ho1 hf)
def f_X6_goOn_20  (z : St) (o0 : Nat) (o1 : Nat) (x2 : Int32) : Option (St × Int32) :=
  if inb x2 1650 = true then (if inb x2 1650 = true then (if inb x2 1650 = true then (if 2 ≤ (z.1 (rf o0 4) (Int32.toNatClampNeg x2)) then f_X6_goOn_64 (zI z (rf o0 4) (Int32.toNatClampNeg x2) ((z.1 (rf o0 4) (Int32.toNatClampNeg x2)) + 1)) o0 o1 x2 (z.1 (rf o0 4) (Int32.toNatClampNeg x2)) else f_X6_goOn_42 (zI z (rf o0 4) (Int32.toNatClampNeg x2) ((z.1 (rf o0 4) (Int32.toNatClampNeg x2)) + 1)) o0 o1 x2 (z.1 (rf o0 4) (Int32.toNatClampNeg x2))) else none) else none) else none
theorem b_X6_goOn_20 {p : Program} {l : Launch} {e : Env} {s : State} {m : MethodId} {args : Array Value} {below : List Frame} {meth : Method} {c : Code} {g : Ga} {A : Nat → Prop} (C : Cx l g A p s m args c cX6_goOn 4 RX6 (rm_X6_goOn) (0, 0)) (hr : meth.sig.returnType = (some .boolean)) (hk : meth.locks = false)   (z : St) (o0 : Nat) (o1 : Nat) (x2 : Int32) (ho0 : kd o0 = 6) (ho1 : kd o1 = 4) {res : St × Int32} (hf : f_X6_goOn_20  z o0 o1 x2 = some res) : Zj p l e (rm_X6_goOn) s m args below meth c g A 4 (0, 0) (QI g A below args s res) z 20 [(0, .ref (g.1 o0)), (1, .ref (g.1 o1)), (2, .int x2)] [] := by
  unfold f_X6_goOn_20 at hf
  refine z_aload_n C dX6_goOn_20 rfl 0 rfl ?_
  refine gf_X6_36 C dX6_goOn_21 ho0 ?_
  refine z_iload_n C dX6_goOn_24 rfl 2 rfl ?_
  obtain ⟨h1, hf⟩ := q_ck hf
  refine z_iald C (n := 1650) dX6_goOn_25 (rt_6_4 _ (kd_lt ho0 (by decide)) ho0) (by decide) h1 ?_
  refine z_istore_n C (lv2 := [(3, .int (z.1 (rf o0 4) (Int32.toNatClampNeg x2))), (0, .ref (g.1 o0)), (1, .ref (g.1 o1)), (2, .int x2)]) dX6_goOn_26 rfl (by decide) rfl ?_
  refine z_aload_n C dX6_goOn_27 rfl 1 rfl ?_
  refine gf_X6_36 C dX6_goOn_28 ho0 ?_
  refine z_iload_n C dX6_goOn_31 rfl 3 rfl ?_
  refine z_dup2 C dX6_goOn_32 rfl rfl ?_
  obtain ⟨h2, hf⟩ := q_ck hf
  refine z_iald C (n := 1650) dX6_goOn_33 (rt_6_4 _ (kd_lt ho0 (by decide)) ho0) (by decide) h2 ?_
  refine z_iconst C dX6_goOn_34 (v := 1) (by decide) ?_
  refine z_iadd C dX6_goOn_35 ?_
  obtain ⟨h3, hf⟩ := q_ck hf
  refine z_iast C (n := 1650) dX6_goOn_36 (rt_6_4 _ (kd_lt ho0 (by decide)) ho0) (by decide) h3 ?_
  refine z_iload_n C dX6_goOn_37 rfl 0 rfl ?_
  refine z_iconst C dX6_goOn_38 (v := 2) (by decide) ?_
  exact z_icmp_ge C dX6_goOn_39 (by decide) (fun h => z_sub [1, 2, 3, 0] rfl (b_X6_goOn_64 C hr hk (zI z (rf o0 4) (Int32.toNatClampNeg x2) ((z.1 (rf o0 4) (Int32.toNatClampNeg x2)) + 1)) o0 o1 x2 (z.1 (rf o0 4) (Int32.toNatClampNeg x2)) ho0 ho1 (q_t hf h))) (fun h => z_sub [1, 2, 3, 0] rfl (b_X6_goOn_42 C hr hk (zI z (rf o0 4) (Int32.toNatClampNeg x2) ((z.1 (rf o0 4) (Int32.toNatClampNeg x2)) + 1)) o0 o1 x2 (z.1 (rf o0 4) (Int32.toNatClampNeg x2)) ho0 ho1 (q_f hf h)))
def f_X6_goOn_11  (z : St) (o0 : Nat) (o1 : Nat) (x2 : Int32) : Option (St × Int32) :=
  if x2 < 1650 then f_X6_goOn_20 z o0 o1 x2 else f_X6_goOn_18 z
theorem b_X6_goOn_11 {p : Program} {l : Launch} {e : Env} {s : State} {m : MethodId} {args : Array Value} {below : List Frame} {meth : Method} {c : Code} {g : Ga} {A : Nat → Prop} (C : Cx l g A p s m args c cX6_goOn 4 RX6 (rm_X6_goOn) (0, 0)) (hr : meth.sig.returnType = (some .boolean)) (hk : meth.locks = false)   (z : St) (o0 : Nat) (o1 : Nat) (x2 : Int32) (ho0 : kd o0 = 6) (ho1 : kd o1 = 4) {res : St × Int32} (hf : f_X6_goOn_11  z o0 o1 x2 = some res) : Zj p l e (rm_X6_goOn) s m args below meth c g A 4 (0, 0) (QI g A below args s res) z 11 [(0, .ref (g.1 o0)), (1, .ref (g.1 o1)), (2, .int x2)] [] := by
  unfold f_X6_goOn_11 at hf
  refine z_iload_n C dX6_goOn_11 rfl 2 rfl ?_
  refine z_sipush C dX6_goOn_12 (v := 1650) (by decide) ?_
  exact z_icmp_lt C dX6_goOn_15 (by decide) (fun h => z_sub [0, 1, 2] rfl (b_X6_goOn_20 C hr hk z o0 o1 x2 ho0 ho1 (q_t hf h))) (fun h => z_sub [] rfl (b_X6_goOn_18 C hr hk z (q_f hf h)))
def f_X6_goOn_0  (z : St) (o0 : Nat) (o1 : Nat) : Option (St × Int32) :=
  if ((z.1 o0 7) - 1) < 0 then f_X6_goOn_18 z else f_X6_goOn_11 z o0 o1 ((z.1 o0 7) - 1)
theorem b_X6_goOn_0 {p : Program} {l : Launch} {e : Env} {s : State} {m : MethodId} {args : Array Value} {below : List Frame} {meth : Method} {c : Code} {g : Ga} {A : Nat → Prop} (C : Cx l g A p s m args c cX6_goOn 4 RX6 (rm_X6_goOn) (0, 0)) (hr : meth.sig.returnType = (some .boolean)) (hk : meth.locks = false)   (z : St) (o0 : Nat) (o1 : Nat) (ho0 : kd o0 = 6) (ho1 : kd o1 = 4) {res : St × Int32} (hf : f_X6_goOn_0  z o0 o1 = some res) : Zj p l e (rm_X6_goOn) s m args below meth c g A 4 (0, 0) (QI g A below args s res) z 0 [(0, .ref (g.1 o0)), (1, .ref (g.1 o1))] [] := by
  unfold f_X6_goOn_0 at hf
  refine z_aload_n C dX6_goOn_0 rfl 0 rfl ?_
  refine gf_X6_45 C dX6_goOn_1 ho0 ?_
  refine z_iconst C dX6_goOn_4 (v := 1) (by decide) ?_
  refine z_isub C dX6_goOn_5 ?_
  refine z_istore_n C (lv2 := [(2, .int ((z.1 o0 7) - 1)), (0, .ref (g.1 o0)), (1, .ref (g.1 o1))]) dX6_goOn_6 rfl (by decide) rfl ?_
  refine z_iload_n C dX6_goOn_7 rfl 0 rfl ?_
  exact z_if_lt C dX6_goOn_8 (by decide) (fun h => z_sub [] rfl (b_X6_goOn_18 C hr hk z (q_t hf h))) (fun h => z_sub [1, 2, 0] rfl (b_X6_goOn_11 C hr hk z o0 o1 ((z.1 o0 7) - 1) ho0 ho1 (q_f hf h)))
def f_X6_goOn (z : St) (o0 : Nat) (o1 : Nat) : Option (St × Int32) := f_X6_goOn_0 z o0 o1
theorem c_X6_goOn {l : Launch} {g : Ga} {A : Nat → Prop} {z : St} {o0 : Nat} {o1 : Nat} (ho0 : kd o0 = 6) (ho1 : kd o1 = 4) {res : St × Int32} (hf : f_X6_goOn z o0 o1 = some res) : CI l g A yX6_goOn cX6_goOn 4 (some .boolean) rm_X6_goOn [.ref (g.1 o0), .ref (g.1 o1)] z res :=
  e_CI (by decide) (Nat.le_of_ble_eq_true rfl) rfl (fun p e s m args below meth c C hr hk => z_sub [0, 1] rfl (b_X6_goOn_0 C hr hk z o0 o1 ho0 ho1 hf))
abbrev rm_X6_visitNode : Room := { frames := 3, cells := 0, slots := 0, locals := 73 }
def f_X6_visitNode_167  (z : St)  : Option (St) :=
  some z
theorem b_X6_visitNode_167 {p : Program} {l : Launch} {e : Env} {s : State} {m : MethodId} {args : Array Value} {below : List Frame} {meth : Method} {c : Code} {g : Ga} {A : Nat → Prop} (C : Cx l g A p s m args c cX6_visitNode 2 RX6 (rm_X6_visitNode) (0, 0)) (hr : meth.sig.returnType = none) (hk : meth.locks = false)   (z : St)   {res : St} (hf : f_X6_visitNode_167  z  = some res) : Zj p l e (rm_X6_visitNode) s m args below meth c g A 2 (0, 0) (QV g A below args s res) z 167 [] [] := by
  unfold f_X6_visitNode_167 at hf
  cases hf
  exact z_vret C hr hk dX6_visitNode_167
def f_X6_visitNode_99  (z : St) (o0 : Nat) : Option (St) :=
  if inb (z.1 o0 7) 1650 = true then (if inb ((zI z (rf o0 3) (Int32.toNatClampNeg (z.1 o0 7)) (z.1 (rf o0 1) 2)).1 o0 7) 1650 = true then (if inb ((zI (zI z (rf o0 3) (Int32.toNatClampNeg (z.1 o0 7)) (z.1 (rf o0 1) 2)) (rf o0 4) (Int32.toNatClampNeg ((zI z (rf o0 3) (Int32.toNatClampNeg (z.1 o0 7)) (z.1 (rf o0 1) 2)).1 o0 7)) 0).1 o0 7) 1650 = true then (if inb ((zI (zI (zI z (rf o0 3) (Int32.toNatClampNeg (z.1 o0 7)) (z.1 (rf o0 1) 2)) (rf o0 4) (Int32.toNatClampNeg ((zI z (rf o0 3) (Int32.toNatClampNeg (z.1 o0 7)) (z.1 (rf o0 1) 2)).1 o0 7)) 0) (rf o0 5) (Int32.toNatClampNeg ((zI (zI z (rf o0 3) (Int32.toNatClampNeg (z.1 o0 7)) (z.1 (rf o0 1) 2)) (rf o0 4) (Int32.toNatClampNeg ((zI z (rf o0 3) (Int32.toNatClampNeg (z.1 o0 7)) (z.1 (rf o0 1) 2)).1 o0 7)) 0).1 o0 7)) ((zI (zI z (rf o0 3) (Int32.toNatClampNeg (z.1 o0 7)) (z.1 (rf o0 1) 2)) (rf o0 4) (Int32.toNatClampNeg ((zI z (rf o0 3) (Int32.toNatClampNeg (z.1 o0 7)) (z.1 (rf o0 1) 2)).1 o0 7)) 0).1 (rf o0 1) 5)).1 o0 7) 1650 = true then (f_X6_visitNode_167 (zI (zI (zI (zI (zI z (rf o0 3) (Int32.toNatClampNeg (z.1 o0 7)) (z.1 (rf o0 1) 2)) (rf o0 4) (Int32.toNatClampNeg ((zI z (rf o0 3) (Int32.toNatClampNeg (z.1 o0 7)) (z.1 (rf o0 1) 2)).1 o0 7)) 0) (rf o0 5) (Int32.toNatClampNeg ((zI (zI z (rf o0 3) (Int32.toNatClampNeg (z.1 o0 7)) (z.1 (rf o0 1) 2)) (rf o0 4) (Int32.toNatClampNeg ((zI z (rf o0 3) (Int32.toNatClampNeg (z.1 o0 7)) (z.1 (rf o0 1) 2)).1 o0 7)) 0).1 o0 7)) ((zI (zI z (rf o0 3) (Int32.toNatClampNeg (z.1 o0 7)) (z.1 (rf o0 1) 2)) (rf o0 4) (Int32.toNatClampNeg ((zI z (rf o0 3) (Int32.toNatClampNeg (z.1 o0 7)) (z.1 (rf o0 1) 2)).1 o0 7)) 0).1 (rf o0 1) 5)) (rf o0 6) (Int32.toNatClampNeg ((zI (zI (zI z (rf o0 3) (Int32.toNatClampNeg (z.1 o0 7)) (z.1 (rf o0 1) 2)) (rf o0 4) (Int32.toNatClampNeg ((zI z (rf o0 3) (Int32.toNatClampNeg (z.1 o0 7)) (z.1 (rf o0 1) 2)).1 o0 7)) 0) (rf o0 5) (Int32.toNatClampNeg ((zI (zI z (rf o0 3) (Int32.toNatClampNeg (z.1 o0 7)) (z.1 (rf o0 1) 2)) (rf o0 4) (Int32.toNatClampNeg ((zI z (rf o0 3) (Int32.toNatClampNeg (z.1 o0 7)) (z.1 (rf o0 1) 2)).1 o0 7)) 0).1 o0 7)) ((zI (zI z (rf o0 3) (Int32.toNatClampNeg (z.1 o0 7)) (z.1 (rf o0 1) 2)) (rf o0 4) (Int32.toNatClampNeg ((zI z (rf o0 3) (Int32.toNatClampNeg (z.1 o0 7)) (z.1 (rf o0 1) 2)).1 o0 7)) 0).1 (rf o0 1) 5)).1 o0 7)) ((zI (zI (zI z (rf o0 3) (Int32.toNatClampNeg (z.1 o0 7)) (z.1 (rf o0 1) 2)) (rf o0 4) (Int32.toNatClampNeg ((zI z (rf o0 3) (Int32.toNatClampNeg (z.1 o0 7)) (z.1 (rf o0 1) 2)).1 o0 7)) 0) (rf o0 5) (Int32.toNatClampNeg ((zI (zI z (rf o0 3) (Int32.toNatClampNeg (z.1 o0 7)) (z.1 (rf o0 1) 2)) (rf o0 4) (Int32.toNatClampNeg ((zI z (rf o0 3) (Int32.toNatClampNeg (z.1 o0 7)) (z.1 (rf o0 1) 2)).1 o0 7)) 0).1 o0 7)) ((zI (zI z (rf o0 3) (Int32.toNatClampNeg (z.1 o0 7)) (z.1 (rf o0 1) 2)) (rf o0 4) (Int32.toNatClampNeg ((zI z (rf o0 3) (Int32.toNatClampNeg (z.1 o0 7)) (z.1 (rf o0 1) 2)).1 o0 7)) 0).1 (rf o0 1) 5)).1 (rf o0 1) 6)) o0 7 (((zI (zI (zI (zI z (rf o0 3) (Int32.toNatClampNeg (z.1 o0 7)) (z.1 (rf o0 1) 2)) (rf o0 4) (Int32.toNatClampNeg ((zI z (rf o0 3) (Int32.toNatClampNeg (z.1 o0 7)) (z.1 (rf o0 1) 2)).1 o0 7)) 0) (rf o0 5) (Int32.toNatClampNeg ((zI (zI z (rf o0 3) (Int32.toNatClampNeg (z.1 o0 7)) (z.1 (rf o0 1) 2)) (rf o0 4) (Int32.toNatClampNeg ((zI z (rf o0 3) (Int32.toNatClampNeg (z.1 o0 7)) (z.1 (rf o0 1) 2)).1 o0 7)) 0).1 o0 7)) ((zI (zI z (rf o0 3) (Int32.toNatClampNeg (z.1 o0 7)) (z.1 (rf o0 1) 2)) (rf o0 4) (Int32.toNatClampNeg ((zI z (rf o0 3) (Int32.toNatClampNeg (z.1 o0 7)) (z.1 (rf o0 1) 2)).1 o0 7)) 0).1 (rf o0 1) 5)) (rf o0 6) (Int32.toNatClampNeg ((zI (zI (zI z (rf o0 3) (Int32.toNatClampNeg (z.1 o0 7)) (z.1 (rf o0 1) 2)) (rf o0 4) (Int32.toNatClampNeg ((zI z (rf o0 3) (Int32.toNatClampNeg (z.1 o0 7)) (z.1 (rf o0 1) 2)).1 o0 7)) 0) (rf o0 5) (Int32.toNatClampNeg ((zI (zI z (rf o0 3) (Int32.toNatClampNeg (z.1 o0 7)) (z.1 (rf o0 1) 2)) (rf o0 4) (Int32.toNatClampNeg ((zI z (rf o0 3) (Int32.toNatClampNeg (z.1 o0 7)) (z.1 (rf o0 1) 2)).1 o0 7)) 0).1 o0 7)) ((zI (zI z (rf o0 3) (Int32.toNatClampNeg (z.1 o0 7)) (z.1 (rf o0 1) 2)) (rf o0 4) (Int32.toNatClampNeg ((zI z (rf o0 3) (Int32.toNatClampNeg (z.1 o0 7)) (z.1 (rf o0 1) 2)).1 o0 7)) 0).1 (rf o0 1) 5)).1 o0 7)) ((zI (zI (zI z (rf o0 3) (Int32.toNatClampNeg (z.1 o0 7)) (z.1 (rf o0 1) 2)) (rf o0 4) (Int32.toNatClampNeg ((zI z (rf o0 3) (Int32.toNatClampNeg (z.1 o0 7)) (z.1 (rf o0 1) 2)).1 o0 7)) 0) (rf o0 5) (Int32.toNatClampNeg ((zI (zI z (rf o0 3) (Int32.toNatClampNeg (z.1 o0 7)) (z.1 (rf o0 1) 2)) (rf o0 4) (Int32.toNatClampNeg ((zI z (rf o0 3) (Int32.toNatClampNeg (z.1 o0 7)) (z.1 (rf o0 1) 2)).1 o0 7)) 0).1 o0 7)) ((zI (zI z (rf o0 3) (Int32.toNatClampNeg (z.1 o0 7)) (z.1 (rf o0 1) 2)) (rf o0 4) (Int32.toNatClampNeg ((zI z (rf o0 3) (Int32.toNatClampNeg (z.1 o0 7)) (z.1 (rf o0 1) 2)).1 o0 7)) 0).1 (rf o0 1) 5)).1 (rf o0 1) 6)).1 o0 7) + 1))) else none) else none) else none) else none
theorem b_X6_visitNode_99 {p : Program} {l : Launch} {e : Env} {s : State} {m : MethodId} {args : Array Value} {below : List Frame} {meth : Method} {c : Code} {g : Ga} {A : Nat → Prop} (C : Cx l g A p s m args c cX6_visitNode 2 RX6 (rm_X6_visitNode) (0, 0)) (hr : meth.sig.returnType = none) (hk : meth.locks = false)   (z : St) (o0 : Nat) (ho0 : kd o0 = 6) {res : St} (hf : f_X6_visitNode_99  z o0 = some res) : Zj p l e (rm_X6_visitNode) s m args below meth c g A 2 (0, 0) (QV g A below args s res) z 99 [(0, .ref (g.1 o0))] [] := by
  unfold f_X6_visitNode_99 at hf
  refine z_aload_n C dX6_visitNode_99 rfl 0 rfl ?_
  refine gf_X6_32 C dX6_visitNode_100 ho0 ?_
  refine z_aload_n C dX6_visitNode_103 rfl 0 rfl ?_
  refine gf_X6_45 C dX6_visitNode_104 ho0 ?_
  refine z_aload_n C dX6_visitNode_107 rfl 0 rfl ?_
  refine gf_X6_21 C dX6_visitNode_108 ho0 ?_
  refine gf_X6_77 C dX6_visitNode_111 (rt_6_1 _ (kd_lt ho0 (by decide)) ho0) ?_
  obtain ⟨h1, hf⟩ := q_ck hf
  refine z_iast C (n := 1650) dX6_visitNode_114 (rt_6_3 _ (kd_lt ho0 (by decide)) ho0) (by decide) h1 ?_
  refine z_aload_n C dX6_visitNode_115 rfl 0 rfl ?_
  refine gf_X6_36 C dX6_visitNode_116 ho0 ?_
  refine z_aload_n C dX6_visitNode_119 rfl 0 rfl ?_
  refine gf_X6_45 C dX6_visitNode_120 ho0 ?_
  refine z_iconst C dX6_visitNode_123 (v := 0) (by decide) ?_
  obtain ⟨h2, hf⟩ := q_ck hf
  refine z_iast C (n := 1650) dX6_visitNode_124 (rt_6_4 _ (kd_lt ho0 (by decide)) ho0) (by decide) h2 ?_
  refine z_aload_n C dX6_visitNode_125 rfl 0 rfl ?_
  refine gf_X6_39 C dX6_visitNode_126 ho0 ?_
  refine z_aload_n C dX6_visitNode_129 rfl 0 rfl ?_
  refine gf_X6_45 C dX6_visitNode_130 ho0 ?_
  refine z_aload_n C dX6_visitNode_133 rfl 0 rfl ?_
  refine gf_X6_21 C dX6_visitNode_134 ho0 ?_
  refine gf_X6_80 C dX6_visitNode_137 (rt_6_1 _ (kd_lt ho0 (by decide)) ho0) ?_
  obtain ⟨h3, hf⟩ := q_ck hf
  refine z_iast C (n := 1650) dX6_visitNode_140 (rt_6_5 _ (kd_lt ho0 (by decide)) ho0) (by decide) h3 ?_
  refine z_aload_n C dX6_visitNode_141 rfl 0 rfl ?_
  refine gf_X6_42 C dX6_visitNode_142 ho0 ?_
  refine z_aload_n C dX6_visitNode_145 rfl 0 rfl ?_
  refine gf_X6_45 C dX6_visitNode_146 ho0 ?_
  refine z_aload_n C dX6_visitNode_149 rfl 0 rfl ?_
  refine gf_X6_21 C dX6_visitNode_150 ho0 ?_
  refine gf_X6_83 C dX6_visitNode_153 (rt_6_1 _ (kd_lt ho0 (by decide)) ho0) ?_
  obtain ⟨h4, hf⟩ := q_ck hf
  refine z_iast C (n := 1650) dX6_visitNode_156 (rt_6_6 _ (kd_lt ho0 (by decide)) ho0) (by decide) h4 ?_
  refine z_aload_n C dX6_visitNode_157 rfl 0 rfl ?_
  refine z_dup C dX6_visitNode_158 rfl ?_
  refine gf_X6_45 C dX6_visitNode_159 ho0 ?_
  refine z_iconst C dX6_visitNode_162 (v := 1) (by decide) ?_
  refine z_iadd C dX6_visitNode_163 ?_
  refine pf_X6_45 C dX6_visitNode_164 ho0 ?_
  exact z_sub [] rfl (b_X6_visitNode_167 C hr hk (zI (zI (zI (zI (zI z (rf o0 3) (Int32.toNatClampNeg (z.1 o0 7)) (z.1 (rf o0 1) 2)) (rf o0 4) (Int32.toNatClampNeg ((zI z (rf o0 3) (Int32.toNatClampNeg (z.1 o0 7)) (z.1 (rf o0 1) 2)).1 o0 7)) 0) (rf o0 5) (Int32.toNatClampNeg ((zI (zI z (rf o0 3) (Int32.toNatClampNeg (z.1 o0 7)) (z.1 (rf o0 1) 2)) (rf o0 4) (Int32.toNatClampNeg ((zI z (rf o0 3) (Int32.toNatClampNeg (z.1 o0 7)) (z.1 (rf o0 1) 2)).1 o0 7)) 0).1 o0 7)) ((zI (zI z (rf o0 3) (Int32.toNatClampNeg (z.1 o0 7)) (z.1 (rf o0 1) 2)) (rf o0 4) (Int32.toNatClampNeg ((zI z (rf o0 3) (Int32.toNatClampNeg (z.1 o0 7)) (z.1 (rf o0 1) 2)).1 o0 7)) 0).1 (rf o0 1) 5)) (rf o0 6) (Int32.toNatClampNeg ((zI (zI (zI z (rf o0 3) (Int32.toNatClampNeg (z.1 o0 7)) (z.1 (rf o0 1) 2)) (rf o0 4) (Int32.toNatClampNeg ((zI z (rf o0 3) (Int32.toNatClampNeg (z.1 o0 7)) (z.1 (rf o0 1) 2)).1 o0 7)) 0) (rf o0 5) (Int32.toNatClampNeg ((zI (zI z (rf o0 3) (Int32.toNatClampNeg (z.1 o0 7)) (z.1 (rf o0 1) 2)) (rf o0 4) (Int32.toNatClampNeg ((zI z (rf o0 3) (Int32.toNatClampNeg (z.1 o0 7)) (z.1 (rf o0 1) 2)).1 o0 7)) 0).1 o0 7)) ((zI (zI z (rf o0 3) (Int32.toNatClampNeg (z.1 o0 7)) (z.1 (rf o0 1) 2)) (rf o0 4) (Int32.toNatClampNeg ((zI z (rf o0 3) (Int32.toNatClampNeg (z.1 o0 7)) (z.1 (rf o0 1) 2)).1 o0 7)) 0).1 (rf o0 1) 5)).1 o0 7)) ((zI (zI (zI z (rf o0 3) (Int32.toNatClampNeg (z.1 o0 7)) (z.1 (rf o0 1) 2)) (rf o0 4) (Int32.toNatClampNeg ((zI z (rf o0 3) (Int32.toNatClampNeg (z.1 o0 7)) (z.1 (rf o0 1) 2)).1 o0 7)) 0) (rf o0 5) (Int32.toNatClampNeg ((zI (zI z (rf o0 3) (Int32.toNatClampNeg (z.1 o0 7)) (z.1 (rf o0 1) 2)) (rf o0 4) (Int32.toNatClampNeg ((zI z (rf o0 3) (Int32.toNatClampNeg (z.1 o0 7)) (z.1 (rf o0 1) 2)).1 o0 7)) 0).1 o0 7)) ((zI (zI z (rf o0 3) (Int32.toNatClampNeg (z.1 o0 7)) (z.1 (rf o0 1) 2)) (rf o0 4) (Int32.toNatClampNeg ((zI z (rf o0 3) (Int32.toNatClampNeg (z.1 o0 7)) (z.1 (rf o0 1) 2)).1 o0 7)) 0).1 (rf o0 1) 5)).1 (rf o0 1) 6)) o0 7 (((zI (zI (zI (zI z (rf o0 3) (Int32.toNatClampNeg (z.1 o0 7)) (z.1 (rf o0 1) 2)) (rf o0 4) (Int32.toNatClampNeg ((zI z (rf o0 3) (Int32.toNatClampNeg (z.1 o0 7)) (z.1 (rf o0 1) 2)).1 o0 7)) 0) (rf o0 5) (Int32.toNatClampNeg ((zI (zI z (rf o0 3) (Int32.toNatClampNeg (z.1 o0 7)) (z.1 (rf o0 1) 2)) (rf o0 4) (Int32.toNatClampNeg ((zI z (rf o0 3) (Int32.toNatClampNeg (z.1 o0 7)) (z.1 (rf o0 1) 2)).1 o0 7)) 0).1 o0 7)) ((zI (zI z (rf o0 3) (Int32.toNatClampNeg (z.1 o0 7)) (z.1 (rf o0 1) 2)) (rf o0 4) (Int32.toNatClampNeg ((zI z (rf o0 3) (Int32.toNatClampNeg (z.1 o0 7)) (z.1 (rf o0 1) 2)).1 o0 7)) 0).1 (rf o0 1) 5)) (rf o0 6) (Int32.toNatClampNeg ((zI (zI (zI z (rf o0 3) (Int32.toNatClampNeg (z.1 o0 7)) (z.1 (rf o0 1) 2)) (rf o0 4) (Int32.toNatClampNeg ((zI z (rf o0 3) (Int32.toNatClampNeg (z.1 o0 7)) (z.1 (rf o0 1) 2)).1 o0 7)) 0) (rf o0 5) (Int32.toNatClampNeg ((zI (zI z (rf o0 3) (Int32.toNatClampNeg (z.1 o0 7)) (z.1 (rf o0 1) 2)) (rf o0 4) (Int32.toNatClampNeg ((zI z (rf o0 3) (Int32.toNatClampNeg (z.1 o0 7)) (z.1 (rf o0 1) 2)).1 o0 7)) 0).1 o0 7)) ((zI (zI z (rf o0 3) (Int32.toNatClampNeg (z.1 o0 7)) (z.1 (rf o0 1) 2)) (rf o0 4) (Int32.toNatClampNeg ((zI z (rf o0 3) (Int32.toNatClampNeg (z.1 o0 7)) (z.1 (rf o0 1) 2)).1 o0 7)) 0).1 (rf o0 1) 5)).1 o0 7)) ((zI (zI (zI z (rf o0 3) (Int32.toNatClampNeg (z.1 o0 7)) (z.1 (rf o0 1) 2)) (rf o0 4) (Int32.toNatClampNeg ((zI z (rf o0 3) (Int32.toNatClampNeg (z.1 o0 7)) (z.1 (rf o0 1) 2)).1 o0 7)) 0) (rf o0 5) (Int32.toNatClampNeg ((zI (zI z (rf o0 3) (Int32.toNatClampNeg (z.1 o0 7)) (z.1 (rf o0 1) 2)) (rf o0 4) (Int32.toNatClampNeg ((zI z (rf o0 3) (Int32.toNatClampNeg (z.1 o0 7)) (z.1 (rf o0 1) 2)).1 o0 7)) 0).1 o0 7)) ((zI (zI z (rf o0 3) (Int32.toNatClampNeg (z.1 o0 7)) (z.1 (rf o0 1) 2)) (rf o0 4) (Int32.toNatClampNeg ((zI z (rf o0 3) (Int32.toNatClampNeg (z.1 o0 7)) (z.1 (rf o0 1) 2)).1 o0 7)) 0).1 (rf o0 1) 5)).1 (rf o0 1) 6)).1 o0 7) + 1)) hf)
def f_X6_visitNode_89  (z : St) (o0 : Nat) : Option (St) :=
  if 1650 ≤ (z.1 o0 7) then f_X6_visitNode_167 z else f_X6_visitNode_99 z o0
theorem b_X6_visitNode_89 {p : Program} {l : Launch} {e : Env} {s : State} {m : MethodId} {args : Array Value} {below : List Frame} {meth : Method} {c : Code} {g : Ga} {A : Nat → Prop} (C : Cx l g A p s m args c cX6_visitNode 2 RX6 (rm_X6_visitNode) (0, 0)) (hr : meth.sig.returnType = none) (hk : meth.locks = false)   (z : St) (o0 : Nat) (ho0 : kd o0 = 6) {res : St} (hf : f_X6_visitNode_89  z o0 = some res) : Zj p l e (rm_X6_visitNode) s m args below meth c g A 2 (0, 0) (QV g A below args s res) z 89 [(0, .ref (g.1 o0))] [] := by
  unfold f_X6_visitNode_89 at hf
  refine z_aload_n C dX6_visitNode_89 rfl 0 rfl ?_
  refine gf_X6_45 C dX6_visitNode_90 ho0 ?_
  refine z_sipush C dX6_visitNode_93 (v := 1650) (by decide) ?_
  exact z_icmp_ge C dX6_visitNode_96 (by decide) (fun h => z_sub [] rfl (b_X6_visitNode_167 C hr hk z (q_t hf h))) (fun h => z_sub [0] rfl (b_X6_visitNode_99 C hr hk z o0 ho0 (q_f hf h)))
def f_X6_visitNode_82  (z : St) (o0 : Nat) : Option (St) :=
  if (z.1 o0 7) < 0 then f_X6_visitNode_167 z else f_X6_visitNode_89 z o0
theorem b_X6_visitNode_82 {p : Program} {l : Launch} {e : Env} {s : State} {m : MethodId} {args : Array Value} {below : List Frame} {meth : Method} {c : Code} {g : Ga} {A : Nat → Prop} (C : Cx l g A p s m args c cX6_visitNode 2 RX6 (rm_X6_visitNode) (0, 0)) (hr : meth.sig.returnType = none) (hk : meth.locks = false)   (z : St) (o0 : Nat) (ho0 : kd o0 = 6) {res : St} (hf : f_X6_visitNode_82  z o0 = some res) : Zj p l e (rm_X6_visitNode) s m args below meth c g A 2 (0, 0) (QV g A below args s res) z 82 [(0, .ref (g.1 o0))] [] := by
  unfold f_X6_visitNode_82 at hf
  refine z_aload_n C dX6_visitNode_82 rfl 0 rfl ?_
  refine gf_X6_45 C dX6_visitNode_83 ho0 ?_
  exact z_if_lt C dX6_visitNode_86 (by decide) (fun h => z_sub [] rfl (b_X6_visitNode_167 C hr hk z (q_t hf h))) (fun h => z_sub [0] rfl (b_X6_visitNode_89 C hr hk z o0 ho0 (q_f hf h)))
def f_X6_visitNode_59  (z : St) (o0 : Nat) (o1 : Nat) : Option (St) :=
  ((f_X0_find z (rf o0 1) o1 (rf o0 0)).bind fun r1 => if (r1.1 (rf o0 1) 2) = ((-1)) then f_X6_visitNode_167 r1 else f_X6_visitNode_82 r1 o0)
theorem b_X6_visitNode_59 {p : Program} {l : Launch} {e : Env} {s : State} {m : MethodId} {args : Array Value} {below : List Frame} {meth : Method} {c : Code} {g : Ga} {A : Nat → Prop} (C : Cx l g A p s m args c cX6_visitNode 2 RX6 (rm_X6_visitNode) (0, 0)) (hr : meth.sig.returnType = none) (hk : meth.locks = false)   (z : St) (o0 : Nat) (o1 : Nat) (ho0 : kd o0 = 6) (ho1 : kd o1 = 4) {res : St} (hf : f_X6_visitNode_59  z o0 o1 = some res) : Zj p l e (rm_X6_visitNode) s m args below meth c g A 2 (0, 0) (QV g A below args s res) z 59 [(0, .ref (g.1 o0)), (1, .ref (g.1 o1))] [] := by
  unfold f_X6_visitNode_59 at hf
  refine z_aload_n C dX6_visitNode_59 rfl 0 rfl ?_
  refine gf_X6_21 C dX6_visitNode_60 ho0 ?_
  refine z_aload_n C dX6_visitNode_63 rfl 1 rfl ?_
  refine z_aload_n C dX6_visitNode_64 rfl 0 rfl ?_
  refine gf_X6_12 C dX6_visitNode_65 ho0 ?_
  obtain ⟨r1, hc2, hf⟩ := q_bd hf
  refine z_cVv C (st := []) (c_X0_find (rt_6_1 _ (kd_lt ho0 (by decide)) ho0) ho1 (rt_6_0 _ (kd_lt ho0 (by decide)) ho0) hc2) mw_X0_find ml_X6_73 (rt_6_1 _ (kd_lt ho0 (by decide)) ho0) (by decide) rfl dX6_visitNode_68 rfl rfl rfl ⟨Nat.le_of_ble_eq_true rfl, Nat.le_of_ble_eq_true rfl⟩ rfl (Nat.le_of_ble_eq_true rfl) ?_
  refine z_aload_n C dX6_visitNode_71 rfl 0 rfl ?_
  refine gf_X6_21 C dX6_visitNode_72 ho0 ?_
  refine gf_X6_77 C dX6_visitNode_75 (rt_6_1 _ (kd_lt ho0 (by decide)) ho0) ?_
  refine z_iconst C dX6_visitNode_78 (v := (-1)) (by decide) ?_
  exact z_icmp_eq C dX6_visitNode_79 (by decide) (fun h => z_sub [] rfl (b_X6_visitNode_167 C hr hk r1 (q_t hf h))) (fun h => z_sub [0] rfl (b_X6_visitNode_82 C hr hk r1 o0 ho0 (q_f hf h)))
def f_X6_visitNode_40  (z : St) (o0 : Nat) (o1 : Nat) : Option (St) :=
  f_X6_visitNode_59 (zI (zI z o0 8 (z.1 (rf o0 0) 6)) o0 10 ((zI z o0 8 (z.1 (rf o0 0) 6)).1 o0 9)) o0 o1
theorem b_X6_visitNode_40 {p : Program} {l : Launch} {e : Env} {s : State} {m : MethodId} {args : Array Value} {below : List Frame} {meth : Method} {c : Code} {g : Ga} {A : Nat → Prop} (C : Cx l g A p s m args c cX6_visitNode 2 RX6 (rm_X6_visitNode) (0, 0)) (hr : meth.sig.returnType = none) (hk : meth.locks = false)   (z : St) (o0 : Nat) (o1 : Nat) (ho0 : kd o0 = 6) (ho1 : kd o1 = 4) {res : St} (hf : f_X6_visitNode_40  z o0 o1 = some res) : Zj p l e (rm_X6_visitNode) s m args below meth c g A 2 (0, 0) (QV g A below args s res) z 40 [(0, .ref (g.1 o0)), (1, .ref (g.1 o1))] [] := by
  unfold f_X6_visitNode_40 at hf
  refine z_aload_n C dX6_visitNode_40 rfl 0 rfl ?_
  refine z_aload_n C dX6_visitNode_41 rfl 0 rfl ?_
  refine gf_X6_12 C dX6_visitNode_42 ho0 ?_
  refine gf_X6_70 C dX6_visitNode_45 (rt_6_0 _ (kd_lt ho0 (by decide)) ho0) ?_
  refine pf_X6_49 C dX6_visitNode_48 ho0 ?_
  refine z_aload_n C dX6_visitNode_51 rfl 0 rfl ?_
  refine z_aload_n C dX6_visitNode_52 rfl 0 rfl ?_
  refine gf_X6_52 C dX6_visitNode_53 ho0 ?_
  refine pf_X6_55 C dX6_visitNode_56 ho0 ?_
  exact z_sub [0, 1] rfl (b_X6_visitNode_59 C hr hk (zI (zI z o0 8 (z.1 (rf o0 0) 6)) o0 10 ((zI z o0 8 (z.1 (rf o0 0) 6)).1 o0 9)) o0 o1 ho0 ho1 hf)
def f_X6_visitNode_26  (z : St) (o0 : Nat) (o1 : Nat) : Option (St) :=
  if (z.1 o0 8) ≤ (z.1 (rf o0 0) 6) then f_X6_visitNode_59 z o0 o1 else f_X6_visitNode_40 z o0 o1
theorem b_X6_visitNode_26 {p : Program} {l : Launch} {e : Env} {s : State} {m : MethodId} {args : Array Value} {below : List Frame} {meth : Method} {c : Code} {g : Ga} {A : Nat → Prop} (C : Cx l g A p s m args c cX6_visitNode 2 RX6 (rm_X6_visitNode) (0, 0)) (hr : meth.sig.returnType = none) (hk : meth.locks = false)   (z : St) (o0 : Nat) (o1 : Nat) (ho0 : kd o0 = 6) (ho1 : kd o1 = 4) {res : St} (hf : f_X6_visitNode_26  z o0 o1 = some res) : Zj p l e (rm_X6_visitNode) s m args below meth c g A 2 (0, 0) (QV g A below args s res) z 26 [(0, .ref (g.1 o0)), (1, .ref (g.1 o1))] [] := by
  unfold f_X6_visitNode_26 at hf
  refine z_aload_n C dX6_visitNode_26 rfl 0 rfl ?_
  refine gf_X6_12 C dX6_visitNode_27 ho0 ?_
  refine gf_X6_70 C dX6_visitNode_30 (rt_6_0 _ (kd_lt ho0 (by decide)) ho0) ?_
  refine z_aload_n C dX6_visitNode_33 rfl 0 rfl ?_
  refine gf_X6_49 C dX6_visitNode_34 ho0 ?_
  exact z_icmp_ge C dX6_visitNode_37 (by decide) (fun h => z_sub [0, 1] rfl (b_X6_visitNode_59 C hr hk z o0 o1 ho0 ho1 (q_t hf h))) (fun h => z_sub [0, 1] rfl (b_X6_visitNode_40 C hr hk z o0 o1 ho0 ho1 (q_f hf h)))
def f_X6_visitNode_0  (z : St) (o0 : Nat) (o1 : Nat) : Option (St) :=
  ((f_X3_layGreedy (zI z o0 9 ((z.1 o0 9) + 1)) (rf o0 0) o1).bind fun r1 => if (r1.1 o0 8) = ((-1)) then f_X6_visitNode_40 r1 o0 o1 else f_X6_visitNode_26 r1 o0 o1)
theorem b_X6_visitNode_0 {p : Program} {l : Launch} {e : Env} {s : State} {m : MethodId} {args : Array Value} {below : List Frame} {meth : Method} {c : Code} {g : Ga} {A : Nat → Prop} (C : Cx l g A p s m args c cX6_visitNode 2 RX6 (rm_X6_visitNode) (0, 0)) (hr : meth.sig.returnType = none) (hk : meth.locks = false)   (z : St) (o0 : Nat) (o1 : Nat) (ho0 : kd o0 = 6) (ho1 : kd o1 = 4) {res : St} (hf : f_X6_visitNode_0  z o0 o1 = some res) : Zj p l e (rm_X6_visitNode) s m args below meth c g A 2 (0, 0) (QV g A below args s res) z 0 [(0, .ref (g.1 o0)), (1, .ref (g.1 o1))] [] := by
  unfold f_X6_visitNode_0 at hf
  refine z_aload_n C dX6_visitNode_0 rfl 0 rfl ?_
  refine z_dup C dX6_visitNode_1 rfl ?_
  refine gf_X6_52 C dX6_visitNode_2 ho0 ?_
  refine z_iconst C dX6_visitNode_5 (v := 1) (by decide) ?_
  refine z_iadd C dX6_visitNode_6 ?_
  refine pf_X6_52 C dX6_visitNode_7 ho0 ?_
  refine z_aload_n C dX6_visitNode_10 rfl 0 rfl ?_
  refine gf_X6_12 C dX6_visitNode_11 ho0 ?_
  refine z_aload_n C dX6_visitNode_14 rfl 1 rfl ?_
  obtain ⟨r1, hc2, hf⟩ := q_bd hf
  refine z_cVv C (st := []) (c_X3_layGreedy (rt_6_0 _ (kd_lt ho0 (by decide)) ho0) ho1 hc2) mw_X3_layGreedy ml_X6_67 (rt_6_0 _ (kd_lt ho0 (by decide)) ho0) (by decide) rfl dX6_visitNode_15 rfl rfl rfl ⟨Nat.le_of_ble_eq_true rfl, Nat.le_of_ble_eq_true rfl⟩ rfl (Nat.le_of_ble_eq_true rfl) ?_
  refine z_aload_n C dX6_visitNode_18 rfl 0 rfl ?_
  refine gf_X6_49 C dX6_visitNode_19 ho0 ?_
  refine z_iconst C dX6_visitNode_22 (v := (-1)) (by decide) ?_
  exact z_icmp_eq C dX6_visitNode_23 (by decide) (fun h => z_sub [0, 1] rfl (b_X6_visitNode_40 C hr hk r1 o0 o1 ho0 ho1 (q_t hf h))) (fun h => z_sub [0, 1] rfl (b_X6_visitNode_26 C hr hk r1 o0 o1 ho0 ho1 (q_f hf h)))
def f_X6_visitNode (z : St) (o0 : Nat) (o1 : Nat) : Option (St) := f_X6_visitNode_0 z o0 o1
theorem c_X6_visitNode {l : Launch} {g : Ga} {A : Nat → Prop} {z : St} {o0 : Nat} {o1 : Nat} (ho0 : kd o0 = 6) (ho1 : kd o1 = 4) {res : St} (hf : f_X6_visitNode z o0 o1 = some res) : CV l g A yX6_visitNode cX6_visitNode 2 none rm_X6_visitNode [.ref (g.1 o0), .ref (g.1 o1)] z res :=
  e_CV (by decide) (Nat.le_of_ble_eq_true rfl) rfl (fun p e s m args below meth c C hr hk => z_sub [0, 1] rfl (b_X6_visitNode_0 C hr hk z o0 o1 ho0 ho1 hf))
abbrev rm_X6_run : Room := { frames := 4, cells := 0, slots := 0, locals := 95 }
def f_X6_run_53 (K27 : St → Nat → Nat → Int32 → Option (St)) (z : St) (o0 : Nat) (o1 : Nat) (x2 : Int32) : Option (St) :=
  K27 z o0 o1 (x2 + 1)
theorem b_X6_run_53 {p : Program} {l : Launch} {e : Env} {s : State} {m : MethodId} {args : Array Value} {below : List Frame} {meth : Method} {c : Code} {g : Ga} {A : Nat → Prop} (C : Cx l g A p s m args c cX6_run 3 RX6 (rm_X6_run) (0, 0)) (hr : meth.sig.returnType = none) (hk : meth.locks = false) {K27 : St → Nat → Nat → Int32 → Option (St)} (hK27 : ∀ (z : St) (o0 : Nat) (o1 : Nat) (x2 : Int32) (_ : kd o0 = 6) (_ : kd o1 = 4) {res : St}, K27 z o0 o1 x2 = some res → Zj p l e (rm_X6_run) s m args below meth c g A 3 (0, 0) (QV g A below args s res) z 27 [(0, .ref (g.1 o0)), (1, .ref (g.1 o1)), (2, .int x2)] []) (z : St) (o0 : Nat) (o1 : Nat) (x2 : Int32) (ho0 : kd o0 = 6) (ho1 : kd o1 = 4) {res : St} (hf : f_X6_run_53 K27 z o0 o1 x2 = some res) : Zj p l e (rm_X6_run) s m args below meth c g A 3 (0, 0) (QV g A below args s res) z 53 [(0, .ref (g.1 o0)), (1, .ref (g.1 o1)), (2, .int x2)] [] := by
  unfold f_X6_run_53 at hf
  refine z_iinc C (k := 2) (v := x2 + 1) (lv2 := [(2, .int (x2 + 1)), (0, .ref (g.1 o0)), (1, .ref (g.1 o1))]) dX6_run_53 rfl rfl (by decide) rfl ?_
  exact z_goto C dX6_run_56 (by decide) (z_sub [1, 2, 0] rfl (hK27 z o0 o1 (x2 + 1) ho0 ho1 hf))
def f_X6_run_48 (K27 : St → Nat → Nat → Int32 → Option (St)) (z : St) (o0 : Nat) (o1 : Nat) (x2 : Int32) : Option (St) :=
  ((f_X6_visitNode z o0 o1).bind fun r1 => f_X6_run_53 K27 r1 o0 o1 x2)
theorem b_X6_run_48 {p : Program} {l : Launch} {e : Env} {s : State} {m : MethodId} {args : Array Value} {below : List Frame} {meth : Method} {c : Code} {g : Ga} {A : Nat → Prop} (C : Cx l g A p s m args c cX6_run 3 RX6 (rm_X6_run) (0, 0)) (hr : meth.sig.returnType = none) (hk : meth.locks = false) {K27 : St → Nat → Nat → Int32 → Option (St)} (hK27 : ∀ (z : St) (o0 : Nat) (o1 : Nat) (x2 : Int32) (_ : kd o0 = 6) (_ : kd o1 = 4) {res : St}, K27 z o0 o1 x2 = some res → Zj p l e (rm_X6_run) s m args below meth c g A 3 (0, 0) (QV g A below args s res) z 27 [(0, .ref (g.1 o0)), (1, .ref (g.1 o1)), (2, .int x2)] []) (z : St) (o0 : Nat) (o1 : Nat) (x2 : Int32) (ho0 : kd o0 = 6) (ho1 : kd o1 = 4) {res : St} (hf : f_X6_run_48 K27 z o0 o1 x2 = some res) : Zj p l e (rm_X6_run) s m args below meth c g A 3 (0, 0) (QV g A below args s res) z 48 [(0, .ref (g.1 o0)), (1, .ref (g.1 o1)), (2, .int x2)] [] := by
  unfold f_X6_run_48 at hf
  refine z_aload_n C dX6_run_48 rfl 0 rfl ?_
  refine z_aload_n C dX6_run_49 rfl 1 rfl ?_
  obtain ⟨r1, hc2, hf⟩ := q_bd hf
  refine z_cVv C (st := []) (c_X6_visitNode ho0 ho1 hc2) mw_X6_visitNode ml_X6_58 ho0 (by decide) rfl dX6_run_50 rfl rfl rfl ⟨Nat.le_of_ble_eq_true rfl, Nat.le_of_ble_eq_true rfl⟩ rfl (Nat.le_of_ble_eq_true rfl) ?_
  exact z_sub [0, 1, 2] rfl (b_X6_run_53 C hr hk hK27 r1 o0 o1 x2 ho0 ho1 hf)
def f_X6_run_40 (K27 : St → Nat → Nat → Int32 → Option (St)) (z : St) (o0 : Nat) (o1 : Nat) (x2 : Int32) : Option (St) :=
  ((f_X6_goOn z o0 o1).bind fun r1 => if r1.2 = 0 then f_X6_run_53 K27 r1.1 o0 o1 x2 else f_X6_run_48 K27 r1.1 o0 o1 x2)
theorem b_X6_run_40 {p : Program} {l : Launch} {e : Env} {s : State} {m : MethodId} {args : Array Value} {below : List Frame} {meth : Method} {c : Code} {g : Ga} {A : Nat → Prop} (C : Cx l g A p s m args c cX6_run 3 RX6 (rm_X6_run) (0, 0)) (hr : meth.sig.returnType = none) (hk : meth.locks = false) {K27 : St → Nat → Nat → Int32 → Option (St)} (hK27 : ∀ (z : St) (o0 : Nat) (o1 : Nat) (x2 : Int32) (_ : kd o0 = 6) (_ : kd o1 = 4) {res : St}, K27 z o0 o1 x2 = some res → Zj p l e (rm_X6_run) s m args below meth c g A 3 (0, 0) (QV g A below args s res) z 27 [(0, .ref (g.1 o0)), (1, .ref (g.1 o1)), (2, .int x2)] []) (z : St) (o0 : Nat) (o1 : Nat) (x2 : Int32) (ho0 : kd o0 = 6) (ho1 : kd o1 = 4) {res : St} (hf : f_X6_run_40 K27 z o0 o1 x2 = some res) : Zj p l e (rm_X6_run) s m args below meth c g A 3 (0, 0) (QV g A below args s res) z 40 [(0, .ref (g.1 o0)), (1, .ref (g.1 o1)), (2, .int x2)] [] := by
  unfold f_X6_run_40 at hf
  refine z_aload_n C dX6_run_40 rfl 0 rfl ?_
  refine z_aload_n C dX6_run_41 rfl 1 rfl ?_
  obtain ⟨r1, hc2, hf⟩ := q_bd hf
  refine z_cVi C (st := []) (c_X6_goOn ho0 ho1 hc2) mw_X6_goOn ml_X6_63 ho0 (by decide) rfl dX6_run_42 rfl rfl rfl ⟨Nat.le_of_ble_eq_true rfl, Nat.le_of_ble_eq_true rfl⟩ rfl (Nat.le_of_ble_eq_true rfl) ?_
  exact z_if_eq C dX6_run_45 (by decide) (fun h => z_sub [0, 1, 2] rfl (b_X6_run_53 C hr hk hK27 r1.1 o0 o1 x2 ho0 ho1 (q_t hf h))) (fun h => z_sub [0, 1, 2] rfl (b_X6_run_48 C hr hk hK27 r1.1 o0 o1 x2 ho0 ho1 (q_f hf h)))
def f_X6_run_59  (z : St)  : Option (St) :=
  some z
theorem b_X6_run_59 {p : Program} {l : Launch} {e : Env} {s : State} {m : MethodId} {args : Array Value} {below : List Frame} {meth : Method} {c : Code} {g : Ga} {A : Nat → Prop} (C : Cx l g A p s m args c cX6_run 3 RX6 (rm_X6_run) (0, 0)) (hr : meth.sig.returnType = none) (hk : meth.locks = false)   (z : St)   {res : St} (hf : f_X6_run_59  z  = some res) : Zj p l e (rm_X6_run) s m args below meth c g A 3 (0, 0) (QV g A below args s res) z 59 [] [] := by
  unfold f_X6_run_59 at hf
  cases hf
  exact z_vret C hr hk dX6_run_59
def f_X6_run_33 (K27 : St → Nat → Nat → Int32 → Option (St)) (z : St) (o0 : Nat) (o1 : Nat) (x2 : Int32) : Option (St) :=
  if (z.1 o0 7) ≤ 0 then f_X6_run_59 z else f_X6_run_40 K27 z o0 o1 x2
theorem b_X6_run_33 {p : Program} {l : Launch} {e : Env} {s : State} {m : MethodId} {args : Array Value} {below : List Frame} {meth : Method} {c : Code} {g : Ga} {A : Nat → Prop} (C : Cx l g A p s m args c cX6_run 3 RX6 (rm_X6_run) (0, 0)) (hr : meth.sig.returnType = none) (hk : meth.locks = false) {K27 : St → Nat → Nat → Int32 → Option (St)} (hK27 : ∀ (z : St) (o0 : Nat) (o1 : Nat) (x2 : Int32) (_ : kd o0 = 6) (_ : kd o1 = 4) {res : St}, K27 z o0 o1 x2 = some res → Zj p l e (rm_X6_run) s m args below meth c g A 3 (0, 0) (QV g A below args s res) z 27 [(0, .ref (g.1 o0)), (1, .ref (g.1 o1)), (2, .int x2)] []) (z : St) (o0 : Nat) (o1 : Nat) (x2 : Int32) (ho0 : kd o0 = 6) (ho1 : kd o1 = 4) {res : St} (hf : f_X6_run_33 K27 z o0 o1 x2 = some res) : Zj p l e (rm_X6_run) s m args below meth c g A 3 (0, 0) (QV g A below args s res) z 33 [(0, .ref (g.1 o0)), (1, .ref (g.1 o1)), (2, .int x2)] [] := by
  unfold f_X6_run_33 at hf
  refine z_aload_n C dX6_run_33 rfl 0 rfl ?_
  refine gf_X6_45 C dX6_run_34 ho0 ?_
  exact z_if_le C dX6_run_37 (by decide) (fun h => z_sub [] rfl (b_X6_run_59 C hr hk z (q_t hf h))) (fun h => z_sub [0, 1, 2] rfl (b_X6_run_40 C hr hk hK27 z o0 o1 x2 ho0 ho1 (q_f hf h)))
def f_X6_run_27  : Nat → St → Nat → Nat → Int32 → Option (St)
  | 0, _, _, _, _ => none
  | n + 1, z, o0, o1, x2 => if 1000000 ≤ x2 then f_X6_run_59 z else f_X6_run_33 (f_X6_run_27 n) z o0 o1 x2
theorem b_X6_run_27 {p : Program} {l : Launch} {e : Env} {s : State} {m : MethodId} {args : Array Value} {below : List Frame} {meth : Method} {c : Code} {g : Ga} {A : Nat → Prop} (C : Cx l g A p s m args c cX6_run 3 RX6 (rm_X6_run) (0, 0)) (hr : meth.sig.returnType = none) (hk : meth.locks = false)   : ∀ (n : Nat) (z : St) (o0 : Nat) (o1 : Nat) (x2 : Int32) (_ : kd o0 = 6) (_ : kd o1 = 4) {res : St} (_ : f_X6_run_27  n z o0 o1 x2 = some res), Zj p l e (rm_X6_run) s m args below meth c g A 3 (0, 0) (QV g A below args s res) z 27 [(0, .ref (g.1 o0)), (1, .ref (g.1 o1)), (2, .int x2)] [] := by
  intro n
  induction n with
  | zero =>
    intro z o0 o1 x2 ho0 ho1 res hf
    cases hf
  | succ n ih =>
    intro z o0 o1 x2 ho0 ho1 res hf
    rw [f_X6_run_27] at hf
    refine z_iload_n C dX6_run_27 rfl 2 rfl ?_
    refine z_ldc C dX6_run_28 kc_X6_62 ?_
    exact z_icmp_ge C dX6_run_30 (by decide) (fun h => z_sub [] rfl (b_X6_run_59 C hr hk z (q_t hf h))) (fun h => z_sub [0, 1, 2] rfl (b_X6_run_33 C hr hk ih z o0 o1 x2 ho0 ho1 (q_f hf h)))
def f_X6_run_0  (z : St) (o0 : Nat) (o1 : Nat) : Option (St) :=
  ((f_X6_visitNode (zI (zI (zI (zI z o0 7 0) o0 8 ((-1))) o0 9 0) o0 10 0) o0 o1).bind fun r1 => f_X6_run_27 FU r1 o0 o1 0)
theorem b_X6_run_0 {p : Program} {l : Launch} {e : Env} {s : State} {m : MethodId} {args : Array Value} {below : List Frame} {meth : Method} {c : Code} {g : Ga} {A : Nat → Prop} (C : Cx l g A p s m args c cX6_run 3 RX6 (rm_X6_run) (0, 0)) (hr : meth.sig.returnType = none) (hk : meth.locks = false)   (z : St) (o0 : Nat) (o1 : Nat) (ho0 : kd o0 = 6) (ho1 : kd o1 = 4) {res : St} (hf : f_X6_run_0  z o0 o1 = some res) : Zj p l e (rm_X6_run) s m args below meth c g A 3 (0, 0) (QV g A below args s res) z 0 [(0, .ref (g.1 o0)), (1, .ref (g.1 o1))] [] := by
  unfold f_X6_run_0 at hf
  refine z_aload_n C dX6_run_0 rfl 0 rfl ?_
  refine z_iconst C dX6_run_1 (v := 0) (by decide) ?_
  refine pf_X6_45 C dX6_run_2 ho0 ?_
  refine z_aload_n C dX6_run_5 rfl 0 rfl ?_
  refine z_iconst C dX6_run_6 (v := (-1)) (by decide) ?_
  refine pf_X6_49 C dX6_run_7 ho0 ?_
  refine z_aload_n C dX6_run_10 rfl 0 rfl ?_
  refine z_iconst C dX6_run_11 (v := 0) (by decide) ?_
  refine pf_X6_52 C dX6_run_12 ho0 ?_
  refine z_aload_n C dX6_run_15 rfl 0 rfl ?_
  refine z_iconst C dX6_run_16 (v := 0) (by decide) ?_
  refine pf_X6_55 C dX6_run_17 ho0 ?_
  refine z_aload_n C dX6_run_20 rfl 0 rfl ?_
  refine z_aload_n C dX6_run_21 rfl 1 rfl ?_
  obtain ⟨r1, hc2, hf⟩ := q_bd hf
  refine z_cVv C (st := []) (c_X6_visitNode ho0 ho1 hc2) mw_X6_visitNode ml_X6_58 ho0 (by decide) rfl dX6_run_22 rfl rfl rfl ⟨Nat.le_of_ble_eq_true rfl, Nat.le_of_ble_eq_true rfl⟩ rfl (Nat.le_of_ble_eq_true rfl) ?_
  refine z_iconst C dX6_run_25 (v := 0) (by decide) ?_
  refine z_istore_n C (lv2 := [(2, .int 0), (0, .ref (g.1 o0)), (1, .ref (g.1 o1))]) dX6_run_26 rfl (by decide) rfl ?_
  exact z_sub [1, 2, 0] rfl (b_X6_run_27 C hr hk FU r1 o0 o1 0 ho0 ho1 hf)
def f_X6_run (z : St) (o0 : Nat) (o1 : Nat) : Option (St) := f_X6_run_0 z o0 o1
theorem c_X6_run {l : Launch} {g : Ga} {A : Nat → Prop} {z : St} {o0 : Nat} {o1 : Nat} (ho0 : kd o0 = 6) (ho1 : kd o1 = 4) {res : St} (hf : f_X6_run z o0 o1 = some res) : CV l g A yX6_run cX6_run 3 none rm_X6_run [.ref (g.1 o0), .ref (g.1 o1)] z res :=
  e_CV (by decide) (Nat.le_of_ble_eq_true rfl) rfl (fun p e s m args below meth c C hr hk => z_sub [0, 1] rfl (b_X6_run_0 C hr hk z o0 o1 ho0 ho1 hf))
