abbrev rm_X11_gain : Room := { frames := 5, cells := 0, slots := 0, locals := 113 }
def f_X11_gain_8  (z : St)  : Option (St × Int32) :=
  some (z, (-2))
theorem b_X11_gain_8 {p : Program} {l : Launch} {e : Env} {s : State} {m : MethodId} {args : Array Value} {below : List Frame} {meth : Method} {c : Code} {g : Ga} {A : Nat → Prop} (C : Cx l g A p s m args c cX11_gain 3 RX11 (rm_X11_gain) (0, 0)) (hr : meth.sig.returnType = (some .int)) (hk : meth.locks = false)   (z : St)   {res : St × Int32} (hf : f_X11_gain_8  z  = some res) : Zj p l e (rm_X11_gain) s m args below meth c g A 3 (0, 0) (QI g A below args s res) z 8 [] [] := by
  unfold f_X11_gain_8 at hf
  refine z_bipush C dX11_gain_8 (v := (-2)) (by decide) ?_
  cases hf
  exact z_iret C hr hk dX11_gain_10
def f_X11_gain_11  (z : St) (o0 : Nat) (x1 : Int32) : Option (St × Int32) :=
  ((f_X11_thinks z o0).bind fun r1 => ((f_X11_leastNow r1 o0).bind fun r3 => ((f_X11_all r3.1 o0).bind fun r5 => ((f_X11_leastOf r5.1 o0 (r5.2 ^^^ ((1 : Int32) <<< (x1 &&& 31))) r3.2).bind fun r7 => some (r7.1, r3.2 - r7.2)))))
theorem b_X11_gain_11 {p : Program} {l : Launch} {e : Env} {s : State} {m : MethodId} {args : Array Value} {below : List Frame} {meth : Method} {c : Code} {g : Ga} {A : Nat → Prop} (C : Cx l g A p s m args c cX11_gain 3 RX11 (rm_X11_gain) (0, 0)) (hr : meth.sig.returnType = (some .int)) (hk : meth.locks = false)   (z : St) (o0 : Nat) (x1 : Int32) (ho0 : kd o0 = 11) {res : St × Int32} (hf : f_X11_gain_11  z o0 x1 = some res) : Zj p l e (rm_X11_gain) s m args below meth c g A 3 (0, 0) (QI g A below args s res) z 11 [(0, .ref (g.1 o0)), (1, .int x1)] [] := by
  unfold f_X11_gain_11 at hf
  refine z_aload_n C dX11_gain_11 rfl 0 rfl ?_
  obtain ⟨r1, hc2, hf⟩ := q_bd hf
  refine z_cVv C (st := []) (c_X11_thinks ho0 hc2) mw_X11_thinks ml_X11_205 ho0 (by decide) rfl dX11_gain_12 rfl rfl rfl ⟨Nat.le_of_ble_eq_true rfl, Nat.le_of_ble_eq_true rfl⟩ rfl (Nat.le_of_ble_eq_true rfl) ?_
  refine z_aload_n C dX11_gain_15 rfl 0 rfl ?_
  obtain ⟨r3, hc4, hf⟩ := q_bd hf
  refine z_cVi C (st := []) (c_X11_leastNow ho0 hc4) mw_X11_leastNow ml_X11_289 ho0 (by decide) rfl dX11_gain_16 rfl rfl rfl ⟨Nat.le_of_ble_eq_true rfl, Nat.le_of_ble_eq_true rfl⟩ rfl (Nat.le_of_ble_eq_true rfl) ?_
  refine z_istore_n C (lv2 := [(2, .int r3.2), (0, .ref (g.1 o0)), (1, .int x1)]) dX11_gain_19 rfl (by decide) rfl ?_
  refine z_iload_n C dX11_gain_20 rfl 0 rfl ?_
  refine z_aload_n C dX11_gain_21 rfl 1 rfl ?_
  refine z_aload_n C dX11_gain_22 rfl 1 rfl ?_
  obtain ⟨r5, hc6, hf⟩ := q_bd hf
  refine z_cVi C (st := [.ref (g.1 o0), .int r3.2]) (c_X11_all ho0 hc6) mw_X11_all ml_X11_283 ho0 (by decide) rfl dX11_gain_23 rfl rfl rfl ⟨Nat.le_of_ble_eq_true rfl, Nat.le_of_ble_eq_true rfl⟩ rfl (Nat.le_of_ble_eq_true rfl) ?_
  refine z_iconst C dX11_gain_26 (v := 1) (by decide) ?_
  refine z_iload_n C dX11_gain_27 rfl 2 rfl ?_
  refine z_ishl C dX11_gain_28 ?_
  refine z_ixor C dX11_gain_29 ?_
  refine z_iload_n C dX11_gain_30 rfl 0 rfl ?_
  obtain ⟨r7, hc8, hf⟩ := q_bd hf
  refine z_cVi C (st := [.int r3.2]) (c_X11_leastOf ho0 hc8) mw_X11_leastOf ml_X11_286 ho0 (by decide) rfl dX11_gain_31 rfl rfl rfl ⟨Nat.le_of_ble_eq_true rfl, Nat.le_of_ble_eq_true rfl⟩ rfl (Nat.le_of_ble_eq_true rfl) ?_
  refine z_isub C dX11_gain_34 ?_
  cases hf
  exact z_iret C hr hk dX11_gain_35
def f_X11_gain_0  (z : St) (o0 : Nat) (x1 : Int32) : Option (St × Int32) :=
  ((f_X11_isJob z o0 x1).bind fun r1 => if r1.2 = 0 then f_X11_gain_8 r1.1 else f_X11_gain_11 r1.1 o0 x1)
theorem b_X11_gain_0 {p : Program} {l : Launch} {e : Env} {s : State} {m : MethodId} {args : Array Value} {below : List Frame} {meth : Method} {c : Code} {g : Ga} {A : Nat → Prop} (C : Cx l g A p s m args c cX11_gain 3 RX11 (rm_X11_gain) (0, 0)) (hr : meth.sig.returnType = (some .int)) (hk : meth.locks = false)   (z : St) (o0 : Nat) (x1 : Int32) (ho0 : kd o0 = 11) {res : St × Int32} (hf : f_X11_gain_0  z o0 x1 = some res) : Zj p l e (rm_X11_gain) s m args below meth c g A 3 (0, 0) (QI g A below args s res) z 0 [(0, .ref (g.1 o0)), (1, .int x1)] [] := by
  unfold f_X11_gain_0 at hf
  refine z_aload_n C dX11_gain_0 rfl 0 rfl ?_
  refine z_iload_n C dX11_gain_1 rfl 1 rfl ?_
  obtain ⟨r1, hc2, hf⟩ := q_bd hf
  refine z_cVi C (st := []) (c_X11_isJob ho0 hc2) mw_X11_isJob ml_X11_148 ho0 (by decide) rfl dX11_gain_2 rfl rfl rfl ⟨Nat.le_of_ble_eq_true rfl, Nat.le_of_ble_eq_true rfl⟩ rfl (Nat.le_of_ble_eq_true rfl) ?_
  exact z_if_ne C dX11_gain_5 (by decide) (fun h => z_sub [0, 1] rfl (b_X11_gain_11 C hr hk r1.1 o0 x1 ho0 (q_f hf h))) (fun h => z_sub [] rfl (b_X11_gain_8 C hr hk r1.1 (q_t hf h)))
def f_X11_gain (z : St) (o0 : Nat) (x1 : Int32) : Option (St × Int32) := f_X11_gain_0 z o0 x1
theorem c_X11_gain {l : Launch} {g : Ga} {A : Nat → Prop} {z : St} {o0 : Nat} {x1 : Int32} (ho0 : kd o0 = 11) {res : St × Int32} (hf : f_X11_gain z o0 x1 = some res) : CI l g A yX11_gain cX11_gain 3 (some .int) rm_X11_gain [.ref (g.1 o0), .int x1] z res :=
  e_CI (by decide) (Nat.le_of_ble_eq_true rfl) rfl (fun p e s m args below meth c C hr hk => z_sub [0, 1] rfl (b_X11_gain_0 C hr hk z o0 x1 ho0 hf))
abbrev rm_X11_isOrder : Room := { frames := 1, cells := 0, slots := 0, locals := 20 }
def f_X11_isOrder_13  (z : St)  : Option (St × Int32) :=
  some (z, 0)
theorem b_X11_isOrder_13 {p : Program} {l : Launch} {e : Env} {s : State} {m : MethodId} {args : Array Value} {below : List Frame} {meth : Method} {c : Code} {g : Ga} {A : Nat → Prop} (C : Cx l g A p s m args c cX11_isOrder 6 RX11 (rm_X11_isOrder) (0, 0)) (hr : meth.sig.returnType = (some .boolean)) (hk : meth.locks = false)   (z : St)   {res : St × Int32} (hf : f_X11_isOrder_13  z  = some res) : Zj p l e (rm_X11_isOrder) s m args below meth c g A 6 (0, 0) (QI g A below args s res) z 13 [] [] := by
  unfold f_X11_isOrder_13 at hf
  refine z_iconst C dX11_isOrder_13 (v := 0) (by decide) ?_
  cases hf
  exact z_zret C hr hk (by decide) dX11_isOrder_14
def f_X11_isOrder_58  (z : St)  : Option (St × Int32) :=
  some (z, 0)
theorem b_X11_isOrder_58 {p : Program} {l : Launch} {e : Env} {s : State} {m : MethodId} {args : Array Value} {below : List Frame} {meth : Method} {c : Code} {g : Ga} {A : Nat → Prop} (C : Cx l g A p s m args c cX11_isOrder 6 RX11 (rm_X11_isOrder) (0, 0)) (hr : meth.sig.returnType = (some .boolean)) (hk : meth.locks = false)   (z : St)   {res : St × Int32} (hf : f_X11_isOrder_58  z  = some res) : Zj p l e (rm_X11_isOrder) s m args below meth c g A 6 (0, 0) (QI g A below args s res) z 58 [] [] := by
  unfold f_X11_isOrder_58 at hf
  refine z_iconst C dX11_isOrder_58 (v := 0) (by decide) ?_
  cases hf
  exact z_zret C hr hk (by decide) dX11_isOrder_59
def f_X11_isOrder_60 (K19 : St → Nat → Int32 → Int32 → Int32 → Option (St × Int32)) (z : St) (o0 : Nat) (x1 : Int32) (x2 : Int32) (x3 : Int32) (y4 : Int64) : Option (St × Int32) :=
  K19 z o0 x1 (x2 ||| ((1 : Int32) <<< ((Int64.toInt32 y4) &&& 31))) (x3 + 1)
theorem b_X11_isOrder_60 {p : Program} {l : Launch} {e : Env} {s : State} {m : MethodId} {args : Array Value} {below : List Frame} {meth : Method} {c : Code} {g : Ga} {A : Nat → Prop} (C : Cx l g A p s m args c cX11_isOrder 6 RX11 (rm_X11_isOrder) (0, 0)) (hr : meth.sig.returnType = (some .boolean)) (hk : meth.locks = false) {K19 : St → Nat → Int32 → Int32 → Int32 → Option (St × Int32)} (hK19 : ∀ (z : St) (o0 : Nat) (x1 : Int32) (x2 : Int32) (x3 : Int32) (_ : kd o0 = 11) {res : St × Int32}, K19 z o0 x1 x2 x3 = some res → Zj p l e (rm_X11_isOrder) s m args below meth c g A 6 (0, 0) (QI g A below args s res) z 19 [(0, .ref (g.1 o0)), (1, .int x1), (2, .int x2), (3, .int x3)] []) (z : St) (o0 : Nat) (x1 : Int32) (x2 : Int32) (x3 : Int32) (y4 : Int64) (ho0 : kd o0 = 11) {res : St × Int32} (hf : f_X11_isOrder_60 K19 z o0 x1 x2 x3 y4 = some res) : Zj p l e (rm_X11_isOrder) s m args below meth c g A 6 (0, 0) (QI g A below args s res) z 60 [(0, .ref (g.1 o0)), (1, .int x1), (2, .int x2), (3, .int x3), (4, .long y4)] [] := by
  unfold f_X11_isOrder_60 at hf
  refine z_iload_n C dX11_isOrder_60 rfl 2 rfl ?_
  refine z_iconst C dX11_isOrder_61 (v := 1) (by decide) ?_
  refine z_lload C dX11_isOrder_62 4 rfl ?_
  refine z_l2i C dX11_isOrder_64 ?_
  refine z_ishl C dX11_isOrder_65 ?_
  refine z_ior C dX11_isOrder_66 ?_
  refine z_istore_n C (lv2 := [(2, .int (x2 ||| ((1 : Int32) <<< ((Int64.toInt32 y4) &&& 31)))), (0, .ref (g.1 o0)), (1, .int x1), (3, .int x3), (4, .long y4)]) dX11_isOrder_67 rfl (by decide) rfl ?_
  refine z_iinc C (k := 3) (v := x3 + 1) (lv2 := [(3, .int (x3 + 1)), (2, .int (x2 ||| ((1 : Int32) <<< ((Int64.toInt32 y4) &&& 31)))), (0, .ref (g.1 o0)), (1, .int x1), (4, .long y4)]) dX11_isOrder_68 rfl rfl (by decide) rfl ?_
  exact z_goto C dX11_isOrder_71 (by decide) (z_sub [2, 3, 1, 0] rfl (hK19 z o0 x1 (x2 ||| ((1 : Int32) <<< ((Int64.toInt32 y4) &&& 31))) (x3 + 1) ho0 hf))
def f_X11_isOrder_47 (K19 : St → Nat → Int32 → Int32 → Int32 → Option (St × Int32)) (z : St) (o0 : Nat) (x1 : Int32) (x2 : Int32) (x3 : Int32) (y4 : Int64) : Option (St × Int32) :=
  if (lg_cmp y4 (Int32.toInt64 (z.1 o0 5))) < 0 then f_X11_isOrder_60 K19 z o0 x1 x2 x3 y4 else f_X11_isOrder_58 z
theorem b_X11_isOrder_47 {p : Program} {l : Launch} {e : Env} {s : State} {m : MethodId} {args : Array Value} {below : List Frame} {meth : Method} {c : Code} {g : Ga} {A : Nat → Prop} (C : Cx l g A p s m args c cX11_isOrder 6 RX11 (rm_X11_isOrder) (0, 0)) (hr : meth.sig.returnType = (some .boolean)) (hk : meth.locks = false) {K19 : St → Nat → Int32 → Int32 → Int32 → Option (St × Int32)} (hK19 : ∀ (z : St) (o0 : Nat) (x1 : Int32) (x2 : Int32) (x3 : Int32) (_ : kd o0 = 11) {res : St × Int32}, K19 z o0 x1 x2 x3 = some res → Zj p l e (rm_X11_isOrder) s m args below meth c g A 6 (0, 0) (QI g A below args s res) z 19 [(0, .ref (g.1 o0)), (1, .int x1), (2, .int x2), (3, .int x3)] []) (z : St) (o0 : Nat) (x1 : Int32) (x2 : Int32) (x3 : Int32) (y4 : Int64) (ho0 : kd o0 = 11) {res : St × Int32} (hf : f_X11_isOrder_47 K19 z o0 x1 x2 x3 y4 = some res) : Zj p l e (rm_X11_isOrder) s m args below meth c g A 6 (0, 0) (QI g A below args s res) z 47 [(0, .ref (g.1 o0)), (1, .int x1), (2, .int x2), (3, .int x3), (4, .long y4)] [] := by
  unfold f_X11_isOrder_47 at hf
  refine z_lload C dX11_isOrder_47 4 rfl ?_
  refine z_aload_n C dX11_isOrder_49 rfl 0 rfl ?_
  refine gf_X11_111 C dX11_isOrder_50 ho0 ?_
  refine z_i2l C dX11_isOrder_53 ?_
  refine z_lcmp C dX11_isOrder_54 ?_
  exact z_if_lt C dX11_isOrder_55 (by decide) (fun h => z_sub [0, 1, 2, 3, 4] rfl (b_X11_isOrder_60 C hr hk hK19 z o0 x1 x2 x3 y4 ho0 (q_t hf h))) (fun h => z_sub [] rfl (b_X11_isOrder_58 C hr hk z (q_f hf h)))
def f_X11_isOrder_27 (K19 : St → Nat → Int32 → Int32 → Int32 → Option (St × Int32)) (z : St) (o0 : Nat) (x1 : Int32) (x2 : Int32) (x3 : Int32) : Option (St × Int32) :=
  if inb ((40 * x1) + x3) 160 = true then (if (lg_cmp (z.2 (rf o0 56) (Int32.toNatClampNeg ((40 * x1) + x3))) 0) < 0 then f_X11_isOrder_58 z else f_X11_isOrder_47 K19 z o0 x1 x2 x3 (z.2 (rf o0 56) (Int32.toNatClampNeg ((40 * x1) + x3)))) else none
theorem b_X11_isOrder_27 {p : Program} {l : Launch} {e : Env} {s : State} {m : MethodId} {args : Array Value} {below : List Frame} {meth : Method} {c : Code} {g : Ga} {A : Nat → Prop} (C : Cx l g A p s m args c cX11_isOrder 6 RX11 (rm_X11_isOrder) (0, 0)) (hr : meth.sig.returnType = (some .boolean)) (hk : meth.locks = false) {K19 : St → Nat → Int32 → Int32 → Int32 → Option (St × Int32)} (hK19 : ∀ (z : St) (o0 : Nat) (x1 : Int32) (x2 : Int32) (x3 : Int32) (_ : kd o0 = 11) {res : St × Int32}, K19 z o0 x1 x2 x3 = some res → Zj p l e (rm_X11_isOrder) s m args below meth c g A 6 (0, 0) (QI g A below args s res) z 19 [(0, .ref (g.1 o0)), (1, .int x1), (2, .int x2), (3, .int x3)] []) (z : St) (o0 : Nat) (x1 : Int32) (x2 : Int32) (x3 : Int32) (ho0 : kd o0 = 11) {res : St × Int32} (hf : f_X11_isOrder_27 K19 z o0 x1 x2 x3 = some res) : Zj p l e (rm_X11_isOrder) s m args below meth c g A 6 (0, 0) (QI g A below args s res) z 27 [(0, .ref (g.1 o0)), (1, .int x1), (2, .int x2), (3, .int x3)] [] := by
  unfold f_X11_isOrder_27 at hf
  refine z_aload_n C dX11_isOrder_27 rfl 0 rfl ?_
  refine gf_X11_101 C dX11_isOrder_28 ho0 ?_
  refine z_bipush C dX11_isOrder_31 (v := 40) (by decide) ?_
  refine z_iload_n C dX11_isOrder_33 rfl 1 rfl ?_
  refine z_imul C dX11_isOrder_34 ?_
  refine z_iload_n C dX11_isOrder_35 rfl 3 rfl ?_
  refine z_iadd C dX11_isOrder_36 ?_
  obtain ⟨h1, hf⟩ := q_ck hf
  refine z_lald C (n := 160) dX11_isOrder_37 (rt_11_56 _ (kd_lt ho0 (by decide)) ho0) (by decide) h1 ?_
  refine z_lstore C (lv2 := [(4, .long (z.2 (rf o0 56) (Int32.toNatClampNeg ((40 * x1) + x3)))), (0, .ref (g.1 o0)), (1, .int x1), (2, .int x2), (3, .int x3)]) dX11_isOrder_38 (by decide) rfl ?_
  refine z_lload C dX11_isOrder_40 0 rfl ?_
  refine z_lconst C dX11_isOrder_42 (v := 0) (by decide) ?_
  refine z_lcmp C dX11_isOrder_43 ?_
  exact z_if_lt C dX11_isOrder_44 (by decide) (fun h => z_sub [] rfl (b_X11_isOrder_58 C hr hk z (q_t hf h))) (fun h => z_sub [1, 2, 3, 4, 0] rfl (b_X11_isOrder_47 C hr hk hK19 z o0 x1 x2 x3 (z.2 (rf o0 56) (Int32.toNatClampNeg ((40 * x1) + x3))) ho0 (q_f hf h)))
def f_X11_isOrder_87  (z : St) (s0 : Int32) : Option (St × Int32) :=
  if zb s0 = true then some (z, s0) else none
theorem b_X11_isOrder_87 {p : Program} {l : Launch} {e : Env} {s : State} {m : MethodId} {args : Array Value} {below : List Frame} {meth : Method} {c : Code} {g : Ga} {A : Nat → Prop} (C : Cx l g A p s m args c cX11_isOrder 6 RX11 (rm_X11_isOrder) (0, 0)) (hr : meth.sig.returnType = (some .boolean)) (hk : meth.locks = false)   (z : St) (s0 : Int32)  {res : St × Int32} (hf : f_X11_isOrder_87  z s0 = some res) : Zj p l e (rm_X11_isOrder) s m args below meth c g A 6 (0, 0) (QI g A below args s res) z 87 [] [.int s0] := by
  unfold f_X11_isOrder_87 at hf
  obtain ⟨h1, hf⟩ := q_ck hf
  cases hf
  exact z_zret C hr hk h1 dX11_isOrder_87
def f_X11_isOrder_82  (z : St)  : Option (St × Int32) :=
  f_X11_isOrder_87 z 1
theorem b_X11_isOrder_82 {p : Program} {l : Launch} {e : Env} {s : State} {m : MethodId} {args : Array Value} {below : List Frame} {meth : Method} {c : Code} {g : Ga} {A : Nat → Prop} (C : Cx l g A p s m args c cX11_isOrder 6 RX11 (rm_X11_isOrder) (0, 0)) (hr : meth.sig.returnType = (some .boolean)) (hk : meth.locks = false)   (z : St)   {res : St × Int32} (hf : f_X11_isOrder_82  z  = some res) : Zj p l e (rm_X11_isOrder) s m args below meth c g A 6 (0, 0) (QI g A below args s res) z 82 [] [] := by
  unfold f_X11_isOrder_82 at hf
  refine z_iconst C dX11_isOrder_82 (v := 1) (by decide) ?_
  exact z_goto C dX11_isOrder_83 (by decide) (z_sub [] rfl (b_X11_isOrder_87 C hr hk z 1 hf))
def f_X11_isOrder_86  (z : St)  : Option (St × Int32) :=
  f_X11_isOrder_87 z 0
theorem b_X11_isOrder_86 {p : Program} {l : Launch} {e : Env} {s : State} {m : MethodId} {args : Array Value} {below : List Frame} {meth : Method} {c : Code} {g : Ga} {A : Nat → Prop} (C : Cx l g A p s m args c cX11_isOrder 6 RX11 (rm_X11_isOrder) (0, 0)) (hr : meth.sig.returnType = (some .boolean)) (hk : meth.locks = false)   (z : St)   {res : St × Int32} (hf : f_X11_isOrder_86  z  = some res) : Zj p l e (rm_X11_isOrder) s m args below meth c g A 6 (0, 0) (QI g A below args s res) z 86 [] [] := by
  unfold f_X11_isOrder_86 at hf
  refine z_iconst C dX11_isOrder_86 (v := 0) (by decide) ?_
  exact z_sub [] rfl (b_X11_isOrder_87 C hr hk z 0 hf)
def f_X11_isOrder_74  (z : St) (o0 : Nat) (x2 : Int32) : Option (St × Int32) :=
  ((f_X11_all z o0).bind fun r1 => if x2 = r1.2 then f_X11_isOrder_82 r1.1 else f_X11_isOrder_86 r1.1)
theorem b_X11_isOrder_74 {p : Program} {l : Launch} {e : Env} {s : State} {m : MethodId} {args : Array Value} {below : List Frame} {meth : Method} {c : Code} {g : Ga} {A : Nat → Prop} (C : Cx l g A p s m args c cX11_isOrder 6 RX11 (rm_X11_isOrder) (0, 0)) (hr : meth.sig.returnType = (some .boolean)) (hk : meth.locks = false)   (z : St) (o0 : Nat) (x2 : Int32) (ho0 : kd o0 = 11) {res : St × Int32} (hf : f_X11_isOrder_74  z o0 x2 = some res) : Zj p l e (rm_X11_isOrder) s m args below meth c g A 6 (0, 0) (QI g A below args s res) z 74 [(0, .ref (g.1 o0)), (2, .int x2)] [] := by
  unfold f_X11_isOrder_74 at hf
  refine z_iload_n C dX11_isOrder_74 rfl 1 rfl ?_
  refine z_aload_n C dX11_isOrder_75 rfl 0 rfl ?_
  obtain ⟨r1, hc2, hf⟩ := q_bd hf
  refine z_cVi C (st := [.int x2]) (c_X11_all ho0 hc2) mw_X11_all ml_X11_283 ho0 (by decide) rfl dX11_isOrder_76 rfl rfl rfl ⟨Nat.le_of_ble_eq_true rfl, Nat.le_of_ble_eq_true rfl⟩ rfl (Nat.le_of_ble_eq_true rfl) ?_
  exact z_icmp_ne C dX11_isOrder_79 (by decide) (fun h => z_sub [] rfl (b_X11_isOrder_86 C hr hk r1.1 (q_f hf h))) (fun h => z_sub [] rfl (b_X11_isOrder_82 C hr hk r1.1 (q_t hf h)))
def f_X11_isOrder_19  : Nat → St → Nat → Int32 → Int32 → Int32 → Option (St × Int32)
  | 0, _, _, _, _, _ => none
  | n + 1, z, o0, x1, x2, x3 => if (z.1 o0 5) ≤ x3 then f_X11_isOrder_74 z o0 x2 else f_X11_isOrder_27 (f_X11_isOrder_19 n) z o0 x1 x2 x3
theorem b_X11_isOrder_19 {p : Program} {l : Launch} {e : Env} {s : State} {m : MethodId} {args : Array Value} {below : List Frame} {meth : Method} {c : Code} {g : Ga} {A : Nat → Prop} (C : Cx l g A p s m args c cX11_isOrder 6 RX11 (rm_X11_isOrder) (0, 0)) (hr : meth.sig.returnType = (some .boolean)) (hk : meth.locks = false)   : ∀ (n : Nat) (z : St) (o0 : Nat) (x1 : Int32) (x2 : Int32) (x3 : Int32) (_ : kd o0 = 11) {res : St × Int32} (_ : f_X11_isOrder_19  n z o0 x1 x2 x3 = some res), Zj p l e (rm_X11_isOrder) s m args below meth c g A 6 (0, 0) (QI g A below args s res) z 19 [(0, .ref (g.1 o0)), (1, .int x1), (2, .int x2), (3, .int x3)] [] := by
  intro n
  induction n with
  | zero =>
    intro z o0 x1 x2 x3 ho0 res hf
    cases hf
  | succ n ih =>
    intro z o0 x1 x2 x3 ho0 res hf
    rw [f_X11_isOrder_19] at hf
    refine z_iload_n C dX11_isOrder_19 rfl 3 rfl ?_
    refine z_aload_n C dX11_isOrder_20 rfl 0 rfl ?_
    refine gf_X11_111 C dX11_isOrder_21 ho0 ?_
    exact z_icmp_ge C dX11_isOrder_24 (by decide) (fun h => z_sub [0, 2] rfl (b_X11_isOrder_74 C hr hk z o0 x2 ho0 (q_t hf h))) (fun h => z_sub [0, 1, 2, 3] rfl (b_X11_isOrder_27 C hr hk ih z o0 x1 x2 x3 ho0 (q_f hf h)))
def f_X11_isOrder_15  (z : St) (o0 : Nat) (x1 : Int32) : Option (St × Int32) :=
  f_X11_isOrder_19 FU z o0 x1 0 0
theorem b_X11_isOrder_15 {p : Program} {l : Launch} {e : Env} {s : State} {m : MethodId} {args : Array Value} {below : List Frame} {meth : Method} {c : Code} {g : Ga} {A : Nat → Prop} (C : Cx l g A p s m args c cX11_isOrder 6 RX11 (rm_X11_isOrder) (0, 0)) (hr : meth.sig.returnType = (some .boolean)) (hk : meth.locks = false)   (z : St) (o0 : Nat) (x1 : Int32) (ho0 : kd o0 = 11) {res : St × Int32} (hf : f_X11_isOrder_15  z o0 x1 = some res) : Zj p l e (rm_X11_isOrder) s m args below meth c g A 6 (0, 0) (QI g A below args s res) z 15 [(0, .ref (g.1 o0)), (1, .int x1)] [] := by
  unfold f_X11_isOrder_15 at hf
  refine z_iconst C dX11_isOrder_15 (v := 0) (by decide) ?_
  refine z_istore_n C (lv2 := [(2, .int 0), (0, .ref (g.1 o0)), (1, .int x1)]) dX11_isOrder_16 rfl (by decide) rfl ?_
  refine z_iconst C dX11_isOrder_17 (v := 0) (by decide) ?_
  refine z_istore_n C (lv2 := [(3, .int 0), (2, .int 0), (0, .ref (g.1 o0)), (1, .int x1)]) dX11_isOrder_18 rfl (by decide) rfl ?_
  exact z_sub [2, 3, 1, 0] rfl (b_X11_isOrder_19 C hr hk FU z o0 x1 0 0 ho0 hf)
def f_X11_isOrder_0  (z : St) (o0 : Nat) (x1 : Int32) : Option (St × Int32) :=
  if inb x1 4 = true then (if (z.1 (rf o0 55) (Int32.toNatClampNeg x1)) = (z.1 o0 5) then f_X11_isOrder_15 z o0 x1 else f_X11_isOrder_13 z) else none
theorem b_X11_isOrder_0 {p : Program} {l : Launch} {e : Env} {s : State} {m : MethodId} {args : Array Value} {below : List Frame} {meth : Method} {c : Code} {g : Ga} {A : Nat → Prop} (C : Cx l g A p s m args c cX11_isOrder 6 RX11 (rm_X11_isOrder) (0, 0)) (hr : meth.sig.returnType = (some .boolean)) (hk : meth.locks = false)   (z : St) (o0 : Nat) (x1 : Int32) (ho0 : kd o0 = 11) {res : St × Int32} (hf : f_X11_isOrder_0  z o0 x1 = some res) : Zj p l e (rm_X11_isOrder) s m args below meth c g A 6 (0, 0) (QI g A below args s res) z 0 [(0, .ref (g.1 o0)), (1, .int x1)] [] := by
  unfold f_X11_isOrder_0 at hf
  refine z_aload_n C dX11_isOrder_0 rfl 0 rfl ?_
  refine gf_X11_98 C dX11_isOrder_1 ho0 ?_
  refine z_iload_n C dX11_isOrder_4 rfl 1 rfl ?_
  obtain ⟨h1, hf⟩ := q_ck hf
  refine z_iald C (n := 4) dX11_isOrder_5 (rt_11_55 _ (kd_lt ho0 (by decide)) ho0) (by decide) h1 ?_
  refine z_aload_n C dX11_isOrder_6 rfl 0 rfl ?_
  refine gf_X11_111 C dX11_isOrder_7 ho0 ?_
  exact z_icmp_eq C dX11_isOrder_10 (by decide) (fun h => z_sub [0, 1] rfl (b_X11_isOrder_15 C hr hk z o0 x1 ho0 (q_t hf h))) (fun h => z_sub [] rfl (b_X11_isOrder_13 C hr hk z (q_f hf h)))
def f_X11_isOrder (z : St) (o0 : Nat) (x1 : Int32) : Option (St × Int32) := f_X11_isOrder_0 z o0 x1
theorem c_X11_isOrder {l : Launch} {g : Ga} {A : Nat → Prop} {z : St} {o0 : Nat} {x1 : Int32} (ho0 : kd o0 = 11) {res : St × Int32} (hf : f_X11_isOrder z o0 x1 = some res) : CI l g A yX11_isOrder cX11_isOrder 6 (some .boolean) rm_X11_isOrder [.ref (g.1 o0), .int x1] z res :=
  e_CI (by decide) (Nat.le_of_ble_eq_true rfl) rfl (fun p e s m args below meth c C hr hk => z_sub [0, 1] rfl (b_X11_isOrder_0 C hr hk z o0 x1 ho0 hf))
abbrev rm_X11_isSheet : Room := { frames := 1, cells := 0, slots := 0, locals := 22 }
def f_X11_isSheet_0  (z : St) (x0 : Int32) : Option (St × Int32) :=
  ((f_X11_in z x0 0 3).bind fun r1 => if zb r1.2 = true then some (r1.1, r1.2) else none)
theorem b_X11_isSheet_0 {p : Program} {l : Launch} {e : Env} {s : State} {m : MethodId} {args : Array Value} {below : List Frame} {meth : Method} {c : Code} {g : Ga} {A : Nat → Prop} (C : Cx l g A p s m args c cX11_isSheet 1 RX11 (rm_X11_isSheet) (0, 0)) (hr : meth.sig.returnType = (some .boolean)) (hk : meth.locks = false)   (z : St) (x0 : Int32)  {res : St × Int32} (hf : f_X11_isSheet_0  z x0 = some res) : Zj p l e (rm_X11_isSheet) s m args below meth c g A 1 (0, 0) (QI g A below args s res) z 0 [(0, .int x0)] [] := by
  unfold f_X11_isSheet_0 at hf
  refine z_iload_n C dX11_isSheet_0 rfl 0 rfl ?_
  refine z_iconst C dX11_isSheet_1 (v := 0) (by decide) ?_
  refine z_iconst C dX11_isSheet_2 (v := 3) (by decide) ?_
  obtain ⟨r1, hc2, hf⟩ := q_bd hf
  refine z_cSi C (st := []) (c_X11_in  hc2) mw_X11_in ml_X11_114 dX11_isSheet_3 rfl rfl rfl ⟨Nat.le_of_ble_eq_true rfl, Nat.le_of_ble_eq_true rfl⟩ rfl (Nat.le_of_ble_eq_true rfl) ?_
  obtain ⟨h3, hf⟩ := q_ck hf
  cases hf
  exact z_zret C hr hk h3 dX11_isSheet_6
def f_X11_isSheet (z : St) (x0 : Int32) : Option (St × Int32) := f_X11_isSheet_0 z x0
theorem c_X11_isSheet {l : Launch} {g : Ga} {A : Nat → Prop} {z : St} {x0 : Int32}  {res : St × Int32} (hf : f_X11_isSheet z x0 = some res) : CI l g A yX11_isSheet cX11_isSheet 1 (some .boolean) rm_X11_isSheet [.int x0] z res :=
  e_CI (by decide) (Nat.le_of_ble_eq_true rfl) rfl (fun p e s m args below meth c C hr hk => z_sub [0] rfl (b_X11_isSheet_0 C hr hk z x0  hf))
abbrev rm_X11_judge : Room := { frames := 4, cells := 0, slots := 0, locals := 85 }
def f_X11_judge_16  (z : St)  : Option (St × Int64) :=
  some (z, (-2))
theorem b_X11_judge_16 {p : Program} {l : Launch} {e : Env} {s : State} {m : MethodId} {args : Array Value} {below : List Frame} {meth : Method} {c : Code} {g : Ga} {A : Nat → Prop} (C : Cx l g A p s m args c cX11_judge 9 RX11 (rm_X11_judge) (0, 0)) (hr : meth.sig.returnType = (some .long)) (hk : meth.locks = false)   (z : St)   {res : St × Int64} (hf : f_X11_judge_16  z  = some res) : Zj p l e (rm_X11_judge) s m args below meth c g A 9 (0, 0) (QJ g A below args s res) z 16 [] [] := by
  unfold f_X11_judge_16 at hf
  refine z_ldc2 C dX11_judge_16 kc_X11_305 ?_
  cases hf
  exact z_lret C hr hk dX11_judge_19
def f_X11_judge_29  (z : St)  : Option (St × Int64) :=
  some (z, (-11))
theorem b_X11_judge_29 {p : Program} {l : Launch} {e : Env} {s : State} {m : MethodId} {args : Array Value} {below : List Frame} {meth : Method} {c : Code} {g : Ga} {A : Nat → Prop} (C : Cx l g A p s m args c cX11_judge 9 RX11 (rm_X11_judge) (0, 0)) (hr : meth.sig.returnType = (some .long)) (hk : meth.locks = false)   (z : St)   {res : St × Int64} (hf : f_X11_judge_29  z  = some res) : Zj p l e (rm_X11_judge) s m args below meth c g A 9 (0, 0) (QJ g A below args s res) z 29 [] [] := by
  unfold f_X11_judge_29 at hf
  refine z_ldc2 C dX11_judge_29 kc_X11_307 ?_
  cases hf
  exact z_lret C hr hk dX11_judge_32
def f_X11_judge_41  (z : St)  : Option (St × Int64) :=
  some (z, (-3))
theorem b_X11_judge_41 {p : Program} {l : Launch} {e : Env} {s : State} {m : MethodId} {args : Array Value} {below : List Frame} {meth : Method} {c : Code} {g : Ga} {A : Nat → Prop} (C : Cx l g A p s m args c cX11_judge 9 RX11 (rm_X11_judge) (0, 0)) (hr : meth.sig.returnType = (some .long)) (hk : meth.locks = false)   (z : St)   {res : St × Int64} (hf : f_X11_judge_41  z  = some res) : Zj p l e (rm_X11_judge) s m args below meth c g A 9 (0, 0) (QJ g A below args s res) z 41 [] [] := by
  unfold f_X11_judge_41 at hf
  refine z_ldc2 C dX11_judge_41 kc_X11_312 ?_
  cases hf
  exact z_lret C hr hk dX11_judge_44
def f_X11_judge_154 (K73 : St → Nat → Int32 → Int32 → Int32 → Int32 → Int32 → Option (St × Int64)) (z : St) (o0 : Nat) (x1 : Int32) (x2 : Int32) (x4 : Int32) (x6 : Int32) (x7 : Int32) (x8 : Int32) (s0 : Nat) (s1 : Int32) (s2 : Int32) : Option (St × Int64) :=
  if inb x7 8 = true then (if inb x7 8 = true then (K73 (zI z s0 44 (s1 + s2)) o0 x1 x2 (imax x4 ((x8 + ((zI z s0 44 (s1 + s2)).1 (rf o0 14) (Int32.toNatClampNeg x7))) + ((zI z s0 44 (s1 + s2)).1 (rf o0 15) (Int32.toNatClampNeg x7)))) (x8 + ((zI z s0 44 (s1 + s2)).1 (rf o0 14) (Int32.toNatClampNeg x7))) (x6 + 1)) else none) else none
theorem b_X11_judge_154 {p : Program} {l : Launch} {e : Env} {s : State} {m : MethodId} {args : Array Value} {below : List Frame} {meth : Method} {c : Code} {g : Ga} {A : Nat → Prop} (C : Cx l g A p s m args c cX11_judge 9 RX11 (rm_X11_judge) (0, 0)) (hr : meth.sig.returnType = (some .long)) (hk : meth.locks = false) {K73 : St → Nat → Int32 → Int32 → Int32 → Int32 → Int32 → Option (St × Int64)} (hK73 : ∀ (z : St) (o0 : Nat) (x1 : Int32) (x2 : Int32) (x4 : Int32) (x5 : Int32) (x6 : Int32) (_ : kd o0 = 11) {res : St × Int64}, K73 z o0 x1 x2 x4 x5 x6 = some res → Zj p l e (rm_X11_judge) s m args below meth c g A 9 (0, 0) (QJ g A below args s res) z 73 [(0, .ref (g.1 o0)), (1, .int x1), (2, .int x2), (4, .int x4), (5, .int x5), (6, .int x6)] []) (z : St) (o0 : Nat) (x1 : Int32) (x2 : Int32) (x4 : Int32) (x6 : Int32) (x7 : Int32) (x8 : Int32) (s0 : Nat) (s1 : Int32) (s2 : Int32) (ho0 : kd o0 = 11) (hs0 : kd s0 = 11) {res : St × Int64} (hf : f_X11_judge_154 K73 z o0 x1 x2 x4 x6 x7 x8 s0 s1 s2 = some res) : Zj p l e (rm_X11_judge) s m args below meth c g A 9 (0, 0) (QJ g A below args s res) z 154 [(0, .ref (g.1 o0)), (1, .int x1), (2, .int x2), (4, .int x4), (6, .int x6), (7, .int x7), (8, .int x8)] [.int s2, .int s1, .ref (g.1 s0)] := by
  unfold f_X11_judge_154 at hf
  refine z_iadd C dX11_judge_154 ?_
  refine pf_X11_317 C dX11_judge_155 hs0 ?_
  refine z_iload C dX11_judge_158 6 rfl ?_
  refine z_aload_n C dX11_judge_160 rfl 0 rfl ?_
  refine gf_X11_31 C dX11_judge_161 ho0 ?_
  refine z_iload C dX11_judge_164 5 rfl ?_
  obtain ⟨h1, hf⟩ := q_ck hf
  refine z_iald C (n := 8) dX11_judge_166 (rt_11_14 _ (kd_lt ho0 (by decide)) ho0) (by decide) h1 ?_
  refine z_iadd C dX11_judge_167 ?_
  refine z_istore C (lv2 := [(5, .int (x8 + ((zI z s0 44 (s1 + s2)).1 (rf o0 14) (Int32.toNatClampNeg x7)))), (0, .ref (g.1 o0)), (1, .int x1), (2, .int x2), (4, .int x4), (6, .int x6), (7, .int x7), (8, .int x8)]) dX11_judge_168 (by decide) rfl ?_
  refine z_iload C dX11_judge_170 4 rfl ?_
  refine z_iload C dX11_judge_172 0 rfl ?_
  refine z_aload_n C dX11_judge_174 rfl 1 rfl ?_
  refine gf_X11_34 C dX11_judge_175 ho0 ?_
  refine z_iload C dX11_judge_178 6 rfl ?_
  obtain ⟨h2, hf⟩ := q_ck hf
  refine z_iald C (n := 8) dX11_judge_180 (rt_11_15 _ (kd_lt ho0 (by decide)) ho0) (by decide) h2 ?_
  refine z_iadd C dX11_judge_181 ?_
  refine z_mmax C (st := []) dX11_judge_182 ml_X11_126 mm_max.1 mm_i mm_max.2 ⟨Nat.le_of_ble_eq_true rfl, Nat.le_of_ble_eq_true rfl⟩ (Nat.le_of_ble_eq_true rfl) ?_
  refine z_istore C (lv2 := [(4, .int (imax x4 ((x8 + ((zI z s0 44 (s1 + s2)).1 (rf o0 14) (Int32.toNatClampNeg x7))) + ((zI z s0 44 (s1 + s2)).1 (rf o0 15) (Int32.toNatClampNeg x7))))), (5, .int (x8 + ((zI z s0 44 (s1 + s2)).1 (rf o0 14) (Int32.toNatClampNeg x7)))), (0, .ref (g.1 o0)), (1, .int x1), (2, .int x2), (6, .int x6), (7, .int x7), (8, .int x8)]) dX11_judge_185 (by decide) rfl ?_
  refine z_iinc C (k := 5) (v := x6 + 1) (lv2 := [(6, .int (x6 + 1)), (4, .int (imax x4 ((x8 + ((zI z s0 44 (s1 + s2)).1 (rf o0 14) (Int32.toNatClampNeg x7))) + ((zI z s0 44 (s1 + s2)).1 (rf o0 15) (Int32.toNatClampNeg x7))))), (5, .int (x8 + ((zI z s0 44 (s1 + s2)).1 (rf o0 14) (Int32.toNatClampNeg x7)))), (0, .ref (g.1 o0)), (1, .int x1), (2, .int x2), (7, .int x7), (8, .int x8)]) dX11_judge_187 rfl rfl (by decide) rfl ?_
  exact z_goto C dX11_judge_190 (by decide) (z_sub [3, 4, 5, 1, 2, 0] rfl (hK73 (zI z s0 44 (s1 + s2)) o0 x1 x2 (imax x4 ((x8 + ((zI z s0 44 (s1 + s2)).1 (rf o0 14) (Int32.toNatClampNeg x7))) + ((zI z s0 44 (s1 + s2)).1 (rf o0 15) (Int32.toNatClampNeg x7)))) (x8 + ((zI z s0 44 (s1 + s2)).1 (rf o0 14) (Int32.toNatClampNeg x7))) (x6 + 1) ho0 hf))
def f_X11_judge_149 (K73 : St → Nat → Int32 → Int32 → Int32 → Int32 → Int32 → Option (St × Int64)) (z : St) (o0 : Nat) (x1 : Int32) (x2 : Int32) (x4 : Int32) (x6 : Int32) (x7 : Int32) (x8 : Int32) (s0 : Nat) (s1 : Int32) : Option (St × Int64) :=
  f_X11_judge_154 K73 z o0 x1 x2 x4 x6 x7 x8 s0 s1 1
theorem b_X11_judge_149 {p : Program} {l : Launch} {e : Env} {s : State} {m : MethodId} {args : Array Value} {below : List Frame} {meth : Method} {c : Code} {g : Ga} {A : Nat → Prop} (C : Cx l g A p s m args c cX11_judge 9 RX11 (rm_X11_judge) (0, 0)) (hr : meth.sig.returnType = (some .long)) (hk : meth.locks = false) {K73 : St → Nat → Int32 → Int32 → Int32 → Int32 → Int32 → Option (St × Int64)} (hK73 : ∀ (z : St) (o0 : Nat) (x1 : Int32) (x2 : Int32) (x4 : Int32) (x5 : Int32) (x6 : Int32) (_ : kd o0 = 11) {res : St × Int64}, K73 z o0 x1 x2 x4 x5 x6 = some res → Zj p l e (rm_X11_judge) s m args below meth c g A 9 (0, 0) (QJ g A below args s res) z 73 [(0, .ref (g.1 o0)), (1, .int x1), (2, .int x2), (4, .int x4), (5, .int x5), (6, .int x6)] []) (z : St) (o0 : Nat) (x1 : Int32) (x2 : Int32) (x4 : Int32) (x6 : Int32) (x7 : Int32) (x8 : Int32) (s0 : Nat) (s1 : Int32) (ho0 : kd o0 = 11) (hs0 : kd s0 = 11) {res : St × Int64} (hf : f_X11_judge_149 K73 z o0 x1 x2 x4 x6 x7 x8 s0 s1 = some res) : Zj p l e (rm_X11_judge) s m args below meth c g A 9 (0, 0) (QJ g A below args s res) z 149 [(0, .ref (g.1 o0)), (1, .int x1), (2, .int x2), (4, .int x4), (6, .int x6), (7, .int x7), (8, .int x8)] [.int s1, .ref (g.1 s0)] := by
  unfold f_X11_judge_149 at hf
  refine z_iconst C dX11_judge_149 (v := 1) (by decide) ?_
  exact z_goto C dX11_judge_150 (by decide) (z_sub [0, 1, 2, 3, 4, 5, 6] rfl (b_X11_judge_154 C hr hk hK73 z o0 x1 x2 x4 x6 x7 x8 s0 s1 1 ho0 hs0 hf))
def f_X11_judge_153 (K73 : St → Nat → Int32 → Int32 → Int32 → Int32 → Int32 → Option (St × Int64)) (z : St) (o0 : Nat) (x1 : Int32) (x2 : Int32) (x4 : Int32) (x6 : Int32) (x7 : Int32) (x8 : Int32) (s0 : Nat) (s1 : Int32) : Option (St × Int64) :=
  f_X11_judge_154 K73 z o0 x1 x2 x4 x6 x7 x8 s0 s1 0
theorem b_X11_judge_153 {p : Program} {l : Launch} {e : Env} {s : State} {m : MethodId} {args : Array Value} {below : List Frame} {meth : Method} {c : Code} {g : Ga} {A : Nat → Prop} (C : Cx l g A p s m args c cX11_judge 9 RX11 (rm_X11_judge) (0, 0)) (hr : meth.sig.returnType = (some .long)) (hk : meth.locks = false) {K73 : St → Nat → Int32 → Int32 → Int32 → Int32 → Int32 → Option (St × Int64)} (hK73 : ∀ (z : St) (o0 : Nat) (x1 : Int32) (x2 : Int32) (x4 : Int32) (x5 : Int32) (x6 : Int32) (_ : kd o0 = 11) {res : St × Int64}, K73 z o0 x1 x2 x4 x5 x6 = some res → Zj p l e (rm_X11_judge) s m args below meth c g A 9 (0, 0) (QJ g A below args s res) z 73 [(0, .ref (g.1 o0)), (1, .int x1), (2, .int x2), (4, .int x4), (5, .int x5), (6, .int x6)] []) (z : St) (o0 : Nat) (x1 : Int32) (x2 : Int32) (x4 : Int32) (x6 : Int32) (x7 : Int32) (x8 : Int32) (s0 : Nat) (s1 : Int32) (ho0 : kd o0 = 11) (hs0 : kd s0 = 11) {res : St × Int64} (hf : f_X11_judge_153 K73 z o0 x1 x2 x4 x6 x7 x8 s0 s1 = some res) : Zj p l e (rm_X11_judge) s m args below meth c g A 9 (0, 0) (QJ g A below args s res) z 153 [(0, .ref (g.1 o0)), (1, .int x1), (2, .int x2), (4, .int x4), (6, .int x6), (7, .int x7), (8, .int x8)] [.int s1, .ref (g.1 s0)] := by
  unfold f_X11_judge_153 at hf
  refine z_iconst C dX11_judge_153 (v := 0) (by decide) ?_
  exact z_sub [0, 1, 2, 3, 4, 5, 6] rfl (b_X11_judge_154 C hr hk hK73 z o0 x1 x2 x4 x6 x7 x8 s0 s1 0 ho0 hs0 hf)
def f_X11_judge_82 (K73 : St → Nat → Int32 → Int32 → Int32 → Int32 → Int32 → Option (St × Int64)) (z : St) (o0 : Nat) (x1 : Int32) (x2 : Int32) (x4 : Int32) (x5 : Int32) (x6 : Int32) : Option (St × Int64) :=
  if inb ((40 * x1) + x6) 160 = true then (if inb (Int64.toInt32 (z.2 (rf o0 56) (Int32.toNatClampNeg ((40 * x1) + x6)))) 8 = true then (if inb (Int64.toInt32 (z.2 (rf o0 56) (Int32.toNatClampNeg ((40 * x1) + x6)))) 8 = true then (if inb (Int64.toInt32 (z.2 (rf o0 56) (Int32.toNatClampNeg ((40 * x1) + x6)))) 8 = true then (if (imax x5 (z.1 (rf o0 13) (Int32.toNatClampNeg (Int64.toInt32 (z.2 (rf o0 56) (Int32.toNatClampNeg ((40 * x1) + x6))))))) ≤ ((zI z o0 43 (imax (z.1 o0 43) ((imax x5 (z.1 (rf o0 13) (Int32.toNatClampNeg (Int64.toInt32 (z.2 (rf o0 56) (Int32.toNatClampNeg ((40 * x1) + x6))))))) - (z.1 (rf o0 13) (Int32.toNatClampNeg (Int64.toInt32 (z.2 (rf o0 56) (Int32.toNatClampNeg ((40 * x1) + x6))))))))).1 (rf o0 17) (Int32.toNatClampNeg (Int64.toInt32 (z.2 (rf o0 56) (Int32.toNatClampNeg ((40 * x1) + x6)))))) then f_X11_judge_153 K73 (zI z o0 43 (imax (z.1 o0 43) ((imax x5 (z.1 (rf o0 13) (Int32.toNatClampNeg (Int64.toInt32 (z.2 (rf o0 56) (Int32.toNatClampNeg ((40 * x1) + x6))))))) - (z.1 (rf o0 13) (Int32.toNatClampNeg (Int64.toInt32 (z.2 (rf o0 56) (Int32.toNatClampNeg ((40 * x1) + x6))))))))) o0 x1 x2 x4 x6 (Int64.toInt32 (z.2 (rf o0 56) (Int32.toNatClampNeg ((40 * x1) + x6)))) (imax x5 (z.1 (rf o0 13) (Int32.toNatClampNeg (Int64.toInt32 (z.2 (rf o0 56) (Int32.toNatClampNeg ((40 * x1) + x6))))))) o0 ((zI z o0 43 (imax (z.1 o0 43) ((imax x5 (z.1 (rf o0 13) (Int32.toNatClampNeg (Int64.toInt32 (z.2 (rf o0 56) (Int32.toNatClampNeg ((40 * x1) + x6))))))) - (z.1 (rf o0 13) (Int32.toNatClampNeg (Int64.toInt32 (z.2 (rf o0 56) (Int32.toNatClampNeg ((40 * x1) + x6))))))))).1 o0 44) else f_X11_judge_149 K73 (zI z o0 43 (imax (z.1 o0 43) ((imax x5 (z.1 (rf o0 13) (Int32.toNatClampNeg (Int64.toInt32 (z.2 (rf o0 56) (Int32.toNatClampNeg ((40 * x1) + x6))))))) - (z.1 (rf o0 13) (Int32.toNatClampNeg (Int64.toInt32 (z.2 (rf o0 56) (Int32.toNatClampNeg ((40 * x1) + x6))))))))) o0 x1 x2 x4 x6 (Int64.toInt32 (z.2 (rf o0 56) (Int32.toNatClampNeg ((40 * x1) + x6)))) (imax x5 (z.1 (rf o0 13) (Int32.toNatClampNeg (Int64.toInt32 (z.2 (rf o0 56) (Int32.toNatClampNeg ((40 * x1) + x6))))))) o0 ((zI z o0 43 (imax (z.1 o0 43) ((imax x5 (z.1 (rf o0 13) (Int32.toNatClampNeg (Int64.toInt32 (z.2 (rf o0 56) (Int32.toNatClampNeg ((40 * x1) + x6))))))) - (z.1 (rf o0 13) (Int32.toNatClampNeg (Int64.toInt32 (z.2 (rf o0 56) (Int32.toNatClampNeg ((40 * x1) + x6))))))))).1 o0 44)) else none) else none) else none) else none
theorem b_X11_judge_82 {p : Program} {l : Launch} {e : Env} {s : State} {m : MethodId} {args : Array Value} {below : List Frame} {meth : Method} {c : Code} {g : Ga} {A : Nat → Prop} (C : Cx l g A p s m args c cX11_judge 9 RX11 (rm_X11_judge) (0, 0)) (hr : meth.sig.returnType = (some .long)) (hk : meth.locks = false) {K73 : St → Nat → Int32 → Int32 → Int32 → Int32 → Int32 → Option (St × Int64)} (hK73 : ∀ (z : St) (o0 : Nat) (x1 : Int32) (x2 : Int32) (x4 : Int32) (x5 : Int32) (x6 : Int32) (_ : kd o0 = 11) {res : St × Int64}, K73 z o0 x1 x2 x4 x5 x6 = some res → Zj p l e (rm_X11_judge) s m args below meth c g A 9 (0, 0) (QJ g A below args s res) z 73 [(0, .ref (g.1 o0)), (1, .int x1), (2, .int x2), (4, .int x4), (5, .int x5), (6, .int x6)] []) (z : St) (o0 : Nat) (x1 : Int32) (x2 : Int32) (x4 : Int32) (x5 : Int32) (x6 : Int32) (ho0 : kd o0 = 11) {res : St × Int64} (hf : f_X11_judge_82 K73 z o0 x1 x2 x4 x5 x6 = some res) : Zj p l e (rm_X11_judge) s m args below meth c g A 9 (0, 0) (QJ g A below args s res) z 82 [(0, .ref (g.1 o0)), (1, .int x1), (2, .int x2), (4, .int x4), (5, .int x5), (6, .int x6)] [] := by
  unfold f_X11_judge_82 at hf
  refine z_aload_n C dX11_judge_82 rfl 0 rfl ?_
  refine gf_X11_101 C dX11_judge_83 ho0 ?_
  refine z_bipush C dX11_judge_86 (v := 40) (by decide) ?_
  refine z_iload_n C dX11_judge_88 rfl 1 rfl ?_
  refine z_imul C dX11_judge_89 ?_
  refine z_iload C dX11_judge_90 5 rfl ?_
  refine z_iadd C dX11_judge_92 ?_
  obtain ⟨h1, hf⟩ := q_ck hf
  refine z_lald C (n := 160) dX11_judge_93 (rt_11_56 _ (kd_lt ho0 (by decide)) ho0) (by decide) h1 ?_
  refine z_l2i C dX11_judge_94 ?_
  refine z_istore C (lv2 := [(7, .int (Int64.toInt32 (z.2 (rf o0 56) (Int32.toNatClampNeg ((40 * x1) + x6))))), (0, .ref (g.1 o0)), (1, .int x1), (2, .int x2), (4, .int x4), (5, .int x5), (6, .int x6)]) dX11_judge_95 (by decide) rfl ?_
  refine z_iload C dX11_judge_97 5 rfl ?_
  refine z_aload_n C dX11_judge_99 rfl 1 rfl ?_
  refine gf_X11_28 C dX11_judge_100 ho0 ?_
  refine z_iload C dX11_judge_103 0 rfl ?_
  obtain ⟨h2, hf⟩ := q_ck hf
  refine z_iald C (n := 8) dX11_judge_105 (rt_11_13 _ (kd_lt ho0 (by decide)) ho0) (by decide) h2 ?_
  refine z_mmax C (st := []) dX11_judge_106 ml_X11_126 mm_max.1 mm_i mm_max.2 ⟨Nat.le_of_ble_eq_true rfl, Nat.le_of_ble_eq_true rfl⟩ (Nat.le_of_ble_eq_true rfl) ?_
  refine z_istore C (lv2 := [(8, .int (imax x5 (z.1 (rf o0 13) (Int32.toNatClampNeg (Int64.toInt32 (z.2 (rf o0 56) (Int32.toNatClampNeg ((40 * x1) + x6)))))))), (7, .int (Int64.toInt32 (z.2 (rf o0 56) (Int32.toNatClampNeg ((40 * x1) + x6))))), (0, .ref (g.1 o0)), (1, .int x1), (2, .int x2), (4, .int x4), (5, .int x5), (6, .int x6)]) dX11_judge_109 (by decide) rfl ?_
  refine z_aload_n C dX11_judge_111 rfl 2 rfl ?_
  refine z_aload_n C dX11_judge_112 rfl 2 rfl ?_
  refine gf_X11_314 C dX11_judge_113 ho0 ?_
  refine z_iload C dX11_judge_116 0 rfl ?_
  refine z_aload_n C dX11_judge_118 rfl 2 rfl ?_
  refine gf_X11_28 C dX11_judge_119 ho0 ?_
  refine z_iload C dX11_judge_122 1 rfl ?_
  obtain ⟨h3, hf⟩ := q_ck hf
  refine z_iald C (n := 8) dX11_judge_124 (rt_11_13 _ (kd_lt ho0 (by decide)) ho0) (by decide) h3 ?_
  refine z_isub C dX11_judge_125 ?_
  refine z_mmax C (st := [.ref (g.1 o0)]) dX11_judge_126 ml_X11_126 mm_max.1 mm_i mm_max.2 ⟨Nat.le_of_ble_eq_true rfl, Nat.le_of_ble_eq_true rfl⟩ (Nat.le_of_ble_eq_true rfl) ?_
  refine pf_X11_314 C dX11_judge_129 ho0 ?_
  refine z_aload_n C dX11_judge_132 rfl 2 rfl ?_
  refine z_dup C dX11_judge_133 rfl ?_
  refine gf_X11_317 C dX11_judge_134 ho0 ?_
  refine z_iload C dX11_judge_137 0 rfl ?_
  refine z_aload_n C dX11_judge_139 rfl 2 rfl ?_
  refine gf_X11_40 C dX11_judge_140 ho0 ?_
  refine z_iload C dX11_judge_143 1 rfl ?_
  obtain ⟨h4, hf⟩ := q_ck hf
  refine z_iald C (n := 8) dX11_judge_145 (rt_11_17 _ (kd_lt ho0 (by decide)) ho0) (by decide) h4 ?_
  exact z_icmp_le C dX11_judge_146 (by decide) (fun h => z_sub [2, 3, 4, 5, 7, 1, 0] rfl (b_X11_judge_153 C hr hk hK73 (zI z o0 43 (imax (z.1 o0 43) ((imax x5 (z.1 (rf o0 13) (Int32.toNatClampNeg (Int64.toInt32 (z.2 (rf o0 56) (Int32.toNatClampNeg ((40 * x1) + x6))))))) - (z.1 (rf o0 13) (Int32.toNatClampNeg (Int64.toInt32 (z.2 (rf o0 56) (Int32.toNatClampNeg ((40 * x1) + x6))))))))) o0 x1 x2 x4 x6 (Int64.toInt32 (z.2 (rf o0 56) (Int32.toNatClampNeg ((40 * x1) + x6)))) (imax x5 (z.1 (rf o0 13) (Int32.toNatClampNeg (Int64.toInt32 (z.2 (rf o0 56) (Int32.toNatClampNeg ((40 * x1) + x6))))))) o0 ((zI z o0 43 (imax (z.1 o0 43) ((imax x5 (z.1 (rf o0 13) (Int32.toNatClampNeg (Int64.toInt32 (z.2 (rf o0 56) (Int32.toNatClampNeg ((40 * x1) + x6))))))) - (z.1 (rf o0 13) (Int32.toNatClampNeg (Int64.toInt32 (z.2 (rf o0 56) (Int32.toNatClampNeg ((40 * x1) + x6))))))))).1 o0 44) ho0 ho0 (q_t hf h))) (fun h => z_sub [2, 3, 4, 5, 7, 1, 0] rfl (b_X11_judge_149 C hr hk hK73 (zI z o0 43 (imax (z.1 o0 43) ((imax x5 (z.1 (rf o0 13) (Int32.toNatClampNeg (Int64.toInt32 (z.2 (rf o0 56) (Int32.toNatClampNeg ((40 * x1) + x6))))))) - (z.1 (rf o0 13) (Int32.toNatClampNeg (Int64.toInt32 (z.2 (rf o0 56) (Int32.toNatClampNeg ((40 * x1) + x6))))))))) o0 x1 x2 x4 x6 (Int64.toInt32 (z.2 (rf o0 56) (Int32.toNatClampNeg ((40 * x1) + x6)))) (imax x5 (z.1 (rf o0 13) (Int32.toNatClampNeg (Int64.toInt32 (z.2 (rf o0 56) (Int32.toNatClampNeg ((40 * x1) + x6))))))) o0 ((zI z o0 43 (imax (z.1 o0 43) ((imax x5 (z.1 (rf o0 13) (Int32.toNatClampNeg (Int64.toInt32 (z.2 (rf o0 56) (Int32.toNatClampNeg ((40 * x1) + x6))))))) - (z.1 (rf o0 13) (Int32.toNatClampNeg (Int64.toInt32 (z.2 (rf o0 56) (Int32.toNatClampNeg ((40 * x1) + x6))))))))).1 o0 44) ho0 ho0 (q_f hf h)))
def f_X11_judge_237  (z : St) (s0 : Int64) : Option (St × Int64) :=
  some (z, s0)
theorem b_X11_judge_237 {p : Program} {l : Launch} {e : Env} {s : State} {m : MethodId} {args : Array Value} {below : List Frame} {meth : Method} {c : Code} {g : Ga} {A : Nat → Prop} (C : Cx l g A p s m args c cX11_judge 9 RX11 (rm_X11_judge) (0, 0)) (hr : meth.sig.returnType = (some .long)) (hk : meth.locks = false)   (z : St) (s0 : Int64)  {res : St × Int64} (hf : f_X11_judge_237  z s0 = some res) : Zj p l e (rm_X11_judge) s m args below meth c g A 9 (0, 0) (QJ g A below args s res) z 237 [] [.long s0] := by
  unfold f_X11_judge_237 at hf
  cases hf
  exact z_lret C hr hk dX11_judge_237
def f_X11_judge_197  (z : St) (x4 : Int32) : Option (St × Int64) :=
  f_X11_judge_237 z (Int32.toInt64 x4)
theorem b_X11_judge_197 {p : Program} {l : Launch} {e : Env} {s : State} {m : MethodId} {args : Array Value} {below : List Frame} {meth : Method} {c : Code} {g : Ga} {A : Nat → Prop} (C : Cx l g A p s m args c cX11_judge 9 RX11 (rm_X11_judge) (0, 0)) (hr : meth.sig.returnType = (some .long)) (hk : meth.locks = false)   (z : St) (x4 : Int32)  {res : St × Int64} (hf : f_X11_judge_197  z x4 = some res) : Zj p l e (rm_X11_judge) s m args below meth c g A 9 (0, 0) (QJ g A below args s res) z 197 [(4, .int x4)] [] := by
  unfold f_X11_judge_197 at hf
  refine z_iload C dX11_judge_197 0 rfl ?_
  refine z_i2l C dX11_judge_199 ?_
  exact z_goto C dX11_judge_200 (by decide) (z_sub [] rfl (b_X11_judge_237 C hr hk z (Int32.toInt64 x4) hf))
def f_X11_judge_208  (z : St) (o0 : Nat) (x5 : Int32) : Option (St × Int64) :=
  ((f_X11_allTake z o0).bind fun r1 => f_X11_judge_237 r1.1 (Int32.toInt64 (x5 - r1.2)))
theorem b_X11_judge_208 {p : Program} {l : Launch} {e : Env} {s : State} {m : MethodId} {args : Array Value} {below : List Frame} {meth : Method} {c : Code} {g : Ga} {A : Nat → Prop} (C : Cx l g A p s m args c cX11_judge 9 RX11 (rm_X11_judge) (0, 0)) (hr : meth.sig.returnType = (some .long)) (hk : meth.locks = false)   (z : St) (o0 : Nat) (x5 : Int32) (ho0 : kd o0 = 11) {res : St × Int64} (hf : f_X11_judge_208  z o0 x5 = some res) : Zj p l e (rm_X11_judge) s m args below meth c g A 9 (0, 0) (QJ g A below args s res) z 208 [(0, .ref (g.1 o0)), (5, .int x5)] [] := by
  unfold f_X11_judge_208 at hf
  refine z_iload C dX11_judge_208 1 rfl ?_
  refine z_aload_n C dX11_judge_210 rfl 0 rfl ?_
  obtain ⟨r1, hc2, hf⟩ := q_bd hf
  refine z_cVi C (st := [.int x5]) (c_X11_allTake ho0 hc2) mw_X11_allTake ml_X11_211 ho0 (by decide) rfl dX11_judge_211 rfl rfl rfl ⟨Nat.le_of_ble_eq_true rfl, Nat.le_of_ble_eq_true rfl⟩ rfl (Nat.le_of_ble_eq_true rfl) ?_
  refine z_isub C dX11_judge_214 ?_
  refine z_i2l C dX11_judge_215 ?_
  exact z_goto C dX11_judge_216 (by decide) (z_sub [] rfl (b_X11_judge_237 C hr hk r1.1 (Int32.toInt64 (x5 - r1.2)) hf))
def f_X11_judge_224  (z : St) (o0 : Nat) : Option (St × Int64) :=
  f_X11_judge_237 z (Int32.toInt64 (z.1 o0 44))
theorem b_X11_judge_224 {p : Program} {l : Launch} {e : Env} {s : State} {m : MethodId} {args : Array Value} {below : List Frame} {meth : Method} {c : Code} {g : Ga} {A : Nat → Prop} (C : Cx l g A p s m args c cX11_judge 9 RX11 (rm_X11_judge) (0, 0)) (hr : meth.sig.returnType = (some .long)) (hk : meth.locks = false)   (z : St) (o0 : Nat) (ho0 : kd o0 = 11) {res : St × Int64} (hf : f_X11_judge_224  z o0 = some res) : Zj p l e (rm_X11_judge) s m args below meth c g A 9 (0, 0) (QJ g A below args s res) z 224 [(0, .ref (g.1 o0))] [] := by
  unfold f_X11_judge_224 at hf
  refine z_aload_n C dX11_judge_224 rfl 0 rfl ?_
  refine gf_X11_317 C dX11_judge_225 ho0 ?_
  refine z_i2l C dX11_judge_228 ?_
  exact z_goto C dX11_judge_229 (by decide) (z_sub [] rfl (b_X11_judge_237 C hr hk z (Int32.toInt64 (z.1 o0 44)) hf))
def f_X11_judge_232  (z : St) (o0 : Nat) : Option (St × Int64) :=
  f_X11_judge_237 z (Int32.toInt64 (z.1 o0 43))
theorem b_X11_judge_232 {p : Program} {l : Launch} {e : Env} {s : State} {m : MethodId} {args : Array Value} {below : List Frame} {meth : Method} {c : Code} {g : Ga} {A : Nat → Prop} (C : Cx l g A p s m args c cX11_judge 9 RX11 (rm_X11_judge) (0, 0)) (hr : meth.sig.returnType = (some .long)) (hk : meth.locks = false)   (z : St) (o0 : Nat) (ho0 : kd o0 = 11) {res : St × Int64} (hf : f_X11_judge_232  z o0 = some res) : Zj p l e (rm_X11_judge) s m args below meth c g A 9 (0, 0) (QJ g A below args s res) z 232 [(0, .ref (g.1 o0))] [] := by
  unfold f_X11_judge_232 at hf
  refine z_aload_n C dX11_judge_232 rfl 0 rfl ?_
  refine gf_X11_314 C dX11_judge_233 ho0 ?_
  refine z_i2l C dX11_judge_236 ?_
  exact z_sub [] rfl (b_X11_judge_237 C hr hk z (Int32.toInt64 (z.1 o0 43)) hf)
def f_X11_judge_219  (z : St) (o0 : Nat) (x2 : Int32) : Option (St × Int64) :=
  if x2 = 2 then f_X11_judge_224 z o0 else f_X11_judge_232 z o0
theorem b_X11_judge_219 {p : Program} {l : Launch} {e : Env} {s : State} {m : MethodId} {args : Array Value} {below : List Frame} {meth : Method} {c : Code} {g : Ga} {A : Nat → Prop} (C : Cx l g A p s m args c cX11_judge 9 RX11 (rm_X11_judge) (0, 0)) (hr : meth.sig.returnType = (some .long)) (hk : meth.locks = false)   (z : St) (o0 : Nat) (x2 : Int32) (ho0 : kd o0 = 11) {res : St × Int64} (hf : f_X11_judge_219  z o0 x2 = some res) : Zj p l e (rm_X11_judge) s m args below meth c g A 9 (0, 0) (QJ g A below args s res) z 219 [(0, .ref (g.1 o0)), (2, .int x2)] [] := by
  unfold f_X11_judge_219 at hf
  refine z_iload_n C dX11_judge_219 rfl 1 rfl ?_
  refine z_iconst C dX11_judge_220 (v := 2) (by decide) ?_
  exact z_icmp_ne C dX11_judge_221 (by decide) (fun h => z_sub [0] rfl (b_X11_judge_232 C hr hk z o0 ho0 (q_f hf h))) (fun h => z_sub [0] rfl (b_X11_judge_224 C hr hk z o0 ho0 (q_t hf h)))
def f_X11_judge_203  (z : St) (o0 : Nat) (x2 : Int32) (x5 : Int32) : Option (St × Int64) :=
  if x2 = 1 then f_X11_judge_208 z o0 x5 else f_X11_judge_219 z o0 x2
theorem b_X11_judge_203 {p : Program} {l : Launch} {e : Env} {s : State} {m : MethodId} {args : Array Value} {below : List Frame} {meth : Method} {c : Code} {g : Ga} {A : Nat → Prop} (C : Cx l g A p s m args c cX11_judge 9 RX11 (rm_X11_judge) (0, 0)) (hr : meth.sig.returnType = (some .long)) (hk : meth.locks = false)   (z : St) (o0 : Nat) (x2 : Int32) (x5 : Int32) (ho0 : kd o0 = 11) {res : St × Int64} (hf : f_X11_judge_203  z o0 x2 x5 = some res) : Zj p l e (rm_X11_judge) s m args below meth c g A 9 (0, 0) (QJ g A below args s res) z 203 [(0, .ref (g.1 o0)), (2, .int x2), (5, .int x5)] [] := by
  unfold f_X11_judge_203 at hf
  refine z_iload_n C dX11_judge_203 rfl 1 rfl ?_
  refine z_iconst C dX11_judge_204 (v := 1) (by decide) ?_
  exact z_icmp_ne C dX11_judge_205 (by decide) (fun h => z_sub [0, 1] rfl (b_X11_judge_219 C hr hk z o0 x2 ho0 (q_f hf h))) (fun h => z_sub [0, 2] rfl (b_X11_judge_208 C hr hk z o0 x5 ho0 (q_t hf h)))
def f_X11_judge_193  (z : St) (o0 : Nat) (x2 : Int32) (x4 : Int32) (x5 : Int32) : Option (St × Int64) :=
  if x2 = 0 then f_X11_judge_197 z x4 else f_X11_judge_203 z o0 x2 x5
theorem b_X11_judge_193 {p : Program} {l : Launch} {e : Env} {s : State} {m : MethodId} {args : Array Value} {below : List Frame} {meth : Method} {c : Code} {g : Ga} {A : Nat → Prop} (C : Cx l g A p s m args c cX11_judge 9 RX11 (rm_X11_judge) (0, 0)) (hr : meth.sig.returnType = (some .long)) (hk : meth.locks = false)   (z : St) (o0 : Nat) (x2 : Int32) (x4 : Int32) (x5 : Int32) (ho0 : kd o0 = 11) {res : St × Int64} (hf : f_X11_judge_193  z o0 x2 x4 x5 = some res) : Zj p l e (rm_X11_judge) s m args below meth c g A 9 (0, 0) (QJ g A below args s res) z 193 [(0, .ref (g.1 o0)), (2, .int x2), (4, .int x4), (5, .int x5)] [] := by
  unfold f_X11_judge_193 at hf
  refine z_iload_n C dX11_judge_193 rfl 1 rfl ?_
  exact z_if_ne C dX11_judge_194 (by decide) (fun h => z_sub [0, 1, 3] rfl (b_X11_judge_203 C hr hk z o0 x2 x5 ho0 (q_f hf h))) (fun h => z_sub [2] rfl (b_X11_judge_197 C hr hk z x4 (q_t hf h)))
def f_X11_judge_73  : Nat → St → Nat → Int32 → Int32 → Int32 → Int32 → Int32 → Option (St × Int64)
  | 0, _, _, _, _, _, _, _ => none
  | n + 1, z, o0, x1, x2, x4, x5, x6 => if (z.1 o0 5) ≤ x6 then f_X11_judge_193 z o0 x2 x4 x5 else f_X11_judge_82 (f_X11_judge_73 n) z o0 x1 x2 x4 x5 x6
theorem b_X11_judge_73 {p : Program} {l : Launch} {e : Env} {s : State} {m : MethodId} {args : Array Value} {below : List Frame} {meth : Method} {c : Code} {g : Ga} {A : Nat → Prop} (C : Cx l g A p s m args c cX11_judge 9 RX11 (rm_X11_judge) (0, 0)) (hr : meth.sig.returnType = (some .long)) (hk : meth.locks = false)   : ∀ (n : Nat) (z : St) (o0 : Nat) (x1 : Int32) (x2 : Int32) (x4 : Int32) (x5 : Int32) (x6 : Int32) (_ : kd o0 = 11) {res : St × Int64} (_ : f_X11_judge_73  n z o0 x1 x2 x4 x5 x6 = some res), Zj p l e (rm_X11_judge) s m args below meth c g A 9 (0, 0) (QJ g A below args s res) z 73 [(0, .ref (g.1 o0)), (1, .int x1), (2, .int x2), (4, .int x4), (5, .int x5), (6, .int x6)] [] := by
  intro n
  induction n with
  | zero =>
    intro z o0 x1 x2 x4 x5 x6 ho0 res hf
    cases hf
  | succ n ih =>
    intro z o0 x1 x2 x4 x5 x6 ho0 res hf
    rw [f_X11_judge_73] at hf
    refine z_iload C dX11_judge_73 5 rfl ?_
    refine z_aload_n C dX11_judge_75 rfl 0 rfl ?_
    refine gf_X11_111 C dX11_judge_76 ho0 ?_
    exact z_icmp_ge C dX11_judge_79 (by decide) (fun h => z_sub [0, 2, 3, 4] rfl (b_X11_judge_193 C hr hk z o0 x2 x4 x5 ho0 (q_t hf h))) (fun h => z_sub [0, 1, 2, 3, 4, 5] rfl (b_X11_judge_82 C hr hk ih z o0 x1 x2 x4 x5 x6 ho0 (q_f hf h)))
def f_X11_judge_45  (z : St) (o0 : Nat) (x1 : Int32) (x2 : Int32) : Option (St × Int64) :=
  ((f_X11_thinks z o0).bind fun r1 => ((f_X11_greedily r1 o0).bind fun r3 => f_X11_judge_73 FU (zI (zI r3.1 o0 43 0) o0 44 0) o0 x1 x2 0 0 0))
theorem b_X11_judge_45 {p : Program} {l : Launch} {e : Env} {s : State} {m : MethodId} {args : Array Value} {below : List Frame} {meth : Method} {c : Code} {g : Ga} {A : Nat → Prop} (C : Cx l g A p s m args c cX11_judge 9 RX11 (rm_X11_judge) (0, 0)) (hr : meth.sig.returnType = (some .long)) (hk : meth.locks = false)   (z : St) (o0 : Nat) (x1 : Int32) (x2 : Int32) (ho0 : kd o0 = 11) {res : St × Int64} (hf : f_X11_judge_45  z o0 x1 x2 = some res) : Zj p l e (rm_X11_judge) s m args below meth c g A 9 (0, 0) (QJ g A below args s res) z 45 [(0, .ref (g.1 o0)), (1, .int x1), (2, .int x2)] [] := by
  unfold f_X11_judge_45 at hf
  refine z_aload_n C dX11_judge_45 rfl 0 rfl ?_
  obtain ⟨r1, hc2, hf⟩ := q_bd hf
  refine z_cVv C (st := []) (c_X11_thinks ho0 hc2) mw_X11_thinks ml_X11_205 ho0 (by decide) rfl dX11_judge_46 rfl rfl rfl ⟨Nat.le_of_ble_eq_true rfl, Nat.le_of_ble_eq_true rfl⟩ rfl (Nat.le_of_ble_eq_true rfl) ?_
  refine z_aload_n C dX11_judge_49 rfl 0 rfl ?_
  obtain ⟨r3, hc4, hf⟩ := q_bd hf
  refine z_cVi C (st := []) (c_X11_greedily ho0 hc4) mw_X11_greedily ml_X11_208 ho0 (by decide) rfl dX11_judge_50 rfl rfl rfl ⟨Nat.le_of_ble_eq_true rfl, Nat.le_of_ble_eq_true rfl⟩ rfl (Nat.le_of_ble_eq_true rfl) ?_
  refine z_istore_n C (lv2 := [(3, .int r3.2), (0, .ref (g.1 o0)), (1, .int x1), (2, .int x2)]) dX11_judge_53 rfl (by decide) rfl ?_
  refine z_iconst C dX11_judge_54 (v := 0) (by decide) ?_
  refine z_istore C (lv2 := [(4, .int 0), (3, .int r3.2), (0, .ref (g.1 o0)), (1, .int x1), (2, .int x2)]) dX11_judge_55 (by decide) rfl ?_
  refine z_iconst C dX11_judge_57 (v := 0) (by decide) ?_
  refine z_istore C (lv2 := [(5, .int 0), (4, .int 0), (3, .int r3.2), (0, .ref (g.1 o0)), (1, .int x1), (2, .int x2)]) dX11_judge_58 (by decide) rfl ?_
  refine z_aload_n C dX11_judge_60 rfl 3 rfl ?_
  refine z_iconst C dX11_judge_61 (v := 0) (by decide) ?_
  refine pf_X11_314 C dX11_judge_62 ho0 ?_
  refine z_aload_n C dX11_judge_65 rfl 3 rfl ?_
  refine z_iconst C dX11_judge_66 (v := 0) (by decide) ?_
  refine pf_X11_317 C dX11_judge_67 ho0 ?_
  refine z_iconst C dX11_judge_70 (v := 0) (by decide) ?_
  refine z_istore C (lv2 := [(6, .int 0), (5, .int 0), (4, .int 0), (3, .int r3.2), (0, .ref (g.1 o0)), (1, .int x1), (2, .int x2)]) dX11_judge_71 (by decide) rfl ?_
  exact z_sub [4, 5, 6, 2, 1, 0] rfl (b_X11_judge_73 C hr hk FU (zI (zI r3.1 o0 43 0) o0 44 0) o0 x1 x2 0 0 0 ho0 hf)
def f_X11_judge_33  (z : St) (o0 : Nat) (x1 : Int32) (x2 : Int32) : Option (St × Int64) :=
  ((f_X11_isOrder z o0 x1).bind fun r1 => if r1.2 = 0 then f_X11_judge_41 r1.1 else f_X11_judge_45 r1.1 o0 x1 x2)
theorem b_X11_judge_33 {p : Program} {l : Launch} {e : Env} {s : State} {m : MethodId} {args : Array Value} {below : List Frame} {meth : Method} {c : Code} {g : Ga} {A : Nat → Prop} (C : Cx l g A p s m args c cX11_judge 9 RX11 (rm_X11_judge) (0, 0)) (hr : meth.sig.returnType = (some .long)) (hk : meth.locks = false)   (z : St) (o0 : Nat) (x1 : Int32) (x2 : Int32) (ho0 : kd o0 = 11) {res : St × Int64} (hf : f_X11_judge_33  z o0 x1 x2 = some res) : Zj p l e (rm_X11_judge) s m args below meth c g A 9 (0, 0) (QJ g A below args s res) z 33 [(0, .ref (g.1 o0)), (1, .int x1), (2, .int x2)] [] := by
  unfold f_X11_judge_33 at hf
  refine z_aload_n C dX11_judge_33 rfl 0 rfl ?_
  refine z_iload_n C dX11_judge_34 rfl 1 rfl ?_
  obtain ⟨r1, hc2, hf⟩ := q_bd hf
  refine z_cVi C (st := []) (c_X11_isOrder ho0 hc2) mw_X11_isOrder ml_X11_309 ho0 (by decide) rfl dX11_judge_35 rfl rfl rfl ⟨Nat.le_of_ble_eq_true rfl, Nat.le_of_ble_eq_true rfl⟩ rfl (Nat.le_of_ble_eq_true rfl) ?_
  exact z_if_ne C dX11_judge_38 (by decide) (fun h => z_sub [0, 1, 2] rfl (b_X11_judge_45 C hr hk r1.1 o0 x1 x2 ho0 (q_f hf h))) (fun h => z_sub [] rfl (b_X11_judge_41 C hr hk r1.1 (q_t hf h)))
def f_X11_judge_20  (z : St) (o0 : Nat) (x1 : Int32) (x2 : Int32) : Option (St × Int64) :=
  if inb x1 4 = true then (if 0 ≤ (z.1 (rf o0 54) (Int32.toNatClampNeg x1)) then f_X11_judge_33 z o0 x1 x2 else f_X11_judge_29 z) else none
theorem b_X11_judge_20 {p : Program} {l : Launch} {e : Env} {s : State} {m : MethodId} {args : Array Value} {below : List Frame} {meth : Method} {c : Code} {g : Ga} {A : Nat → Prop} (C : Cx l g A p s m args c cX11_judge 9 RX11 (rm_X11_judge) (0, 0)) (hr : meth.sig.returnType = (some .long)) (hk : meth.locks = false)   (z : St) (o0 : Nat) (x1 : Int32) (x2 : Int32) (ho0 : kd o0 = 11) {res : St × Int64} (hf : f_X11_judge_20  z o0 x1 x2 = some res) : Zj p l e (rm_X11_judge) s m args below meth c g A 9 (0, 0) (QJ g A below args s res) z 20 [(0, .ref (g.1 o0)), (1, .int x1), (2, .int x2)] [] := by
  unfold f_X11_judge_20 at hf
  refine z_aload_n C dX11_judge_20 rfl 0 rfl ?_
  refine gf_X11_95 C dX11_judge_21 ho0 ?_
  refine z_iload_n C dX11_judge_24 rfl 1 rfl ?_
  obtain ⟨h1, hf⟩ := q_ck hf
  refine z_iald C (n := 4) dX11_judge_25 (rt_11_54 _ (kd_lt ho0 (by decide)) ho0) (by decide) h1 ?_
  exact z_if_ge C dX11_judge_26 (by decide) (fun h => z_sub [0, 1, 2] rfl (b_X11_judge_33 C hr hk z o0 x1 x2 ho0 (q_t hf h))) (fun h => z_sub [] rfl (b_X11_judge_29 C hr hk z (q_f hf h)))
def f_X11_judge_7  (z : St) (o0 : Nat) (x1 : Int32) (x2 : Int32) : Option (St × Int64) :=
  ((f_X11_in z x2 0 3).bind fun r1 => if r1.2 = 0 then f_X11_judge_16 r1.1 else f_X11_judge_20 r1.1 o0 x1 x2)
theorem b_X11_judge_7 {p : Program} {l : Launch} {e : Env} {s : State} {m : MethodId} {args : Array Value} {below : List Frame} {meth : Method} {c : Code} {g : Ga} {A : Nat → Prop} (C : Cx l g A p s m args c cX11_judge 9 RX11 (rm_X11_judge) (0, 0)) (hr : meth.sig.returnType = (some .long)) (hk : meth.locks = false)   (z : St) (o0 : Nat) (x1 : Int32) (x2 : Int32) (ho0 : kd o0 = 11) {res : St × Int64} (hf : f_X11_judge_7  z o0 x1 x2 = some res) : Zj p l e (rm_X11_judge) s m args below meth c g A 9 (0, 0) (QJ g A below args s res) z 7 [(0, .ref (g.1 o0)), (1, .int x1), (2, .int x2)] [] := by
  unfold f_X11_judge_7 at hf
  refine z_iload_n C dX11_judge_7 rfl 2 rfl ?_
  refine z_iconst C dX11_judge_8 (v := 0) (by decide) ?_
  refine z_iconst C dX11_judge_9 (v := 3) (by decide) ?_
  obtain ⟨r1, hc2, hf⟩ := q_bd hf
  refine z_cSi C (st := []) (c_X11_in  hc2) mw_X11_in ml_X11_114 dX11_judge_10 rfl rfl rfl ⟨Nat.le_of_ble_eq_true rfl, Nat.le_of_ble_eq_true rfl⟩ rfl (Nat.le_of_ble_eq_true rfl) ?_
  exact z_if_ne C dX11_judge_13 (by decide) (fun h => z_sub [0, 1, 2] rfl (b_X11_judge_20 C hr hk r1.1 o0 x1 x2 ho0 (q_f hf h))) (fun h => z_sub [] rfl (b_X11_judge_16 C hr hk r1.1 (q_t hf h)))
def f_X11_judge_0  (z : St) (o0 : Nat) (x1 : Int32) (x2 : Int32) : Option (St × Int64) :=
  ((f_X11_isSheet z x1).bind fun r1 => if r1.2 = 0 then f_X11_judge_16 r1.1 else f_X11_judge_7 r1.1 o0 x1 x2)
theorem b_X11_judge_0 {p : Program} {l : Launch} {e : Env} {s : State} {m : MethodId} {args : Array Value} {below : List Frame} {meth : Method} {c : Code} {g : Ga} {A : Nat → Prop} (C : Cx l g A p s m args c cX11_judge 9 RX11 (rm_X11_judge) (0, 0)) (hr : meth.sig.returnType = (some .long)) (hk : meth.locks = false)   (z : St) (o0 : Nat) (x1 : Int32) (x2 : Int32) (ho0 : kd o0 = 11) {res : St × Int64} (hf : f_X11_judge_0  z o0 x1 x2 = some res) : Zj p l e (rm_X11_judge) s m args below meth c g A 9 (0, 0) (QJ g A below args s res) z 0 [(0, .ref (g.1 o0)), (1, .int x1), (2, .int x2)] [] := by
  unfold f_X11_judge_0 at hf
  refine z_iload_n C dX11_judge_0 rfl 1 rfl ?_
  obtain ⟨r1, hc2, hf⟩ := q_bd hf
  refine z_cSi C (st := []) (c_X11_isSheet  hc2) mw_X11_isSheet ml_X11_302 dX11_judge_1 rfl rfl rfl ⟨Nat.le_of_ble_eq_true rfl, Nat.le_of_ble_eq_true rfl⟩ rfl (Nat.le_of_ble_eq_true rfl) ?_
  exact z_if_eq C dX11_judge_4 (by decide) (fun h => z_sub [] rfl (b_X11_judge_16 C hr hk r1.1 (q_t hf h))) (fun h => z_sub [0, 1, 2] rfl (b_X11_judge_7 C hr hk r1.1 o0 x1 x2 ho0 (q_f hf h)))
def f_X11_judge (z : St) (o0 : Nat) (x1 : Int32) (x2 : Int32) : Option (St × Int64) := f_X11_judge_0 z o0 x1 x2
theorem c_X11_judge {l : Launch} {g : Ga} {A : Nat → Prop} {z : St} {o0 : Nat} {x1 : Int32} {x2 : Int32} (ho0 : kd o0 = 11) {res : St × Int64} (hf : f_X11_judge z o0 x1 x2 = some res) : CJ l g A yX11_judge cX11_judge 9 (some .long) rm_X11_judge [.ref (g.1 o0), .int x1, .int x2] z res :=
  e_CJ (by decide) (Nat.le_of_ble_eq_true rfl) rfl (fun p e s m args below meth c C hr hk => z_sub [0, 1, 2] rfl (b_X11_judge_0 C hr hk z o0 x1 x2 ho0 hf))
abbrev rm_X11_sheet : Room := { frames := 2, cells := 0, slots := 0, locals := 42 }
def f_X11_sheet_26  (z : St)  : Option (St × Int32) :=
  some (z, (-2))
theorem b_X11_sheet_26 {p : Program} {l : Launch} {e : Env} {s : State} {m : MethodId} {args : Array Value} {below : List Frame} {meth : Method} {c : Code} {g : Ga} {A : Nat → Prop} (C : Cx l g A p s m args c cX11_sheet 5 RX11 (rm_X11_sheet) (0, 0)) (hr : meth.sig.returnType = (some .int)) (hk : meth.locks = false)   (z : St)   {res : St × Int32} (hf : f_X11_sheet_26  z  = some res) : Zj p l e (rm_X11_sheet) s m args below meth c g A 5 (0, 0) (QI g A below args s res) z 26 [] [] := by
  unfold f_X11_sheet_26 at hf
  refine z_bipush C dX11_sheet_26 (v := (-2)) (by decide) ?_
  cases hf
  exact z_iret C hr hk dX11_sheet_28
def f_X11_sheet_37  (z : St)  : Option (St × Int32) :=
  some (z, (-14))
theorem b_X11_sheet_37 {p : Program} {l : Launch} {e : Env} {s : State} {m : MethodId} {args : Array Value} {below : List Frame} {meth : Method} {c : Code} {g : Ga} {A : Nat → Prop} (C : Cx l g A p s m args c cX11_sheet 5 RX11 (rm_X11_sheet) (0, 0)) (hr : meth.sig.returnType = (some .int)) (hk : meth.locks = false)   (z : St)   {res : St × Int32} (hf : f_X11_sheet_37  z  = some res) : Zj p l e (rm_X11_sheet) s m args below meth c g A 5 (0, 0) (QI g A below args s res) z 37 [] [] := by
  unfold f_X11_sheet_37 at hf
  refine z_bipush C dX11_sheet_37 (v := (-14)) (by decide) ?_
  cases hf
  exact z_iret C hr hk dX11_sheet_39
def f_X11_sheet_72 (K65 : St → Nat → Int32 → Int32 → Option (St × Int32)) (z : St) (o0 : Nat) (x1 : Int32) (x4 : Int32) : Option (St × Int32) :=
  if inb ((40 * x1) + x4) 160 = true then (K65 (zL z (rf o0 56) (Int32.toNatClampNeg ((40 * x1) + x4)) 0) o0 x1 (x4 + 1)) else none
theorem b_X11_sheet_72 {p : Program} {l : Launch} {e : Env} {s : State} {m : MethodId} {args : Array Value} {below : List Frame} {meth : Method} {c : Code} {g : Ga} {A : Nat → Prop} (C : Cx l g A p s m args c cX11_sheet 5 RX11 (rm_X11_sheet) (0, 0)) (hr : meth.sig.returnType = (some .int)) (hk : meth.locks = false) {K65 : St → Nat → Int32 → Int32 → Option (St × Int32)} (hK65 : ∀ (z : St) (o0 : Nat) (x1 : Int32) (x4 : Int32) (_ : kd o0 = 11) {res : St × Int32}, K65 z o0 x1 x4 = some res → Zj p l e (rm_X11_sheet) s m args below meth c g A 5 (0, 0) (QI g A below args s res) z 65 [(0, .ref (g.1 o0)), (1, .int x1), (4, .int x4)] []) (z : St) (o0 : Nat) (x1 : Int32) (x4 : Int32) (ho0 : kd o0 = 11) {res : St × Int32} (hf : f_X11_sheet_72 K65 z o0 x1 x4 = some res) : Zj p l e (rm_X11_sheet) s m args below meth c g A 5 (0, 0) (QI g A below args s res) z 72 [(0, .ref (g.1 o0)), (1, .int x1), (4, .int x4)] [] := by
  unfold f_X11_sheet_72 at hf
  refine z_aload_n C dX11_sheet_72 rfl 0 rfl ?_
  refine gf_X11_101 C dX11_sheet_73 ho0 ?_
  refine z_bipush C dX11_sheet_76 (v := 40) (by decide) ?_
  refine z_iload_n C dX11_sheet_78 rfl 1 rfl ?_
  refine z_imul C dX11_sheet_79 ?_
  refine z_iload C dX11_sheet_80 2 rfl ?_
  refine z_iadd C dX11_sheet_82 ?_
  refine z_lconst C dX11_sheet_83 (v := 0) (by decide) ?_
  obtain ⟨h1, hf⟩ := q_ck hf
  refine z_last C (n := 160) dX11_sheet_84 (rt_11_56 _ (kd_lt ho0 (by decide)) ho0) (by decide) h1 ?_
  refine z_iinc C (k := 2) (v := x4 + 1) (lv2 := [(4, .int (x4 + 1)), (0, .ref (g.1 o0)), (1, .int x1)]) dX11_sheet_85 rfl rfl (by decide) rfl ?_
  exact z_goto C dX11_sheet_88 (by decide) (z_sub [1, 2, 0] rfl (hK65 (zL z (rf o0 56) (Int32.toNatClampNeg ((40 * x1) + x4)) 0) o0 x1 (x4 + 1) ho0 hf))
def f_X11_sheet_91  (z : St)  : Option (St × Int32) :=
  some (z, 1)
theorem b_X11_sheet_91 {p : Program} {l : Launch} {e : Env} {s : State} {m : MethodId} {args : Array Value} {below : List Frame} {meth : Method} {c : Code} {g : Ga} {A : Nat → Prop} (C : Cx l g A p s m args c cX11_sheet 5 RX11 (rm_X11_sheet) (0, 0)) (hr : meth.sig.returnType = (some .int)) (hk : meth.locks = false)   (z : St)   {res : St × Int32} (hf : f_X11_sheet_91  z  = some res) : Zj p l e (rm_X11_sheet) s m args below meth c g A 5 (0, 0) (QI g A below args s res) z 91 [] [] := by
  unfold f_X11_sheet_91 at hf
  refine z_iconst C dX11_sheet_91 (v := 1) (by decide) ?_
  cases hf
  exact z_iret C hr hk dX11_sheet_92
def f_X11_sheet_65  : Nat → St → Nat → Int32 → Int32 → Option (St × Int32)
  | 0, _, _, _, _ => none
  | n + 1, z, o0, x1, x4 => if 40 ≤ x4 then f_X11_sheet_91 z else f_X11_sheet_72 (f_X11_sheet_65 n) z o0 x1 x4
theorem b_X11_sheet_65 {p : Program} {l : Launch} {e : Env} {s : State} {m : MethodId} {args : Array Value} {below : List Frame} {meth : Method} {c : Code} {g : Ga} {A : Nat → Prop} (C : Cx l g A p s m args c cX11_sheet 5 RX11 (rm_X11_sheet) (0, 0)) (hr : meth.sig.returnType = (some .int)) (hk : meth.locks = false)   : ∀ (n : Nat) (z : St) (o0 : Nat) (x1 : Int32) (x4 : Int32) (_ : kd o0 = 11) {res : St × Int32} (_ : f_X11_sheet_65  n z o0 x1 x4 = some res), Zj p l e (rm_X11_sheet) s m args below meth c g A 5 (0, 0) (QI g A below args s res) z 65 [(0, .ref (g.1 o0)), (1, .int x1), (4, .int x4)] [] := by
  intro n
  induction n with
  | zero =>
    intro z o0 x1 x4 ho0 res hf
    cases hf
  | succ n ih =>
    intro z o0 x1 x4 ho0 res hf
    rw [f_X11_sheet_65] at hf
    refine z_iload C dX11_sheet_65 2 rfl ?_
    refine z_bipush C dX11_sheet_67 (v := 40) (by decide) ?_
    exact z_icmp_ge C dX11_sheet_69 (by decide) (fun h => z_sub [] rfl (b_X11_sheet_91 C hr hk z (q_t hf h))) (fun h => z_sub [0, 1, 2] rfl (b_X11_sheet_72 C hr hk ih z o0 x1 x4 ho0 (q_f hf h)))
def f_X11_sheet_61  (z : St) (o0 : Nat) (x1 : Int32) (s0 : Nat) (s1 : Int32) (s2 : Int32) : Option (St × Int32) :=
  if inb s1 4 = true then (f_X11_sheet_65 FU (zI z s0 (Int32.toNatClampNeg s1) s2) o0 x1 0) else none
theorem b_X11_sheet_61 {p : Program} {l : Launch} {e : Env} {s : State} {m : MethodId} {args : Array Value} {below : List Frame} {meth : Method} {c : Code} {g : Ga} {A : Nat → Prop} (C : Cx l g A p s m args c cX11_sheet 5 RX11 (rm_X11_sheet) (0, 0)) (hr : meth.sig.returnType = (some .int)) (hk : meth.locks = false)   (z : St) (o0 : Nat) (x1 : Int32) (s0 : Nat) (s1 : Int32) (s2 : Int32) (ho0 : kd o0 = 11) (hs0 : kd s0 = 1004) {res : St × Int32} (hf : f_X11_sheet_61  z o0 x1 s0 s1 s2 = some res) : Zj p l e (rm_X11_sheet) s m args below meth c g A 5 (0, 0) (QI g A below args s res) z 61 [(0, .ref (g.1 o0)), (1, .int x1)] [.int s2, .int s1, .ref (g.1 s0)] := by
  unfold f_X11_sheet_61 at hf
  obtain ⟨h1, hf⟩ := q_ck hf
  refine z_iast C (n := 4) dX11_sheet_61 hs0 (by decide) h1 ?_
  refine z_iconst C dX11_sheet_62 (v := 0) (by decide) ?_
  refine z_istore C (lv2 := [(4, .int 0), (0, .ref (g.1 o0)), (1, .int x1)]) dX11_sheet_63 (by decide) rfl ?_
  exact z_sub [1, 2, 0] rfl (b_X11_sheet_65 C hr hk FU (zI z s0 (Int32.toNatClampNeg s1) s2) o0 x1 0 ho0 hf)
def f_X11_sheet_56  (z : St) (o0 : Nat) (x1 : Int32) (s0 : Nat) (s1 : Int32) : Option (St × Int32) :=
  f_X11_sheet_61 z o0 x1 s0 s1 0
theorem b_X11_sheet_56 {p : Program} {l : Launch} {e : Env} {s : State} {m : MethodId} {args : Array Value} {below : List Frame} {meth : Method} {c : Code} {g : Ga} {A : Nat → Prop} (C : Cx l g A p s m args c cX11_sheet 5 RX11 (rm_X11_sheet) (0, 0)) (hr : meth.sig.returnType = (some .int)) (hk : meth.locks = false)   (z : St) (o0 : Nat) (x1 : Int32) (s0 : Nat) (s1 : Int32) (ho0 : kd o0 = 11) (hs0 : kd s0 = 1004) {res : St × Int32} (hf : f_X11_sheet_56  z o0 x1 s0 s1 = some res) : Zj p l e (rm_X11_sheet) s m args below meth c g A 5 (0, 0) (QI g A below args s res) z 56 [(0, .ref (g.1 o0)), (1, .int x1)] [.int s1, .ref (g.1 s0)] := by
  unfold f_X11_sheet_56 at hf
  refine z_iconst C dX11_sheet_56 (v := 0) (by decide) ?_
  exact z_goto C dX11_sheet_57 (by decide) (z_sub [0, 1] rfl (b_X11_sheet_61 C hr hk z o0 x1 s0 s1 0 ho0 hs0 hf))
def f_X11_sheet_60  (z : St) (o0 : Nat) (x1 : Int32) (x3 : Int32) (s0 : Nat) (s1 : Int32) : Option (St × Int32) :=
  f_X11_sheet_61 z o0 x1 s0 s1 x3
theorem b_X11_sheet_60 {p : Program} {l : Launch} {e : Env} {s : State} {m : MethodId} {args : Array Value} {below : List Frame} {meth : Method} {c : Code} {g : Ga} {A : Nat → Prop} (C : Cx l g A p s m args c cX11_sheet 5 RX11 (rm_X11_sheet) (0, 0)) (hr : meth.sig.returnType = (some .int)) (hk : meth.locks = false)   (z : St) (o0 : Nat) (x1 : Int32) (x3 : Int32) (s0 : Nat) (s1 : Int32) (ho0 : kd o0 = 11) (hs0 : kd s0 = 1004) {res : St × Int32} (hf : f_X11_sheet_60  z o0 x1 x3 s0 s1 = some res) : Zj p l e (rm_X11_sheet) s m args below meth c g A 5 (0, 0) (QI g A below args s res) z 60 [(0, .ref (g.1 o0)), (1, .int x1), (3, .int x3)] [.int s1, .ref (g.1 s0)] := by
  unfold f_X11_sheet_60 at hf
  refine z_iload_n C dX11_sheet_60 rfl 2 rfl ?_
  exact z_sub [0, 1] rfl (b_X11_sheet_61 C hr hk z o0 x1 s0 s1 x3 ho0 hs0 hf)
def f_X11_sheet_40  (z : St) (o0 : Nat) (x1 : Int32) (x2 : Int32) (x3 : Int32) : Option (St × Int32) :=
  if inb x1 4 = true then (if 0 ≤ x2 then f_X11_sheet_60 (zI z (rf o0 54) (Int32.toNatClampNeg x1) x2) o0 x1 x3 (rf o0 55) x1 else f_X11_sheet_56 (zI z (rf o0 54) (Int32.toNatClampNeg x1) x2) o0 x1 (rf o0 55) x1) else none
theorem b_X11_sheet_40 {p : Program} {l : Launch} {e : Env} {s : State} {m : MethodId} {args : Array Value} {below : List Frame} {meth : Method} {c : Code} {g : Ga} {A : Nat → Prop} (C : Cx l g A p s m args c cX11_sheet 5 RX11 (rm_X11_sheet) (0, 0)) (hr : meth.sig.returnType = (some .int)) (hk : meth.locks = false)   (z : St) (o0 : Nat) (x1 : Int32) (x2 : Int32) (x3 : Int32) (ho0 : kd o0 = 11) {res : St × Int32} (hf : f_X11_sheet_40  z o0 x1 x2 x3 = some res) : Zj p l e (rm_X11_sheet) s m args below meth c g A 5 (0, 0) (QI g A below args s res) z 40 [(0, .ref (g.1 o0)), (1, .int x1), (2, .int x2), (3, .int x3)] [] := by
  unfold f_X11_sheet_40 at hf
  refine z_aload_n C dX11_sheet_40 rfl 0 rfl ?_
  refine gf_X11_95 C dX11_sheet_41 ho0 ?_
  refine z_iload_n C dX11_sheet_44 rfl 1 rfl ?_
  refine z_iload_n C dX11_sheet_45 rfl 2 rfl ?_
  obtain ⟨h1, hf⟩ := q_ck hf
  refine z_iast C (n := 4) dX11_sheet_46 (rt_11_54 _ (kd_lt ho0 (by decide)) ho0) (by decide) h1 ?_
  refine z_aload_n C dX11_sheet_47 rfl 0 rfl ?_
  refine gf_X11_98 C dX11_sheet_48 ho0 ?_
  refine z_iload_n C dX11_sheet_51 rfl 1 rfl ?_
  refine z_iload_n C dX11_sheet_52 rfl 2 rfl ?_
  exact z_if_ge C dX11_sheet_53 (by decide) (fun h => z_sub [0, 1, 3] rfl (b_X11_sheet_60 C hr hk (zI z (rf o0 54) (Int32.toNatClampNeg x1) x2) o0 x1 x3 (rf o0 55) x1 ho0 (rt_11_55 _ (kd_lt ho0 (by decide)) ho0) (q_t hf h))) (fun h => z_sub [0, 1] rfl (b_X11_sheet_56 C hr hk (zI z (rf o0 54) (Int32.toNatClampNeg x1) x2) o0 x1 (rf o0 55) x1 ho0 (rt_11_55 _ (kd_lt ho0 (by decide)) ho0) (q_f hf h)))
def f_X11_sheet_33  (z : St) (o0 : Nat) (x1 : Int32) (x2 : Int32) (x3 : Int32) : Option (St × Int32) :=
  if 0 ≤ x3 then f_X11_sheet_40 z o0 x1 x2 x3 else f_X11_sheet_37 z
theorem b_X11_sheet_33 {p : Program} {l : Launch} {e : Env} {s : State} {m : MethodId} {args : Array Value} {below : List Frame} {meth : Method} {c : Code} {g : Ga} {A : Nat → Prop} (C : Cx l g A p s m args c cX11_sheet 5 RX11 (rm_X11_sheet) (0, 0)) (hr : meth.sig.returnType = (some .int)) (hk : meth.locks = false)   (z : St) (o0 : Nat) (x1 : Int32) (x2 : Int32) (x3 : Int32) (ho0 : kd o0 = 11) {res : St × Int32} (hf : f_X11_sheet_33  z o0 x1 x2 x3 = some res) : Zj p l e (rm_X11_sheet) s m args below meth c g A 5 (0, 0) (QI g A below args s res) z 33 [(0, .ref (g.1 o0)), (1, .int x1), (2, .int x2), (3, .int x3)] [] := by
  unfold f_X11_sheet_33 at hf
  refine z_iload_n C dX11_sheet_33 rfl 3 rfl ?_
  exact z_if_ge C dX11_sheet_34 (by decide) (fun h => z_sub [0, 1, 2, 3] rfl (b_X11_sheet_40 C hr hk z o0 x1 x2 x3 ho0 (q_t hf h))) (fun h => z_sub [] rfl (b_X11_sheet_37 C hr hk z (q_f hf h)))
def f_X11_sheet_29  (z : St) (o0 : Nat) (x1 : Int32) (x2 : Int32) (x3 : Int32) : Option (St × Int32) :=
  if x2 < 0 then f_X11_sheet_40 z o0 x1 x2 x3 else f_X11_sheet_33 z o0 x1 x2 x3
theorem b_X11_sheet_29 {p : Program} {l : Launch} {e : Env} {s : State} {m : MethodId} {args : Array Value} {below : List Frame} {meth : Method} {c : Code} {g : Ga} {A : Nat → Prop} (C : Cx l g A p s m args c cX11_sheet 5 RX11 (rm_X11_sheet) (0, 0)) (hr : meth.sig.returnType = (some .int)) (hk : meth.locks = false)   (z : St) (o0 : Nat) (x1 : Int32) (x2 : Int32) (x3 : Int32) (ho0 : kd o0 = 11) {res : St × Int32} (hf : f_X11_sheet_29  z o0 x1 x2 x3 = some res) : Zj p l e (rm_X11_sheet) s m args below meth c g A 5 (0, 0) (QI g A below args s res) z 29 [(0, .ref (g.1 o0)), (1, .int x1), (2, .int x2), (3, .int x3)] [] := by
  unfold f_X11_sheet_29 at hf
  refine z_iload_n C dX11_sheet_29 rfl 2 rfl ?_
  exact z_if_lt C dX11_sheet_30 (by decide) (fun h => z_sub [0, 1, 2, 3] rfl (b_X11_sheet_40 C hr hk z o0 x1 x2 x3 ho0 (q_t hf h))) (fun h => z_sub [0, 1, 2, 3] rfl (b_X11_sheet_33 C hr hk z o0 x1 x2 x3 ho0 (q_f hf h)))
def f_X11_sheet_20  (z : St) (o0 : Nat) (x1 : Int32) (x2 : Int32) (x3 : Int32) : Option (St × Int32) :=
  if x3 ≤ 40 then f_X11_sheet_29 z o0 x1 x2 x3 else f_X11_sheet_26 z
theorem b_X11_sheet_20 {p : Program} {l : Launch} {e : Env} {s : State} {m : MethodId} {args : Array Value} {below : List Frame} {meth : Method} {c : Code} {g : Ga} {A : Nat → Prop} (C : Cx l g A p s m args c cX11_sheet 5 RX11 (rm_X11_sheet) (0, 0)) (hr : meth.sig.returnType = (some .int)) (hk : meth.locks = false)   (z : St) (o0 : Nat) (x1 : Int32) (x2 : Int32) (x3 : Int32) (ho0 : kd o0 = 11) {res : St × Int32} (hf : f_X11_sheet_20  z o0 x1 x2 x3 = some res) : Zj p l e (rm_X11_sheet) s m args below meth c g A 5 (0, 0) (QI g A below args s res) z 20 [(0, .ref (g.1 o0)), (1, .int x1), (2, .int x2), (3, .int x3)] [] := by
  unfold f_X11_sheet_20 at hf
  refine z_iload_n C dX11_sheet_20 rfl 3 rfl ?_
  refine z_bipush C dX11_sheet_21 (v := 40) (by decide) ?_
  exact z_icmp_le C dX11_sheet_23 (by decide) (fun h => z_sub [0, 1, 2, 3] rfl (b_X11_sheet_29 C hr hk z o0 x1 x2 x3 ho0 (q_t hf h))) (fun h => z_sub [] rfl (b_X11_sheet_26 C hr hk z (q_f hf h)))
def f_X11_sheet_16  (z : St) (o0 : Nat) (x1 : Int32) (x2 : Int32) (x3 : Int32) : Option (St × Int32) :=
  if x2 < 0 then f_X11_sheet_29 z o0 x1 x2 x3 else f_X11_sheet_20 z o0 x1 x2 x3
theorem b_X11_sheet_16 {p : Program} {l : Launch} {e : Env} {s : State} {m : MethodId} {args : Array Value} {below : List Frame} {meth : Method} {c : Code} {g : Ga} {A : Nat → Prop} (C : Cx l g A p s m args c cX11_sheet 5 RX11 (rm_X11_sheet) (0, 0)) (hr : meth.sig.returnType = (some .int)) (hk : meth.locks = false)   (z : St) (o0 : Nat) (x1 : Int32) (x2 : Int32) (x3 : Int32) (ho0 : kd o0 = 11) {res : St × Int32} (hf : f_X11_sheet_16  z o0 x1 x2 x3 = some res) : Zj p l e (rm_X11_sheet) s m args below meth c g A 5 (0, 0) (QI g A below args s res) z 16 [(0, .ref (g.1 o0)), (1, .int x1), (2, .int x2), (3, .int x3)] [] := by
  unfold f_X11_sheet_16 at hf
  refine z_iload_n C dX11_sheet_16 rfl 2 rfl ?_
  exact z_if_lt C dX11_sheet_17 (by decide) (fun h => z_sub [0, 1, 2, 3] rfl (b_X11_sheet_29 C hr hk z o0 x1 x2 x3 ho0 (q_t hf h))) (fun h => z_sub [0, 1, 2, 3] rfl (b_X11_sheet_20 C hr hk z o0 x1 x2 x3 ho0 (q_f hf h)))
def f_X11_sheet_7  (z : St) (o0 : Nat) (x1 : Int32) (x2 : Int32) (x3 : Int32) : Option (St × Int32) :=
  ((f_X11_in z x2 ((-1)) 1).bind fun r1 => if r1.2 = 0 then f_X11_sheet_26 r1.1 else f_X11_sheet_16 r1.1 o0 x1 x2 x3)
theorem b_X11_sheet_7 {p : Program} {l : Launch} {e : Env} {s : State} {m : MethodId} {args : Array Value} {below : List Frame} {meth : Method} {c : Code} {g : Ga} {A : Nat → Prop} (C : Cx l g A p s m args c cX11_sheet 5 RX11 (rm_X11_sheet) (0, 0)) (hr : meth.sig.returnType = (some .int)) (hk : meth.locks = false)   (z : St) (o0 : Nat) (x1 : Int32) (x2 : Int32) (x3 : Int32) (ho0 : kd o0 = 11) {res : St × Int32} (hf : f_X11_sheet_7  z o0 x1 x2 x3 = some res) : Zj p l e (rm_X11_sheet) s m args below meth c g A 5 (0, 0) (QI g A below args s res) z 7 [(0, .ref (g.1 o0)), (1, .int x1), (2, .int x2), (3, .int x3)] [] := by
  unfold f_X11_sheet_7 at hf
  refine z_iload_n C dX11_sheet_7 rfl 2 rfl ?_
  refine z_iconst C dX11_sheet_8 (v := (-1)) (by decide) ?_
  refine z_iconst C dX11_sheet_9 (v := 1) (by decide) ?_
  obtain ⟨r1, hc2, hf⟩ := q_bd hf
  refine z_cSi C (st := []) (c_X11_in  hc2) mw_X11_in ml_X11_114 dX11_sheet_10 rfl rfl rfl ⟨Nat.le_of_ble_eq_true rfl, Nat.le_of_ble_eq_true rfl⟩ rfl (Nat.le_of_ble_eq_true rfl) ?_
  exact z_if_eq C dX11_sheet_13 (by decide) (fun h => z_sub [] rfl (b_X11_sheet_26 C hr hk r1.1 (q_t hf h))) (fun h => z_sub [0, 1, 2, 3] rfl (b_X11_sheet_16 C hr hk r1.1 o0 x1 x2 x3 ho0 (q_f hf h)))
def f_X11_sheet_0  (z : St) (o0 : Nat) (x1 : Int32) (x2 : Int32) (x3 : Int32) : Option (St × Int32) :=
  ((f_X11_isSheet z x1).bind fun r1 => if r1.2 = 0 then f_X11_sheet_26 r1.1 else f_X11_sheet_7 r1.1 o0 x1 x2 x3)
theorem b_X11_sheet_0 {p : Program} {l : Launch} {e : Env} {s : State} {m : MethodId} {args : Array Value} {below : List Frame} {meth : Method} {c : Code} {g : Ga} {A : Nat → Prop} (C : Cx l g A p s m args c cX11_sheet 5 RX11 (rm_X11_sheet) (0, 0)) (hr : meth.sig.returnType = (some .int)) (hk : meth.locks = false)   (z : St) (o0 : Nat) (x1 : Int32) (x2 : Int32) (x3 : Int32) (ho0 : kd o0 = 11) {res : St × Int32} (hf : f_X11_sheet_0  z o0 x1 x2 x3 = some res) : Zj p l e (rm_X11_sheet) s m args below meth c g A 5 (0, 0) (QI g A below args s res) z 0 [(0, .ref (g.1 o0)), (1, .int x1), (2, .int x2), (3, .int x3)] [] := by
  unfold f_X11_sheet_0 at hf
  refine z_iload_n C dX11_sheet_0 rfl 1 rfl ?_
  obtain ⟨r1, hc2, hf⟩ := q_bd hf
  refine z_cSi C (st := []) (c_X11_isSheet  hc2) mw_X11_isSheet ml_X11_302 dX11_sheet_1 rfl rfl rfl ⟨Nat.le_of_ble_eq_true rfl, Nat.le_of_ble_eq_true rfl⟩ rfl (Nat.le_of_ble_eq_true rfl) ?_
  exact z_if_eq C dX11_sheet_4 (by decide) (fun h => z_sub [] rfl (b_X11_sheet_26 C hr hk r1.1 (q_t hf h))) (fun h => z_sub [0, 1, 2, 3] rfl (b_X11_sheet_7 C hr hk r1.1 o0 x1 x2 x3 ho0 (q_f hf h)))
def f_X11_sheet (z : St) (o0 : Nat) (x1 : Int32) (x2 : Int32) (x3 : Int32) : Option (St × Int32) := f_X11_sheet_0 z o0 x1 x2 x3
theorem c_X11_sheet {l : Launch} {g : Ga} {A : Nat → Prop} {z : St} {o0 : Nat} {x1 : Int32} {x2 : Int32} {x3 : Int32} (ho0 : kd o0 = 11) {res : St × Int32} (hf : f_X11_sheet z o0 x1 x2 x3 = some res) : CI l g A yX11_sheet cX11_sheet 5 (some .int) rm_X11_sheet [.ref (g.1 o0), .int x1, .int x2, .int x3] z res :=
  e_CI (by decide) (Nat.le_of_ble_eq_true rfl) rfl (fun p e s m args below meth c C hr hk => z_sub [0, 1, 2, 3] rfl (b_X11_sheet_0 C hr hk z o0 x1 x2 x3 ho0 hf))
abbrev rm_X11_film : Room := { frames := 6, cells := 0, slots := 0, locals := 140 }
def f_X11_film_7  (z : St)  : Option (St × Int32) :=
  some (z, (-2))
theorem b_X11_film_7 {p : Program} {l : Launch} {e : Env} {s : State} {m : MethodId} {args : Array Value} {below : List Frame} {meth : Method} {c : Code} {g : Ga} {A : Nat → Prop} (C : Cx l g A p s m args c cX11_film 3 RX11 (rm_X11_film) (0, 0)) (hr : meth.sig.returnType = (some .int)) (hk : meth.locks = false)   (z : St)   {res : St × Int32} (hf : f_X11_film_7  z  = some res) : Zj p l e (rm_X11_film) s m args below meth c g A 3 (0, 0) (QI g A below args s res) z 7 [] [] := by
  unfold f_X11_film_7 at hf
  refine z_bipush C dX11_film_7 (v := (-2)) (by decide) ?_
  cases hf
  exact z_iret C hr hk dX11_film_9
def f_X11_film_35 (K27 : St → Nat → Int32 → Int32 → Option (St × Int32)) (z : St) (o0 : Nat) (x1 : Int32) (x2 : Int32) : Option (St × Int32) :=
  if inb x2 8 = true then (if inb ((40 * x1) + x2) 160 = true then (K27 (zL z (rf o0 56) (Int32.toNatClampNeg ((40 * x1) + x2)) (Int32.toInt64 (z.1 (rf o0 42) (Int32.toNatClampNeg x2)))) o0 x1 (x2 + 1)) else none) else none
theorem b_X11_film_35 {p : Program} {l : Launch} {e : Env} {s : State} {m : MethodId} {args : Array Value} {below : List Frame} {meth : Method} {c : Code} {g : Ga} {A : Nat → Prop} (C : Cx l g A p s m args c cX11_film 3 RX11 (rm_X11_film) (0, 0)) (hr : meth.sig.returnType = (some .int)) (hk : meth.locks = false) {K27 : St → Nat → Int32 → Int32 → Option (St × Int32)} (hK27 : ∀ (z : St) (o0 : Nat) (x1 : Int32) (x2 : Int32) (_ : kd o0 = 11) {res : St × Int32}, K27 z o0 x1 x2 = some res → Zj p l e (rm_X11_film) s m args below meth c g A 3 (0, 0) (QI g A below args s res) z 27 [(0, .ref (g.1 o0)), (1, .int x1), (2, .int x2)] []) (z : St) (o0 : Nat) (x1 : Int32) (x2 : Int32) (ho0 : kd o0 = 11) {res : St × Int32} (hf : f_X11_film_35 K27 z o0 x1 x2 = some res) : Zj p l e (rm_X11_film) s m args below meth c g A 3 (0, 0) (QI g A below args s res) z 35 [(0, .ref (g.1 o0)), (1, .int x1), (2, .int x2)] [] := by
  unfold f_X11_film_35 at hf
  refine z_aload_n C dX11_film_35 rfl 0 rfl ?_
  refine gf_X11_101 C dX11_film_36 ho0 ?_
  refine z_bipush C dX11_film_39 (v := 40) (by decide) ?_
  refine z_iload_n C dX11_film_41 rfl 1 rfl ?_
  refine z_imul C dX11_film_42 ?_
  refine z_iload_n C dX11_film_43 rfl 2 rfl ?_
  refine z_iadd C dX11_film_44 ?_
  refine z_aload_n C dX11_film_45 rfl 0 rfl ?_
  refine gf_X11_82 C dX11_film_46 ho0 ?_
  refine z_iload_n C dX11_film_49 rfl 2 rfl ?_
  obtain ⟨h1, hf⟩ := q_ck hf
  refine z_iald C (n := 8) dX11_film_50 (rt_11_42 _ (kd_lt ho0 (by decide)) ho0) (by decide) h1 ?_
  refine z_i2l C dX11_film_51 ?_
  obtain ⟨h2, hf⟩ := q_ck hf
  refine z_last C (n := 160) dX11_film_52 (rt_11_56 _ (kd_lt ho0 (by decide)) ho0) (by decide) h2 ?_
  refine z_iinc C (k := 2) (v := x2 + 1) (lv2 := [(2, .int (x2 + 1)), (0, .ref (g.1 o0)), (1, .int x1)]) dX11_film_53 rfl rfl (by decide) rfl ?_
  exact z_goto C dX11_film_56 (by decide) (z_sub [1, 2, 0] rfl (hK27 (zL z (rf o0 56) (Int32.toNatClampNeg ((40 * x1) + x2)) (Int32.toInt64 (z.1 (rf o0 42) (Int32.toNatClampNeg x2)))) o0 x1 (x2 + 1) ho0 hf))
def f_X11_film_59  (z : St) (o0 : Nat) : Option (St × Int32) :=
  some (z, z.1 o0 5)
theorem b_X11_film_59 {p : Program} {l : Launch} {e : Env} {s : State} {m : MethodId} {args : Array Value} {below : List Frame} {meth : Method} {c : Code} {g : Ga} {A : Nat → Prop} (C : Cx l g A p s m args c cX11_film 3 RX11 (rm_X11_film) (0, 0)) (hr : meth.sig.returnType = (some .int)) (hk : meth.locks = false)   (z : St) (o0 : Nat) (ho0 : kd o0 = 11) {res : St × Int32} (hf : f_X11_film_59  z o0 = some res) : Zj p l e (rm_X11_film) s m args below meth c g A 3 (0, 0) (QI g A below args s res) z 59 [(0, .ref (g.1 o0))] [] := by
  unfold f_X11_film_59 at hf
  refine z_aload_n C dX11_film_59 rfl 0 rfl ?_
  refine gf_X11_111 C dX11_film_60 ho0 ?_
  cases hf
  exact z_iret C hr hk dX11_film_63
def f_X11_film_27  : Nat → St → Nat → Int32 → Int32 → Option (St × Int32)
  | 0, _, _, _, _ => none
  | n + 1, z, o0, x1, x2 => if (z.1 o0 5) ≤ x2 then f_X11_film_59 z o0 else f_X11_film_35 (f_X11_film_27 n) z o0 x1 x2
theorem b_X11_film_27 {p : Program} {l : Launch} {e : Env} {s : State} {m : MethodId} {args : Array Value} {below : List Frame} {meth : Method} {c : Code} {g : Ga} {A : Nat → Prop} (C : Cx l g A p s m args c cX11_film 3 RX11 (rm_X11_film) (0, 0)) (hr : meth.sig.returnType = (some .int)) (hk : meth.locks = false)   : ∀ (n : Nat) (z : St) (o0 : Nat) (x1 : Int32) (x2 : Int32) (_ : kd o0 = 11) {res : St × Int32} (_ : f_X11_film_27  n z o0 x1 x2 = some res), Zj p l e (rm_X11_film) s m args below meth c g A 3 (0, 0) (QI g A below args s res) z 27 [(0, .ref (g.1 o0)), (1, .int x1), (2, .int x2)] [] := by
  intro n
  induction n with
  | zero =>
    intro z o0 x1 x2 ho0 res hf
    cases hf
  | succ n ih =>
    intro z o0 x1 x2 ho0 res hf
    rw [f_X11_film_27] at hf
    refine z_iload_n C dX11_film_27 rfl 2 rfl ?_
    refine z_aload_n C dX11_film_28 rfl 0 rfl ?_
    refine gf_X11_111 C dX11_film_29 ho0 ?_
    exact z_icmp_ge C dX11_film_32 (by decide) (fun h => z_sub [0] rfl (b_X11_film_59 C hr hk z o0 ho0 (q_t hf h))) (fun h => z_sub [0, 1, 2] rfl (b_X11_film_35 C hr hk ih z o0 x1 x2 ho0 (q_f hf h)))
def f_X11_film_10  (z : St) (o0 : Nat) (x1 : Int32) : Option (St × Int32) :=
  ((f_X11_sheet z o0 x1 0 (z.1 o0 5)).bind fun r1 => ((f_X11_firstOrder r1.1 o0).bind fun r3 => f_X11_film_27 FU r3 o0 x1 0))
theorem b_X11_film_10 {p : Program} {l : Launch} {e : Env} {s : State} {m : MethodId} {args : Array Value} {below : List Frame} {meth : Method} {c : Code} {g : Ga} {A : Nat → Prop} (C : Cx l g A p s m args c cX11_film 3 RX11 (rm_X11_film) (0, 0)) (hr : meth.sig.returnType = (some .int)) (hk : meth.locks = false)   (z : St) (o0 : Nat) (x1 : Int32) (ho0 : kd o0 = 11) {res : St × Int32} (hf : f_X11_film_10  z o0 x1 = some res) : Zj p l e (rm_X11_film) s m args below meth c g A 3 (0, 0) (QI g A below args s res) z 10 [(0, .ref (g.1 o0)), (1, .int x1)] [] := by
  unfold f_X11_film_10 at hf
  refine z_aload_n C dX11_film_10 rfl 0 rfl ?_
  refine z_iload_n C dX11_film_11 rfl 1 rfl ?_
  refine z_iconst C dX11_film_12 (v := 0) (by decide) ?_
  refine z_aload_n C dX11_film_13 rfl 0 rfl ?_
  refine gf_X11_111 C dX11_film_14 ho0 ?_
  obtain ⟨r1, hc2, hf⟩ := q_bd hf
  refine z_cVi C (st := []) (c_X11_sheet ho0 hc2) mw_X11_sheet ml_X11_320 ho0 (by decide) rfl dX11_film_17 rfl rfl rfl ⟨Nat.le_of_ble_eq_true rfl, Nat.le_of_ble_eq_true rfl⟩ rfl (Nat.le_of_ble_eq_true rfl) ?_
  refine z_pop C dX11_film_20 rfl ?_
  refine z_aload_n C dX11_film_21 rfl 0 rfl ?_
  obtain ⟨r3, hc4, hf⟩ := q_bd hf
  refine z_cVv C (st := []) (c_X11_firstOrder ho0 hc4) mw_X11_firstOrder ml_X11_296 ho0 (by decide) rfl dX11_film_22 rfl rfl rfl ⟨Nat.le_of_ble_eq_true rfl, Nat.le_of_ble_eq_true rfl⟩ rfl (Nat.le_of_ble_eq_true rfl) ?_
  refine z_iconst C dX11_film_25 (v := 0) (by decide) ?_
  refine z_istore_n C (lv2 := [(2, .int 0), (0, .ref (g.1 o0)), (1, .int x1)]) dX11_film_26 rfl (by decide) rfl ?_
  exact z_sub [1, 2, 0] rfl (b_X11_film_27 C hr hk FU r3 o0 x1 0 ho0 hf)
def f_X11_film_0  (z : St) (o0 : Nat) (x1 : Int32) : Option (St × Int32) :=
  ((f_X11_isSheet z x1).bind fun r1 => if r1.2 = 0 then f_X11_film_7 r1.1 else f_X11_film_10 r1.1 o0 x1)
theorem b_X11_film_0 {p : Program} {l : Launch} {e : Env} {s : State} {m : MethodId} {args : Array Value} {below : List Frame} {meth : Method} {c : Code} {g : Ga} {A : Nat → Prop} (C : Cx l g A p s m args c cX11_film 3 RX11 (rm_X11_film) (0, 0)) (hr : meth.sig.returnType = (some .int)) (hk : meth.locks = false)   (z : St) (o0 : Nat) (x1 : Int32) (ho0 : kd o0 = 11) {res : St × Int32} (hf : f_X11_film_0  z o0 x1 = some res) : Zj p l e (rm_X11_film) s m args below meth c g A 3 (0, 0) (QI g A below args s res) z 0 [(0, .ref (g.1 o0)), (1, .int x1)] [] := by
  unfold f_X11_film_0 at hf
  refine z_iload_n C dX11_film_0 rfl 1 rfl ?_
  obtain ⟨r1, hc2, hf⟩ := q_bd hf
  refine z_cSi C (st := []) (c_X11_isSheet  hc2) mw_X11_isSheet ml_X11_302 dX11_film_1 rfl rfl rfl ⟨Nat.le_of_ble_eq_true rfl, Nat.le_of_ble_eq_true rfl⟩ rfl (Nat.le_of_ble_eq_true rfl) ?_
  exact z_if_ne C dX11_film_4 (by decide) (fun h => z_sub [0, 1] rfl (b_X11_film_10 C hr hk r1.1 o0 x1 ho0 (q_f hf h))) (fun h => z_sub [] rfl (b_X11_film_7 C hr hk r1.1 (q_t hf h)))
def f_X11_film (z : St) (o0 : Nat) (x1 : Int32) : Option (St × Int32) := f_X11_film_0 z o0 x1
theorem c_X11_film {l : Launch} {g : Ga} {A : Nat → Prop} {z : St} {o0 : Nat} {x1 : Int32} (ho0 : kd o0 = 11) {res : St × Int32} (hf : f_X11_film z o0 x1 = some res) : CI l g A yX11_film cX11_film 3 (some .int) rm_X11_film [.ref (g.1 o0), .int x1] z res :=
  e_CI (by decide) (Nat.le_of_ble_eq_true rfl) rfl (fun p e s m args below meth c C hr hk => z_sub [0, 1] rfl (b_X11_film_0 C hr hk z o0 x1 ho0 hf))
abbrev rm_X11_draws : Room := { frames := 4, cells := 0, slots := 0, locals := 85 }
def f_X11_draws_18 (K9 : St → Nat → Int32 → Int32 → Int32 → Option (St)) (z : St) (o0 : Nat) (x2 : Int32) (x3 : Int32) (x4 : Int32) : Option (St) :=
  if inb x4 8 = true then (if decide ((x2 + 1) ≠ 0) = true then (if inb x4 8 = true then (K9 (zI z (rf o0 13) (Int32.toNatClampNeg x4) ((z.1 (rf o0 13) (Int32.toNatClampNeg x4)) + ((ius ((x3 * 1103515245) + 12345) 9) - (ius ((x3 * 1103515245) + 12345) 9) / (x2 + 1) * (x2 + 1)))) o0 x2 ((x3 * 1103515245) + 12345) (x4 + 1)) else none) else none) else none
theorem b_X11_draws_18 {p : Program} {l : Launch} {e : Env} {s : State} {m : MethodId} {args : Array Value} {below : List Frame} {meth : Method} {c : Code} {g : Ga} {A : Nat → Prop} (C : Cx l g A p s m args c cX11_draws 5 RX11 (rm_X11_draws) (0, 0)) (hr : meth.sig.returnType = none) (hk : meth.locks = false) {K9 : St → Nat → Int32 → Int32 → Int32 → Option (St)} (hK9 : ∀ (z : St) (o0 : Nat) (x2 : Int32) (x3 : Int32) (x4 : Int32) (_ : kd o0 = 11) {res : St}, K9 z o0 x2 x3 x4 = some res → Zj p l e (rm_X11_draws) s m args below meth c g A 5 (0, 0) (QV g A below args s res) z 9 [(0, .ref (g.1 o0)), (2, .int x2), (3, .int x3), (4, .int x4)] []) (z : St) (o0 : Nat) (x2 : Int32) (x3 : Int32) (x4 : Int32) (ho0 : kd o0 = 11) {res : St} (hf : f_X11_draws_18 K9 z o0 x2 x3 x4 = some res) : Zj p l e (rm_X11_draws) s m args below meth c g A 5 (0, 0) (QV g A below args s res) z 18 [(0, .ref (g.1 o0)), (2, .int x2), (3, .int x3), (4, .int x4)] [] := by
  unfold f_X11_draws_18 at hf
  refine z_iload_n C dX11_draws_18 rfl 2 rfl ?_
  refine z_ldcw C dX11_draws_19 kc_X11_324 ?_
  refine z_imul C dX11_draws_22 ?_
  refine z_sipush C dX11_draws_23 (v := 12345) (by decide) ?_
  refine z_iadd C dX11_draws_26 ?_
  refine z_istore_n C (lv2 := [(3, .int ((x3 * 1103515245) + 12345)), (0, .ref (g.1 o0)), (2, .int x2), (4, .int x4)]) dX11_draws_27 rfl (by decide) rfl ?_
  refine z_aload_n C dX11_draws_28 rfl 1 rfl ?_
  refine gf_X11_28 C dX11_draws_29 ho0 ?_
  refine z_iload C dX11_draws_32 3 rfl ?_
  refine z_dup2 C dX11_draws_34 rfl rfl ?_
  obtain ⟨h1, hf⟩ := q_ck hf
  refine z_iald C (n := 8) dX11_draws_35 (rt_11_13 _ (kd_lt ho0 (by decide)) ho0) (by decide) h1 ?_
  refine z_iload_n C dX11_draws_36 rfl 0 rfl ?_
  refine z_bipush C dX11_draws_37 (v := 9) (by decide) ?_
  refine z_iushr C dX11_draws_39 ?_
  refine z_iload_n C dX11_draws_40 rfl 2 rfl ?_
  refine z_iconst C dX11_draws_41 (v := 1) (by decide) ?_
  refine z_iadd C dX11_draws_42 ?_
  obtain ⟨h2, hf⟩ := q_ck hf
  refine z_irem C dX11_draws_43 (q_nz h2) ?_
  refine z_iadd C dX11_draws_44 ?_
  obtain ⟨h3, hf⟩ := q_ck hf
  refine z_iast C (n := 8) dX11_draws_45 (rt_11_13 _ (kd_lt ho0 (by decide)) ho0) (by decide) h3 ?_
  refine z_iinc C (k := 3) (v := x4 + 1) (lv2 := [(4, .int (x4 + 1)), (3, .int ((x3 * 1103515245) + 12345)), (0, .ref (g.1 o0)), (2, .int x2)]) dX11_draws_46 rfl rfl (by decide) rfl ?_
  exact z_goto C dX11_draws_49 (by decide) (z_sub [2, 3, 1, 0] rfl (hK9 (zI z (rf o0 13) (Int32.toNatClampNeg x4) ((z.1 (rf o0 13) (Int32.toNatClampNeg x4)) + ((ius ((x3 * 1103515245) + 12345) 9) - (ius ((x3 * 1103515245) + 12345) 9) / (x2 + 1) * (x2 + 1)))) o0 x2 ((x3 * 1103515245) + 12345) (x4 + 1) ho0 hf))
def f_X11_draws_52  (z : St)  : Option (St) :=
  some z
theorem b_X11_draws_52 {p : Program} {l : Launch} {e : Env} {s : State} {m : MethodId} {args : Array Value} {below : List Frame} {meth : Method} {c : Code} {g : Ga} {A : Nat → Prop} (C : Cx l g A p s m args c cX11_draws 5 RX11 (rm_X11_draws) (0, 0)) (hr : meth.sig.returnType = none) (hk : meth.locks = false)   (z : St)   {res : St} (hf : f_X11_draws_52  z  = some res) : Zj p l e (rm_X11_draws) s m args below meth c g A 5 (0, 0) (QV g A below args s res) z 52 [] [] := by
  unfold f_X11_draws_52 at hf
  cases hf
  exact z_vret C hr hk dX11_draws_52
def f_X11_draws_9  : Nat → St → Nat → Int32 → Int32 → Int32 → Option (St)
  | 0, _, _, _, _, _ => none
  | n + 1, z, o0, x2, x3, x4 => if (z.1 o0 5) ≤ x4 then f_X11_draws_52 z else f_X11_draws_18 (f_X11_draws_9 n) z o0 x2 x3 x4
theorem b_X11_draws_9 {p : Program} {l : Launch} {e : Env} {s : State} {m : MethodId} {args : Array Value} {below : List Frame} {meth : Method} {c : Code} {g : Ga} {A : Nat → Prop} (C : Cx l g A p s m args c cX11_draws 5 RX11 (rm_X11_draws) (0, 0)) (hr : meth.sig.returnType = none) (hk : meth.locks = false)   : ∀ (n : Nat) (z : St) (o0 : Nat) (x2 : Int32) (x3 : Int32) (x4 : Int32) (_ : kd o0 = 11) {res : St} (_ : f_X11_draws_9  n z o0 x2 x3 x4 = some res), Zj p l e (rm_X11_draws) s m args below meth c g A 5 (0, 0) (QV g A below args s res) z 9 [(0, .ref (g.1 o0)), (2, .int x2), (3, .int x3), (4, .int x4)] [] := by
  intro n
  induction n with
  | zero =>
    intro z o0 x2 x3 x4 ho0 res hf
    cases hf
  | succ n ih =>
    intro z o0 x2 x3 x4 ho0 res hf
    rw [f_X11_draws_9] at hf
    refine z_iload C dX11_draws_9 3 rfl ?_
    refine z_aload_n C dX11_draws_11 rfl 0 rfl ?_
    refine gf_X11_111 C dX11_draws_12 ho0 ?_
    exact z_icmp_ge C dX11_draws_15 (by decide) (fun h => z_sub [] rfl (b_X11_draws_52 C hr hk z (q_t hf h))) (fun h => z_sub [0, 1, 2, 3] rfl (b_X11_draws_18 C hr hk ih z o0 x2 x3 x4 ho0 (q_f hf h)))
def f_X11_draws_0  (z : St) (o0 : Nat) (x1 : Int32) (x2 : Int32) : Option (St) :=
  ((f_X11_thinks z o0).bind fun r1 => f_X11_draws_9 FU r1 o0 x2 x1 0)
theorem b_X11_draws_0 {p : Program} {l : Launch} {e : Env} {s : State} {m : MethodId} {args : Array Value} {below : List Frame} {meth : Method} {c : Code} {g : Ga} {A : Nat → Prop} (C : Cx l g A p s m args c cX11_draws 5 RX11 (rm_X11_draws) (0, 0)) (hr : meth.sig.returnType = none) (hk : meth.locks = false)   (z : St) (o0 : Nat) (x1 : Int32) (x2 : Int32) (ho0 : kd o0 = 11) {res : St} (hf : f_X11_draws_0  z o0 x1 x2 = some res) : Zj p l e (rm_X11_draws) s m args below meth c g A 5 (0, 0) (QV g A below args s res) z 0 [(0, .ref (g.1 o0)), (1, .int x1), (2, .int x2)] [] := by
  unfold f_X11_draws_0 at hf
  refine z_aload_n C dX11_draws_0 rfl 0 rfl ?_
  obtain ⟨r1, hc2, hf⟩ := q_bd hf
  refine z_cVv C (st := []) (c_X11_thinks ho0 hc2) mw_X11_thinks ml_X11_205 ho0 (by decide) rfl dX11_draws_1 rfl rfl rfl ⟨Nat.le_of_ble_eq_true rfl, Nat.le_of_ble_eq_true rfl⟩ rfl (Nat.le_of_ble_eq_true rfl) ?_
  refine z_iload_n C dX11_draws_4 rfl 1 rfl ?_
  refine z_istore_n C (lv2 := [(3, .int x1), (0, .ref (g.1 o0)), (1, .int x1), (2, .int x2)]) dX11_draws_5 rfl (by decide) rfl ?_
  refine z_iconst C dX11_draws_6 (v := 0) (by decide) ?_
  refine z_istore C (lv2 := [(4, .int 0), (3, .int x1), (0, .ref (g.1 o0)), (1, .int x1), (2, .int x2)]) dX11_draws_7 (by decide) rfl ?_
  exact z_sub [2, 4, 1, 0] rfl (b_X11_draws_9 C hr hk FU r1 o0 x2 x1 0 ho0 hf)
def f_X11_draws (z : St) (o0 : Nat) (x1 : Int32) (x2 : Int32) : Option (St) := f_X11_draws_0 z o0 x1 x2
theorem c_X11_draws {l : Launch} {g : Ga} {A : Nat → Prop} {z : St} {o0 : Nat} {x1 : Int32} {x2 : Int32} (ho0 : kd o0 = 11) {res : St} (hf : f_X11_draws z o0 x1 x2 = some res) : CV l g A yX11_draws cX11_draws 5 none rm_X11_draws [.ref (g.1 o0), .int x1, .int x2] z res :=
  e_CV (by decide) (Nat.le_of_ble_eq_true rfl) rfl (fun p e s m args below meth c C hr hk => z_sub [0, 1, 2] rfl (b_X11_draws_0 C hr hk z o0 x1 x2 ho0 hf))
abbrev rm_X11_drawn : Room := { frames := 5, cells := 0, slots := 0, locals := 113 }
def f_X11_drawn_10  (z : St)  : Option (St × Int32) :=
  some (z, (-2))
theorem b_X11_drawn_10 {p : Program} {l : Launch} {e : Env} {s : State} {m : MethodId} {args : Array Value} {below : List Frame} {meth : Method} {c : Code} {g : Ga} {A : Nat → Prop} (C : Cx l g A p s m args c cX11_drawn 3 RX11 (rm_X11_drawn) (0, 0)) (hr : meth.sig.returnType = (some .int)) (hk : meth.locks = false)   (z : St)   {res : St × Int32} (hf : f_X11_drawn_10  z  = some res) : Zj p l e (rm_X11_drawn) s m args below meth c g A 3 (0, 0) (QI g A below args s res) z 10 [] [] := by
  unfold f_X11_drawn_10 at hf
  refine z_bipush C dX11_drawn_10 (v := (-2)) (by decide) ?_
  cases hf
  exact z_iret C hr hk dX11_drawn_12
def f_X11_drawn_13  (z : St) (o0 : Nat) (x1 : Int32) (x2 : Int32) : Option (St × Int32) :=
  ((f_X11_draws z o0 x1 x2).bind fun r1 => ((f_X11_leastNow r1 o0).bind fun r3 => some (r3.1, r3.2)))
theorem b_X11_drawn_13 {p : Program} {l : Launch} {e : Env} {s : State} {m : MethodId} {args : Array Value} {below : List Frame} {meth : Method} {c : Code} {g : Ga} {A : Nat → Prop} (C : Cx l g A p s m args c cX11_drawn 3 RX11 (rm_X11_drawn) (0, 0)) (hr : meth.sig.returnType = (some .int)) (hk : meth.locks = false)   (z : St) (o0 : Nat) (x1 : Int32) (x2 : Int32) (ho0 : kd o0 = 11) {res : St × Int32} (hf : f_X11_drawn_13  z o0 x1 x2 = some res) : Zj p l e (rm_X11_drawn) s m args below meth c g A 3 (0, 0) (QI g A below args s res) z 13 [(0, .ref (g.1 o0)), (1, .int x1), (2, .int x2)] [] := by
  unfold f_X11_drawn_13 at hf
  refine z_aload_n C dX11_drawn_13 rfl 0 rfl ?_
  refine z_iload_n C dX11_drawn_14 rfl 1 rfl ?_
  refine z_iload_n C dX11_drawn_15 rfl 2 rfl ?_
  obtain ⟨r1, hc2, hf⟩ := q_bd hf
  refine z_cVv C (st := []) (c_X11_draws ho0 hc2) mw_X11_draws ml_X11_325 ho0 (by decide) rfl dX11_drawn_16 rfl rfl rfl ⟨Nat.le_of_ble_eq_true rfl, Nat.le_of_ble_eq_true rfl⟩ rfl (Nat.le_of_ble_eq_true rfl) ?_
  refine z_aload_n C dX11_drawn_19 rfl 0 rfl ?_
  obtain ⟨r3, hc4, hf⟩ := q_bd hf
  refine z_cVi C (st := []) (c_X11_leastNow ho0 hc4) mw_X11_leastNow ml_X11_289 ho0 (by decide) rfl dX11_drawn_20 rfl rfl rfl ⟨Nat.le_of_ble_eq_true rfl, Nat.le_of_ble_eq_true rfl⟩ rfl (Nat.le_of_ble_eq_true rfl) ?_
  cases hf
  exact z_iret C hr hk dX11_drawn_23
def f_X11_drawn_0  (z : St) (o0 : Nat) (x1 : Int32) (x2 : Int32) : Option (St × Int32) :=
  ((f_X11_in z x2 0 30).bind fun r1 => if r1.2 = 0 then f_X11_drawn_10 r1.1 else f_X11_drawn_13 r1.1 o0 x1 x2)
theorem b_X11_drawn_0 {p : Program} {l : Launch} {e : Env} {s : State} {m : MethodId} {args : Array Value} {below : List Frame} {meth : Method} {c : Code} {g : Ga} {A : Nat → Prop} (C : Cx l g A p s m args c cX11_drawn 3 RX11 (rm_X11_drawn) (0, 0)) (hr : meth.sig.returnType = (some .int)) (hk : meth.locks = false)   (z : St) (o0 : Nat) (x1 : Int32) (x2 : Int32) (ho0 : kd o0 = 11) {res : St × Int32} (hf : f_X11_drawn_0  z o0 x1 x2 = some res) : Zj p l e (rm_X11_drawn) s m args below meth c g A 3 (0, 0) (QI g A below args s res) z 0 [(0, .ref (g.1 o0)), (1, .int x1), (2, .int x2)] [] := by
  unfold f_X11_drawn_0 at hf
  refine z_iload_n C dX11_drawn_0 rfl 2 rfl ?_
  refine z_iconst C dX11_drawn_1 (v := 0) (by decide) ?_
  refine z_bipush C dX11_drawn_2 (v := 30) (by decide) ?_
  obtain ⟨r1, hc2, hf⟩ := q_bd hf
  refine z_cSi C (st := []) (c_X11_in  hc2) mw_X11_in ml_X11_114 dX11_drawn_4 rfl rfl rfl ⟨Nat.le_of_ble_eq_true rfl, Nat.le_of_ble_eq_true rfl⟩ rfl (Nat.le_of_ble_eq_true rfl) ?_
  exact z_if_ne C dX11_drawn_7 (by decide) (fun h => z_sub [0, 1, 2] rfl (b_X11_drawn_13 C hr hk r1.1 o0 x1 x2 ho0 (q_f hf h))) (fun h => z_sub [] rfl (b_X11_drawn_10 C hr hk r1.1 (q_t hf h)))
def f_X11_drawn (z : St) (o0 : Nat) (x1 : Int32) (x2 : Int32) : Option (St × Int32) := f_X11_drawn_0 z o0 x1 x2
theorem c_X11_drawn {l : Launch} {g : Ga} {A : Nat → Prop} {z : St} {o0 : Nat} {x1 : Int32} {x2 : Int32} (ho0 : kd o0 = 11) {res : St × Int32} (hf : f_X11_drawn z o0 x1 x2 = some res) : CI l g A yX11_drawn cX11_drawn 3 (some .int) rm_X11_drawn [.ref (g.1 o0), .int x1, .int x2] z res :=
  e_CI (by decide) (Nat.le_of_ble_eq_true rfl) rfl (fun p e s m args below meth c C hr hk => z_sub [0, 1, 2] rfl (b_X11_drawn_0 C hr hk z o0 x1 x2 ho0 hf))
abbrev rm_X11_divisor : Room := { frames := 0, cells := 0, slots := 0, locals := 0 }
def f_X11_divisor_8 (K4 : St → Int32 → Int32 → Option (St × Int32)) (z : St) (x2 : Int32) (x3 : Int32) : Option (St × Int32) :=
  if decide (x3 ≠ 0) = true then (K4 z x3 (x2 - x2 / x3 * x3)) else none
theorem b_X11_divisor_8 {p : Program} {l : Launch} {e : Env} {s : State} {m : MethodId} {args : Array Value} {below : List Frame} {meth : Method} {c : Code} {g : Ga} {A : Nat → Prop} (C : Cx l g A p s m args c cX11_divisor 5 RX11 (rm_X11_divisor) (0, 0)) (hr : meth.sig.returnType = (some .int)) (hk : meth.locks = false) {K4 : St → Int32 → Int32 → Option (St × Int32)} (hK4 : ∀ (z : St) (x2 : Int32) (x3 : Int32)  {res : St × Int32}, K4 z x2 x3 = some res → Zj p l e (rm_X11_divisor) s m args below meth c g A 5 (0, 0) (QI g A below args s res) z 4 [(2, .int x2), (3, .int x3)] []) (z : St) (x2 : Int32) (x3 : Int32)  {res : St × Int32} (hf : f_X11_divisor_8 K4 z x2 x3 = some res) : Zj p l e (rm_X11_divisor) s m args below meth c g A 5 (0, 0) (QI g A below args s res) z 8 [(2, .int x2), (3, .int x3)] [] := by
  unfold f_X11_divisor_8 at hf
  refine z_iload_n C dX11_divisor_8 rfl 0 rfl ?_
  refine z_iload_n C dX11_divisor_9 rfl 1 rfl ?_
  obtain ⟨h1, hf⟩ := q_ck hf
  refine z_irem C dX11_divisor_10 (q_nz h1) ?_
  refine z_istore C (lv2 := [(4, .int (x2 - x2 / x3 * x3)), (2, .int x2), (3, .int x3)]) dX11_divisor_11 (by decide) rfl ?_
  refine z_iload_n C dX11_divisor_13 rfl 2 rfl ?_
  refine z_istore_n C (lv2 := [(2, .int x3), (4, .int (x2 - x2 / x3 * x3)), (3, .int x3)]) dX11_divisor_14 rfl (by decide) rfl ?_
  refine z_iload C dX11_divisor_15 1 rfl ?_
  refine z_istore_n C (lv2 := [(3, .int (x2 - x2 / x3 * x3)), (2, .int x3), (4, .int (x2 - x2 / x3 * x3))]) dX11_divisor_17 rfl (by decide) rfl ?_
  exact z_goto C dX11_divisor_18 (by decide) (z_sub [1, 0] rfl (hK4 z x3 (x2 - x2 / x3 * x3) hf))
def f_X11_divisor_21  (z : St) (x2 : Int32) : Option (St × Int32) :=
  some (z, x2)
theorem b_X11_divisor_21 {p : Program} {l : Launch} {e : Env} {s : State} {m : MethodId} {args : Array Value} {below : List Frame} {meth : Method} {c : Code} {g : Ga} {A : Nat → Prop} (C : Cx l g A p s m args c cX11_divisor 5 RX11 (rm_X11_divisor) (0, 0)) (hr : meth.sig.returnType = (some .int)) (hk : meth.locks = false)   (z : St) (x2 : Int32)  {res : St × Int32} (hf : f_X11_divisor_21  z x2 = some res) : Zj p l e (rm_X11_divisor) s m args below meth c g A 5 (0, 0) (QI g A below args s res) z 21 [(2, .int x2)] [] := by
  unfold f_X11_divisor_21 at hf
  refine z_iload_n C dX11_divisor_21 rfl 0 rfl ?_
  cases hf
  exact z_iret C hr hk dX11_divisor_22
def f_X11_divisor_4  : Nat → St → Int32 → Int32 → Option (St × Int32)
  | 0, _, _, _ => none
  | n + 1, z, x2, x3 => if x3 = 0 then f_X11_divisor_21 z x2 else f_X11_divisor_8 (f_X11_divisor_4 n) z x2 x3
theorem b_X11_divisor_4 {p : Program} {l : Launch} {e : Env} {s : State} {m : MethodId} {args : Array Value} {below : List Frame} {meth : Method} {c : Code} {g : Ga} {A : Nat → Prop} (C : Cx l g A p s m args c cX11_divisor 5 RX11 (rm_X11_divisor) (0, 0)) (hr : meth.sig.returnType = (some .int)) (hk : meth.locks = false)   : ∀ (n : Nat) (z : St) (x2 : Int32) (x3 : Int32)  {res : St × Int32} (_ : f_X11_divisor_4  n z x2 x3 = some res), Zj p l e (rm_X11_divisor) s m args below meth c g A 5 (0, 0) (QI g A below args s res) z 4 [(2, .int x2), (3, .int x3)] [] := by
  intro n
  induction n with
  | zero =>
    intro z x2 x3  res hf
    cases hf
  | succ n ih =>
    intro z x2 x3  res hf
    rw [f_X11_divisor_4] at hf
    refine z_iload_n C dX11_divisor_4 rfl 1 rfl ?_
    exact z_if_eq C dX11_divisor_5 (by decide) (fun h => z_sub [0] rfl (b_X11_divisor_21 C hr hk z x2 (q_t hf h))) (fun h => z_sub [0, 1] rfl (b_X11_divisor_8 C hr hk ih z x2 x3 (q_f hf h)))
def f_X11_divisor_0  (z : St) (x0 : Int32) (x1 : Int32) : Option (St × Int32) :=
  f_X11_divisor_4 FU z x0 x1
theorem b_X11_divisor_0 {p : Program} {l : Launch} {e : Env} {s : State} {m : MethodId} {args : Array Value} {below : List Frame} {meth : Method} {c : Code} {g : Ga} {A : Nat → Prop} (C : Cx l g A p s m args c cX11_divisor 5 RX11 (rm_X11_divisor) (0, 0)) (hr : meth.sig.returnType = (some .int)) (hk : meth.locks = false)   (z : St) (x0 : Int32) (x1 : Int32)  {res : St × Int32} (hf : f_X11_divisor_0  z x0 x1 = some res) : Zj p l e (rm_X11_divisor) s m args below meth c g A 5 (0, 0) (QI g A below args s res) z 0 [(0, .int x0), (1, .int x1)] [] := by
  unfold f_X11_divisor_0 at hf
  refine z_iload_n C dX11_divisor_0 rfl 0 rfl ?_
  refine z_istore_n C (lv2 := [(2, .int x0), (0, .int x0), (1, .int x1)]) dX11_divisor_1 rfl (by decide) rfl ?_
  refine z_iload_n C dX11_divisor_2 rfl 2 rfl ?_
  refine z_istore_n C (lv2 := [(3, .int x1), (2, .int x0), (0, .int x0), (1, .int x1)]) dX11_divisor_3 rfl (by decide) rfl ?_
  exact z_sub [1, 0] rfl (b_X11_divisor_4 C hr hk FU z x0 x1 hf)
def f_X11_divisor (z : St) (x0 : Int32) (x1 : Int32) : Option (St × Int32) := f_X11_divisor_0 z x0 x1
theorem c_X11_divisor {l : Launch} {g : Ga} {A : Nat → Prop} {z : St} {x0 : Int32} {x1 : Int32}  {res : St × Int32} (hf : f_X11_divisor z x0 x1 = some res) : CI l g A yX11_divisor cX11_divisor 5 (some .int) rm_X11_divisor [.int x0, .int x1] z res :=
  e_CI (by decide) (Nat.le_of_ble_eq_true rfl) rfl (fun p e s m args below meth c C hr hk => z_sub [0, 1] rfl (b_X11_divisor_0 C hr hk z x0 x1  hf))
abbrev rm_X11_chance : Room := { frames := 5, cells := 0, slots := 0, locals := 109 }
def f_X11_chance_42  (z : St)  : Option (St × Int32) :=
  some (z, (-2))
theorem b_X11_chance_42 {p : Program} {l : Launch} {e : Env} {s : State} {m : MethodId} {args : Array Value} {below : List Frame} {meth : Method} {c : Code} {g : Ga} {A : Nat → Prop} (C : Cx l g A p s m args c cX11_chance 8 RX11 (rm_X11_chance) (0, 0)) (hr : meth.sig.returnType = (some .int)) (hk : meth.locks = false)   (z : St)   {res : St × Int32} (hf : f_X11_chance_42  z  = some res) : Zj p l e (rm_X11_chance) s m args below meth c g A 8 (0, 0) (QI g A below args s res) z 42 [] [] := by
  unfold f_X11_chance_42 at hf
  refine z_bipush C dX11_chance_42 (v := (-2)) (by decide) ?_
  cases hf
  exact z_iret C hr hk dX11_chance_44
def f_X11_chance_82 (K51 : St → Nat → Int32 → Int32 → Int32 → Int32 → Int32 → Int32 → Int32 → Option (St × Int32)) (z : St) (o0 : Nat) (x1 : Int32) (x2 : Int32) (x3 : Int32) (x4 : Int32) (x5 : Int32) (x7 : Int32) (s0 : Int32) (s1 : Int32) : Option (St × Int32) :=
  K51 z o0 x1 x2 x3 x4 x5 (s0 + s1) (x7 + 1)
theorem b_X11_chance_82 {p : Program} {l : Launch} {e : Env} {s : State} {m : MethodId} {args : Array Value} {below : List Frame} {meth : Method} {c : Code} {g : Ga} {A : Nat → Prop} (C : Cx l g A p s m args c cX11_chance 8 RX11 (rm_X11_chance) (0, 0)) (hr : meth.sig.returnType = (some .int)) (hk : meth.locks = false) {K51 : St → Nat → Int32 → Int32 → Int32 → Int32 → Int32 → Int32 → Int32 → Option (St × Int32)} (hK51 : ∀ (z : St) (o0 : Nat) (x1 : Int32) (x2 : Int32) (x3 : Int32) (x4 : Int32) (x5 : Int32) (x6 : Int32) (x7 : Int32) (_ : kd o0 = 11) {res : St × Int32}, K51 z o0 x1 x2 x3 x4 x5 x6 x7 = some res → Zj p l e (rm_X11_chance) s m args below meth c g A 8 (0, 0) (QI g A below args s res) z 51 [(0, .ref (g.1 o0)), (1, .int x1), (2, .int x2), (3, .int x3), (4, .int x4), (5, .int x5), (6, .int x6), (7, .int x7)] []) (z : St) (o0 : Nat) (x1 : Int32) (x2 : Int32) (x3 : Int32) (x4 : Int32) (x5 : Int32) (x7 : Int32) (s0 : Int32) (s1 : Int32) (ho0 : kd o0 = 11) {res : St × Int32} (hf : f_X11_chance_82 K51 z o0 x1 x2 x3 x4 x5 x7 s0 s1 = some res) : Zj p l e (rm_X11_chance) s m args below meth c g A 8 (0, 0) (QI g A below args s res) z 82 [(0, .ref (g.1 o0)), (1, .int x1), (2, .int x2), (3, .int x3), (4, .int x4), (5, .int x5), (7, .int x7)] [.int s1, .int s0] := by
  unfold f_X11_chance_82 at hf
  refine z_iadd C dX11_chance_82 ?_
  refine z_istore C (lv2 := [(6, .int (s0 + s1)), (0, .ref (g.1 o0)), (1, .int x1), (2, .int x2), (3, .int x3), (4, .int x4), (5, .int x5), (7, .int x7)]) dX11_chance_83 (by decide) rfl ?_
  refine z_iinc C (k := 7) (v := x7 + 1) (lv2 := [(7, .int (x7 + 1)), (6, .int (s0 + s1)), (0, .ref (g.1 o0)), (1, .int x1), (2, .int x2), (3, .int x3), (4, .int x4), (5, .int x5)]) dX11_chance_85 rfl rfl (by decide) rfl ?_
  exact z_goto C dX11_chance_88 (by decide) (z_sub [2, 3, 4, 5, 6, 7, 1, 0] rfl (hK51 z o0 x1 x2 x3 x4 x5 (s0 + s1) (x7 + 1) ho0 hf))
def f_X11_chance_77 (K51 : St → Nat → Int32 → Int32 → Int32 → Int32 → Int32 → Int32 → Int32 → Option (St × Int32)) (z : St) (o0 : Nat) (x1 : Int32) (x2 : Int32) (x3 : Int32) (x4 : Int32) (x5 : Int32) (x7 : Int32) (s0 : Int32) : Option (St × Int32) :=
  f_X11_chance_82 K51 z o0 x1 x2 x3 x4 x5 x7 s0 1
theorem b_X11_chance_77 {p : Program} {l : Launch} {e : Env} {s : State} {m : MethodId} {args : Array Value} {below : List Frame} {meth : Method} {c : Code} {g : Ga} {A : Nat → Prop} (C : Cx l g A p s m args c cX11_chance 8 RX11 (rm_X11_chance) (0, 0)) (hr : meth.sig.returnType = (some .int)) (hk : meth.locks = false) {K51 : St → Nat → Int32 → Int32 → Int32 → Int32 → Int32 → Int32 → Int32 → Option (St × Int32)} (hK51 : ∀ (z : St) (o0 : Nat) (x1 : Int32) (x2 : Int32) (x3 : Int32) (x4 : Int32) (x5 : Int32) (x6 : Int32) (x7 : Int32) (_ : kd o0 = 11) {res : St × Int32}, K51 z o0 x1 x2 x3 x4 x5 x6 x7 = some res → Zj p l e (rm_X11_chance) s m args below meth c g A 8 (0, 0) (QI g A below args s res) z 51 [(0, .ref (g.1 o0)), (1, .int x1), (2, .int x2), (3, .int x3), (4, .int x4), (5, .int x5), (6, .int x6), (7, .int x7)] []) (z : St) (o0 : Nat) (x1 : Int32) (x2 : Int32) (x3 : Int32) (x4 : Int32) (x5 : Int32) (x7 : Int32) (s0 : Int32) (ho0 : kd o0 = 11) {res : St × Int32} (hf : f_X11_chance_77 K51 z o0 x1 x2 x3 x4 x5 x7 s0 = some res) : Zj p l e (rm_X11_chance) s m args below meth c g A 8 (0, 0) (QI g A below args s res) z 77 [(0, .ref (g.1 o0)), (1, .int x1), (2, .int x2), (3, .int x3), (4, .int x4), (5, .int x5), (7, .int x7)] [.int s0] := by
  unfold f_X11_chance_77 at hf
  refine z_iconst C dX11_chance_77 (v := 1) (by decide) ?_
  exact z_goto C dX11_chance_78 (by decide) (z_sub [0, 1, 2, 3, 4, 5, 6] rfl (b_X11_chance_82 C hr hk hK51 z o0 x1 x2 x3 x4 x5 x7 s0 1 ho0 hf))
def f_X11_chance_81 (K51 : St → Nat → Int32 → Int32 → Int32 → Int32 → Int32 → Int32 → Int32 → Option (St × Int32)) (z : St) (o0 : Nat) (x1 : Int32) (x2 : Int32) (x3 : Int32) (x4 : Int32) (x5 : Int32) (x7 : Int32) (s0 : Int32) : Option (St × Int32) :=
  f_X11_chance_82 K51 z o0 x1 x2 x3 x4 x5 x7 s0 0
theorem b_X11_chance_81 {p : Program} {l : Launch} {e : Env} {s : State} {m : MethodId} {args : Array Value} {below : List Frame} {meth : Method} {c : Code} {g : Ga} {A : Nat → Prop} (C : Cx l g A p s m args c cX11_chance 8 RX11 (rm_X11_chance) (0, 0)) (hr : meth.sig.returnType = (some .int)) (hk : meth.locks = false) {K51 : St → Nat → Int32 → Int32 → Int32 → Int32 → Int32 → Int32 → Int32 → Option (St × Int32)} (hK51 : ∀ (z : St) (o0 : Nat) (x1 : Int32) (x2 : Int32) (x3 : Int32) (x4 : Int32) (x5 : Int32) (x6 : Int32) (x7 : Int32) (_ : kd o0 = 11) {res : St × Int32}, K51 z o0 x1 x2 x3 x4 x5 x6 x7 = some res → Zj p l e (rm_X11_chance) s m args below meth c g A 8 (0, 0) (QI g A below args s res) z 51 [(0, .ref (g.1 o0)), (1, .int x1), (2, .int x2), (3, .int x3), (4, .int x4), (5, .int x5), (6, .int x6), (7, .int x7)] []) (z : St) (o0 : Nat) (x1 : Int32) (x2 : Int32) (x3 : Int32) (x4 : Int32) (x5 : Int32) (x7 : Int32) (s0 : Int32) (ho0 : kd o0 = 11) {res : St × Int32} (hf : f_X11_chance_81 K51 z o0 x1 x2 x3 x4 x5 x7 s0 = some res) : Zj p l e (rm_X11_chance) s m args below meth c g A 8 (0, 0) (QI g A below args s res) z 81 [(0, .ref (g.1 o0)), (1, .int x1), (2, .int x2), (3, .int x3), (4, .int x4), (5, .int x5), (7, .int x7)] [.int s0] := by
  unfold f_X11_chance_81 at hf
  refine z_iconst C dX11_chance_81 (v := 0) (by decide) ?_
  exact z_sub [0, 1, 2, 3, 4, 5, 6] rfl (b_X11_chance_82 C hr hk hK51 z o0 x1 x2 x3 x4 x5 x7 s0 0 ho0 hf)
def f_X11_chance_57 (K51 : St → Nat → Int32 → Int32 → Int32 → Int32 → Int32 → Int32 → Int32 → Option (St × Int32)) (z : St) (o0 : Nat) (x1 : Int32) (x2 : Int32) (x3 : Int32) (x4 : Int32) (x5 : Int32) (x6 : Int32) (x7 : Int32) : Option (St × Int32) :=
  ((f_X11_draws z o0 (x1 + x7) x3).bind fun r1 => ((f_X11_greedily r1 o0).bind fun r3 => if x4 < r3.2 then f_X11_chance_81 K51 r3.1 o0 x1 x2 x3 x4 x5 x7 x6 else f_X11_chance_77 K51 r3.1 o0 x1 x2 x3 x4 x5 x7 x6))
theorem b_X11_chance_57 {p : Program} {l : Launch} {e : Env} {s : State} {m : MethodId} {args : Array Value} {below : List Frame} {meth : Method} {c : Code} {g : Ga} {A : Nat → Prop} (C : Cx l g A p s m args c cX11_chance 8 RX11 (rm_X11_chance) (0, 0)) (hr : meth.sig.returnType = (some .int)) (hk : meth.locks = false) {K51 : St → Nat → Int32 → Int32 → Int32 → Int32 → Int32 → Int32 → Int32 → Option (St × Int32)} (hK51 : ∀ (z : St) (o0 : Nat) (x1 : Int32) (x2 : Int32) (x3 : Int32) (x4 : Int32) (x5 : Int32) (x6 : Int32) (x7 : Int32) (_ : kd o0 = 11) {res : St × Int32}, K51 z o0 x1 x2 x3 x4 x5 x6 x7 = some res → Zj p l e (rm_X11_chance) s m args below meth c g A 8 (0, 0) (QI g A below args s res) z 51 [(0, .ref (g.1 o0)), (1, .int x1), (2, .int x2), (3, .int x3), (4, .int x4), (5, .int x5), (6, .int x6), (7, .int x7)] []) (z : St) (o0 : Nat) (x1 : Int32) (x2 : Int32) (x3 : Int32) (x4 : Int32) (x5 : Int32) (x6 : Int32) (x7 : Int32) (ho0 : kd o0 = 11) {res : St × Int32} (hf : f_X11_chance_57 K51 z o0 x1 x2 x3 x4 x5 x6 x7 = some res) : Zj p l e (rm_X11_chance) s m args below meth c g A 8 (0, 0) (QI g A below args s res) z 57 [(0, .ref (g.1 o0)), (1, .int x1), (2, .int x2), (3, .int x3), (4, .int x4), (5, .int x5), (6, .int x6), (7, .int x7)] [] := by
  unfold f_X11_chance_57 at hf
  refine z_aload_n C dX11_chance_57 rfl 0 rfl ?_
  refine z_iload_n C dX11_chance_58 rfl 1 rfl ?_
  refine z_iload C dX11_chance_59 7 rfl ?_
  refine z_iadd C dX11_chance_61 ?_
  refine z_iload_n C dX11_chance_62 rfl 3 rfl ?_
  obtain ⟨r1, hc2, hf⟩ := q_bd hf
  refine z_cVv C (st := []) (c_X11_draws ho0 hc2) mw_X11_draws ml_X11_325 ho0 (by decide) rfl dX11_chance_63 rfl rfl rfl ⟨Nat.le_of_ble_eq_true rfl, Nat.le_of_ble_eq_true rfl⟩ rfl (Nat.le_of_ble_eq_true rfl) ?_
  refine z_iload C dX11_chance_66 6 rfl ?_
  refine z_aload_n C dX11_chance_68 rfl 0 rfl ?_
  obtain ⟨r3, hc4, hf⟩ := q_bd hf
  refine z_cVi C (st := [.int x6]) (c_X11_greedily ho0 hc4) mw_X11_greedily ml_X11_208 ho0 (by decide) rfl dX11_chance_69 rfl rfl rfl ⟨Nat.le_of_ble_eq_true rfl, Nat.le_of_ble_eq_true rfl⟩ rfl (Nat.le_of_ble_eq_true rfl) ?_
  refine z_iload C dX11_chance_72 4 rfl ?_
  exact z_icmp_gt C dX11_chance_74 (by decide) (fun h => z_sub [0, 1, 2, 3, 4, 5, 7] rfl (b_X11_chance_81 C hr hk hK51 r3.1 o0 x1 x2 x3 x4 x5 x7 x6 ho0 (q_t hf h))) (fun h => z_sub [0, 1, 2, 3, 4, 5, 7] rfl (b_X11_chance_77 C hr hk hK51 r3.1 o0 x1 x2 x3 x4 x5 x7 x6 ho0 (q_f hf h)))
def f_X11_chance_116  (z : St) (s0 : Int32) : Option (St × Int32) :=
  some (z, s0)
theorem b_X11_chance_116 {p : Program} {l : Launch} {e : Env} {s : State} {m : MethodId} {args : Array Value} {below : List Frame} {meth : Method} {c : Code} {g : Ga} {A : Nat → Prop} (C : Cx l g A p s m args c cX11_chance 8 RX11 (rm_X11_chance) (0, 0)) (hr : meth.sig.returnType = (some .int)) (hk : meth.locks = false)   (z : St) (s0 : Int32)  {res : St × Int32} (hf : f_X11_chance_116  z s0 = some res) : Zj p l e (rm_X11_chance) s m args below meth c g A 8 (0, 0) (QI g A below args s res) z 116 [] [.int s0] := by
  unfold f_X11_chance_116 at hf
  cases hf
  exact z_iret C hr hk dX11_chance_116
def f_X11_chance_104  (z : St) (x6 : Int32) (x7 : Int32) : Option (St × Int32) :=
  if decide (x7 ≠ 0) = true then (f_X11_chance_116 z (x6 / x7)) else none
theorem b_X11_chance_104 {p : Program} {l : Launch} {e : Env} {s : State} {m : MethodId} {args : Array Value} {below : List Frame} {meth : Method} {c : Code} {g : Ga} {A : Nat → Prop} (C : Cx l g A p s m args c cX11_chance 8 RX11 (rm_X11_chance) (0, 0)) (hr : meth.sig.returnType = (some .int)) (hk : meth.locks = false)   (z : St) (x6 : Int32) (x7 : Int32)  {res : St × Int32} (hf : f_X11_chance_104  z x6 x7 = some res) : Zj p l e (rm_X11_chance) s m args below meth c g A 8 (0, 0) (QI g A below args s res) z 104 [(6, .int x6), (7, .int x7)] [] := by
  unfold f_X11_chance_104 at hf
  refine z_iload C dX11_chance_104 0 rfl ?_
  refine z_iload C dX11_chance_106 1 rfl ?_
  obtain ⟨h1, hf⟩ := q_ck hf
  refine z_idiv C dX11_chance_108 (q_nz h1) ?_
  exact z_goto C dX11_chance_109 (by decide) (z_sub [] rfl (b_X11_chance_116 C hr hk z (x6 / x7) hf))
def f_X11_chance_112  (z : St) (x2 : Int32) (x7 : Int32) : Option (St × Int32) :=
  if decide (x7 ≠ 0) = true then (f_X11_chance_116 z (x2 / x7)) else none
theorem b_X11_chance_112 {p : Program} {l : Launch} {e : Env} {s : State} {m : MethodId} {args : Array Value} {below : List Frame} {meth : Method} {c : Code} {g : Ga} {A : Nat → Prop} (C : Cx l g A p s m args c cX11_chance 8 RX11 (rm_X11_chance) (0, 0)) (hr : meth.sig.returnType = (some .int)) (hk : meth.locks = false)   (z : St) (x2 : Int32) (x7 : Int32)  {res : St × Int32} (hf : f_X11_chance_112  z x2 x7 = some res) : Zj p l e (rm_X11_chance) s m args below meth c g A 8 (0, 0) (QI g A below args s res) z 112 [(2, .int x2), (7, .int x7)] [] := by
  unfold f_X11_chance_112 at hf
  refine z_iload_n C dX11_chance_112 rfl 0 rfl ?_
  refine z_iload C dX11_chance_113 1 rfl ?_
  obtain ⟨h1, hf⟩ := q_ck hf
  refine z_idiv C dX11_chance_115 (q_nz h1) ?_
  exact z_sub [] rfl (b_X11_chance_116 C hr hk z (x2 / x7) hf)
def f_X11_chance_91  (z : St) (x2 : Int32) (x5 : Int32) (x6 : Int32) : Option (St × Int32) :=
  ((f_X11_divisor z x6 x2).bind fun r1 => if x5 = 0 then f_X11_chance_104 r1.1 x6 r1.2 else f_X11_chance_112 r1.1 x2 r1.2)
theorem b_X11_chance_91 {p : Program} {l : Launch} {e : Env} {s : State} {m : MethodId} {args : Array Value} {below : List Frame} {meth : Method} {c : Code} {g : Ga} {A : Nat → Prop} (C : Cx l g A p s m args c cX11_chance 8 RX11 (rm_X11_chance) (0, 0)) (hr : meth.sig.returnType = (some .int)) (hk : meth.locks = false)   (z : St) (x2 : Int32) (x5 : Int32) (x6 : Int32)  {res : St × Int32} (hf : f_X11_chance_91  z x2 x5 x6 = some res) : Zj p l e (rm_X11_chance) s m args below meth c g A 8 (0, 0) (QI g A below args s res) z 91 [(2, .int x2), (5, .int x5), (6, .int x6)] [] := by
  unfold f_X11_chance_91 at hf
  refine z_iload C dX11_chance_91 2 rfl ?_
  refine z_iload_n C dX11_chance_93 rfl 0 rfl ?_
  obtain ⟨r1, hc2, hf⟩ := q_bd hf
  refine z_cSi C (st := []) (c_X11_divisor  hc2) mw_X11_divisor ml_X11_329 dX11_chance_94 rfl rfl rfl ⟨Nat.le_of_ble_eq_true rfl, Nat.le_of_ble_eq_true rfl⟩ rfl (Nat.le_of_ble_eq_true rfl) ?_
  refine z_istore C (lv2 := [(7, .int r1.2), (2, .int x2), (5, .int x5), (6, .int x6)]) dX11_chance_97 (by decide) rfl ?_
  refine z_iload C dX11_chance_99 2 rfl ?_
  exact z_if_ne C dX11_chance_101 (by decide) (fun h => z_sub [1, 0] rfl (b_X11_chance_112 C hr hk r1.1 x2 r1.2 (q_f hf h))) (fun h => z_sub [3, 0] rfl (b_X11_chance_104 C hr hk r1.1 x6 r1.2 (q_t hf h)))
def f_X11_chance_51  : Nat → St → Nat → Int32 → Int32 → Int32 → Int32 → Int32 → Int32 → Int32 → Option (St × Int32)
  | 0, _, _, _, _, _, _, _, _, _ => none
  | n + 1, z, o0, x1, x2, x3, x4, x5, x6, x7 => if x2 ≤ x7 then f_X11_chance_91 z x2 x5 x6 else f_X11_chance_57 (f_X11_chance_51 n) z o0 x1 x2 x3 x4 x5 x6 x7
theorem b_X11_chance_51 {p : Program} {l : Launch} {e : Env} {s : State} {m : MethodId} {args : Array Value} {below : List Frame} {meth : Method} {c : Code} {g : Ga} {A : Nat → Prop} (C : Cx l g A p s m args c cX11_chance 8 RX11 (rm_X11_chance) (0, 0)) (hr : meth.sig.returnType = (some .int)) (hk : meth.locks = false)   : ∀ (n : Nat) (z : St) (o0 : Nat) (x1 : Int32) (x2 : Int32) (x3 : Int32) (x4 : Int32) (x5 : Int32) (x6 : Int32) (x7 : Int32) (_ : kd o0 = 11) {res : St × Int32} (_ : f_X11_chance_51  n z o0 x1 x2 x3 x4 x5 x6 x7 = some res), Zj p l e (rm_X11_chance) s m args below meth c g A 8 (0, 0) (QI g A below args s res) z 51 [(0, .ref (g.1 o0)), (1, .int x1), (2, .int x2), (3, .int x3), (4, .int x4), (5, .int x5), (6, .int x6), (7, .int x7)] [] := by
  intro n
  induction n with
  | zero =>
    intro z o0 x1 x2 x3 x4 x5 x6 x7 ho0 res hf
    cases hf
  | succ n ih =>
    intro z o0 x1 x2 x3 x4 x5 x6 x7 ho0 res hf
    rw [f_X11_chance_51] at hf
    refine z_iload C dX11_chance_51 7 rfl ?_
    refine z_iload_n C dX11_chance_53 rfl 2 rfl ?_
    exact z_icmp_ge C dX11_chance_54 (by decide) (fun h => z_sub [2, 5, 6] rfl (b_X11_chance_91 C hr hk z x2 x5 x6 (q_t hf h))) (fun h => z_sub [0, 1, 2, 3, 4, 5, 6, 7] rfl (b_X11_chance_57 C hr hk ih z o0 x1 x2 x3 x4 x5 x6 x7 ho0 (q_f hf h)))
def f_X11_chance_45  (z : St) (o0 : Nat) (x1 : Int32) (x2 : Int32) (x3 : Int32) (x4 : Int32) (x5 : Int32) : Option (St × Int32) :=
  f_X11_chance_51 FU z o0 x1 x2 x3 x4 x5 0 0
theorem b_X11_chance_45 {p : Program} {l : Launch} {e : Env} {s : State} {m : MethodId} {args : Array Value} {below : List Frame} {meth : Method} {c : Code} {g : Ga} {A : Nat → Prop} (C : Cx l g A p s m args c cX11_chance 8 RX11 (rm_X11_chance) (0, 0)) (hr : meth.sig.returnType = (some .int)) (hk : meth.locks = false)   (z : St) (o0 : Nat) (x1 : Int32) (x2 : Int32) (x3 : Int32) (x4 : Int32) (x5 : Int32) (ho0 : kd o0 = 11) {res : St × Int32} (hf : f_X11_chance_45  z o0 x1 x2 x3 x4 x5 = some res) : Zj p l e (rm_X11_chance) s m args below meth c g A 8 (0, 0) (QI g A below args s res) z 45 [(0, .ref (g.1 o0)), (1, .int x1), (2, .int x2), (3, .int x3), (4, .int x4), (5, .int x5)] [] := by
  unfold f_X11_chance_45 at hf
  refine z_iconst C dX11_chance_45 (v := 0) (by decide) ?_
  refine z_istore C (lv2 := [(6, .int 0), (0, .ref (g.1 o0)), (1, .int x1), (2, .int x2), (3, .int x3), (4, .int x4), (5, .int x5)]) dX11_chance_46 (by decide) rfl ?_
  refine z_iconst C dX11_chance_48 (v := 0) (by decide) ?_
  refine z_istore C (lv2 := [(7, .int 0), (6, .int 0), (0, .ref (g.1 o0)), (1, .int x1), (2, .int x2), (3, .int x3), (4, .int x4), (5, .int x5)]) dX11_chance_49 (by decide) rfl ?_
  exact z_sub [2, 3, 4, 5, 6, 7, 1, 0] rfl (b_X11_chance_51 C hr hk FU z o0 x1 x2 x3 x4 x5 0 0 ho0 hf)
def f_X11_chance_32  (z : St) (o0 : Nat) (x1 : Int32) (x2 : Int32) (x3 : Int32) (x4 : Int32) (x5 : Int32) : Option (St × Int32) :=
  ((f_X11_in z x5 0 1).bind fun r1 => if r1.2 = 0 then f_X11_chance_42 r1.1 else f_X11_chance_45 r1.1 o0 x1 x2 x3 x4 x5)
theorem b_X11_chance_32 {p : Program} {l : Launch} {e : Env} {s : State} {m : MethodId} {args : Array Value} {below : List Frame} {meth : Method} {c : Code} {g : Ga} {A : Nat → Prop} (C : Cx l g A p s m args c cX11_chance 8 RX11 (rm_X11_chance) (0, 0)) (hr : meth.sig.returnType = (some .int)) (hk : meth.locks = false)   (z : St) (o0 : Nat) (x1 : Int32) (x2 : Int32) (x3 : Int32) (x4 : Int32) (x5 : Int32) (ho0 : kd o0 = 11) {res : St × Int32} (hf : f_X11_chance_32  z o0 x1 x2 x3 x4 x5 = some res) : Zj p l e (rm_X11_chance) s m args below meth c g A 8 (0, 0) (QI g A below args s res) z 32 [(0, .ref (g.1 o0)), (1, .int x1), (2, .int x2), (3, .int x3), (4, .int x4), (5, .int x5)] [] := by
  unfold f_X11_chance_32 at hf
  refine z_iload C dX11_chance_32 5 rfl ?_
  refine z_iconst C dX11_chance_34 (v := 0) (by decide) ?_
  refine z_iconst C dX11_chance_35 (v := 1) (by decide) ?_
  obtain ⟨r1, hc2, hf⟩ := q_bd hf
  refine z_cSi C (st := []) (c_X11_in  hc2) mw_X11_in ml_X11_114 dX11_chance_36 rfl rfl rfl ⟨Nat.le_of_ble_eq_true rfl, Nat.le_of_ble_eq_true rfl⟩ rfl (Nat.le_of_ble_eq_true rfl) ?_
  exact z_if_ne C dX11_chance_39 (by decide) (fun h => z_sub [0, 1, 2, 3, 4, 5] rfl (b_X11_chance_45 C hr hk r1.1 o0 x1 x2 x3 x4 x5 ho0 (q_f hf h))) (fun h => z_sub [] rfl (b_X11_chance_42 C hr hk r1.1 (q_t hf h)))
def f_X11_chance_20  (z : St) (o0 : Nat) (x1 : Int32) (x2 : Int32) (x3 : Int32) (x4 : Int32) (x5 : Int32) : Option (St × Int32) :=
  ((f_X11_in z x4 0 999).bind fun r1 => if r1.2 = 0 then f_X11_chance_42 r1.1 else f_X11_chance_32 r1.1 o0 x1 x2 x3 x4 x5)
theorem b_X11_chance_20 {p : Program} {l : Launch} {e : Env} {s : State} {m : MethodId} {args : Array Value} {below : List Frame} {meth : Method} {c : Code} {g : Ga} {A : Nat → Prop} (C : Cx l g A p s m args c cX11_chance 8 RX11 (rm_X11_chance) (0, 0)) (hr : meth.sig.returnType = (some .int)) (hk : meth.locks = false)   (z : St) (o0 : Nat) (x1 : Int32) (x2 : Int32) (x3 : Int32) (x4 : Int32) (x5 : Int32) (ho0 : kd o0 = 11) {res : St × Int32} (hf : f_X11_chance_20  z o0 x1 x2 x3 x4 x5 = some res) : Zj p l e (rm_X11_chance) s m args below meth c g A 8 (0, 0) (QI g A below args s res) z 20 [(0, .ref (g.1 o0)), (1, .int x1), (2, .int x2), (3, .int x3), (4, .int x4), (5, .int x5)] [] := by
  unfold f_X11_chance_20 at hf
  refine z_iload C dX11_chance_20 4 rfl ?_
  refine z_iconst C dX11_chance_22 (v := 0) (by decide) ?_
  refine z_sipush C dX11_chance_23 (v := 999) (by decide) ?_
  obtain ⟨r1, hc2, hf⟩ := q_bd hf
  refine z_cSi C (st := []) (c_X11_in  hc2) mw_X11_in ml_X11_114 dX11_chance_26 rfl rfl rfl ⟨Nat.le_of_ble_eq_true rfl, Nat.le_of_ble_eq_true rfl⟩ rfl (Nat.le_of_ble_eq_true rfl) ?_
  exact z_if_eq C dX11_chance_29 (by decide) (fun h => z_sub [] rfl (b_X11_chance_42 C hr hk r1.1 (q_t hf h))) (fun h => z_sub [0, 1, 2, 3, 4, 5] rfl (b_X11_chance_32 C hr hk r1.1 o0 x1 x2 x3 x4 x5 ho0 (q_f hf h)))
def f_X11_chance_10  (z : St) (o0 : Nat) (x1 : Int32) (x2 : Int32) (x3 : Int32) (x4 : Int32) (x5 : Int32) : Option (St × Int32) :=
  ((f_X11_in z x3 0 30).bind fun r1 => if r1.2 = 0 then f_X11_chance_42 r1.1 else f_X11_chance_20 r1.1 o0 x1 x2 x3 x4 x5)
theorem b_X11_chance_10 {p : Program} {l : Launch} {e : Env} {s : State} {m : MethodId} {args : Array Value} {below : List Frame} {meth : Method} {c : Code} {g : Ga} {A : Nat → Prop} (C : Cx l g A p s m args c cX11_chance 8 RX11 (rm_X11_chance) (0, 0)) (hr : meth.sig.returnType = (some .int)) (hk : meth.locks = false)   (z : St) (o0 : Nat) (x1 : Int32) (x2 : Int32) (x3 : Int32) (x4 : Int32) (x5 : Int32) (ho0 : kd o0 = 11) {res : St × Int32} (hf : f_X11_chance_10  z o0 x1 x2 x3 x4 x5 = some res) : Zj p l e (rm_X11_chance) s m args below meth c g A 8 (0, 0) (QI g A below args s res) z 10 [(0, .ref (g.1 o0)), (1, .int x1), (2, .int x2), (3, .int x3), (4, .int x4), (5, .int x5)] [] := by
  unfold f_X11_chance_10 at hf
  refine z_iload_n C dX11_chance_10 rfl 3 rfl ?_
  refine z_iconst C dX11_chance_11 (v := 0) (by decide) ?_
  refine z_bipush C dX11_chance_12 (v := 30) (by decide) ?_
  obtain ⟨r1, hc2, hf⟩ := q_bd hf
  refine z_cSi C (st := []) (c_X11_in  hc2) mw_X11_in ml_X11_114 dX11_chance_14 rfl rfl rfl ⟨Nat.le_of_ble_eq_true rfl, Nat.le_of_ble_eq_true rfl⟩ rfl (Nat.le_of_ble_eq_true rfl) ?_
  exact z_if_eq C dX11_chance_17 (by decide) (fun h => z_sub [] rfl (b_X11_chance_42 C hr hk r1.1 (q_t hf h))) (fun h => z_sub [0, 1, 2, 3, 4, 5] rfl (b_X11_chance_20 C hr hk r1.1 o0 x1 x2 x3 x4 x5 ho0 (q_f hf h)))
def f_X11_chance_0  (z : St) (o0 : Nat) (x1 : Int32) (x2 : Int32) (x3 : Int32) (x4 : Int32) (x5 : Int32) : Option (St × Int32) :=
  ((f_X11_in z x2 1 8).bind fun r1 => if r1.2 = 0 then f_X11_chance_42 r1.1 else f_X11_chance_10 r1.1 o0 x1 x2 x3 x4 x5)
theorem b_X11_chance_0 {p : Program} {l : Launch} {e : Env} {s : State} {m : MethodId} {args : Array Value} {below : List Frame} {meth : Method} {c : Code} {g : Ga} {A : Nat → Prop} (C : Cx l g A p s m args c cX11_chance 8 RX11 (rm_X11_chance) (0, 0)) (hr : meth.sig.returnType = (some .int)) (hk : meth.locks = false)   (z : St) (o0 : Nat) (x1 : Int32) (x2 : Int32) (x3 : Int32) (x4 : Int32) (x5 : Int32) (ho0 : kd o0 = 11) {res : St × Int32} (hf : f_X11_chance_0  z o0 x1 x2 x3 x4 x5 = some res) : Zj p l e (rm_X11_chance) s m args below meth c g A 8 (0, 0) (QI g A below args s res) z 0 [(0, .ref (g.1 o0)), (1, .int x1), (2, .int x2), (3, .int x3), (4, .int x4), (5, .int x5)] [] := by
  unfold f_X11_chance_0 at hf
  refine z_iload_n C dX11_chance_0 rfl 2 rfl ?_
  refine z_iconst C dX11_chance_1 (v := 1) (by decide) ?_
  refine z_bipush C dX11_chance_2 (v := 8) (by decide) ?_
  obtain ⟨r1, hc2, hf⟩ := q_bd hf
  refine z_cSi C (st := []) (c_X11_in  hc2) mw_X11_in ml_X11_114 dX11_chance_4 rfl rfl rfl ⟨Nat.le_of_ble_eq_true rfl, Nat.le_of_ble_eq_true rfl⟩ rfl (Nat.le_of_ble_eq_true rfl) ?_
  exact z_if_eq C dX11_chance_7 (by decide) (fun h => z_sub [] rfl (b_X11_chance_42 C hr hk r1.1 (q_t hf h))) (fun h => z_sub [0, 1, 2, 3, 4, 5] rfl (b_X11_chance_10 C hr hk r1.1 o0 x1 x2 x3 x4 x5 ho0 (q_f hf h)))
def f_X11_chance (z : St) (o0 : Nat) (x1 : Int32) (x2 : Int32) (x3 : Int32) (x4 : Int32) (x5 : Int32) : Option (St × Int32) := f_X11_chance_0 z o0 x1 x2 x3 x4 x5
theorem c_X11_chance {l : Launch} {g : Ga} {A : Nat → Prop} {z : St} {o0 : Nat} {x1 : Int32} {x2 : Int32} {x3 : Int32} {x4 : Int32} {x5 : Int32} (ho0 : kd o0 = 11) {res : St × Int32} (hf : f_X11_chance z o0 x1 x2 x3 x4 x5 = some res) : CI l g A yX11_chance cX11_chance 8 (some .int) rm_X11_chance [.ref (g.1 o0), .int x1, .int x2, .int x3, .int x4, .int x5] z res :=
  e_CI (by decide) (Nat.le_of_ble_eq_true rfl) rfl (fun p e s m args below meth c C hr hk => z_sub [0, 1, 2, 3, 4, 5] rfl (b_X11_chance_0 C hr hk z o0 x1 x2 x3 x4 x5 ho0 hf))
abbrev rm_X11_hour : Room := { frames := 2, cells := 0, slots := 0, locals := 46 }
def f_X11_hour_118  (z : St) (o0 : Nat) : Option (St) :=
  some (zI z o0 45 ((z.1 o0 45) + 1))
theorem b_X11_hour_118 {p : Program} {l : Launch} {e : Env} {s : State} {m : MethodId} {args : Array Value} {below : List Frame} {meth : Method} {c : Code} {g : Ga} {A : Nat → Prop} (C : Cx l g A p s m args c cX11_hour 2 RX11 (rm_X11_hour) (0, 0)) (hr : meth.sig.returnType = none) (hk : meth.locks = false)   (z : St) (o0 : Nat) (ho0 : kd o0 = 11) {res : St} (hf : f_X11_hour_118  z o0 = some res) : Zj p l e (rm_X11_hour) s m args below meth c g A 2 (0, 0) (QV g A below args s res) z 118 [(0, .ref (g.1 o0))] [] := by
  unfold f_X11_hour_118 at hf
  refine z_aload_n C dX11_hour_118 rfl 0 rfl ?_
  refine z_dup C dX11_hour_119 rfl ?_
  refine gf_X11_332 C dX11_hour_120 ho0 ?_
  refine z_iconst C dX11_hour_123 (v := 1) (by decide) ?_
  refine z_iadd C dX11_hour_124 ?_
  refine pf_X11_332 C dX11_hour_125 ho0 ?_
  cases hf
  exact z_vret C hr hk dX11_hour_128
def f_X11_hour_68  (z : St) (o0 : Nat) : Option (St) :=
  f_X11_hour_118 (zI z o0 50 ((z.1 o0 50) + 1)) o0
theorem b_X11_hour_68 {p : Program} {l : Launch} {e : Env} {s : State} {m : MethodId} {args : Array Value} {below : List Frame} {meth : Method} {c : Code} {g : Ga} {A : Nat → Prop} (C : Cx l g A p s m args c cX11_hour 2 RX11 (rm_X11_hour) (0, 0)) (hr : meth.sig.returnType = none) (hk : meth.locks = false)   (z : St) (o0 : Nat) (ho0 : kd o0 = 11) {res : St} (hf : f_X11_hour_68  z o0 = some res) : Zj p l e (rm_X11_hour) s m args below meth c g A 2 (0, 0) (QV g A below args s res) z 68 [(0, .ref (g.1 o0))] [] := by
  unfold f_X11_hour_68 at hf
  refine z_aload_n C dX11_hour_68 rfl 0 rfl ?_
  refine z_dup C dX11_hour_69 rfl ?_
  refine gf_X11_347 C dX11_hour_70 ho0 ?_
  refine z_iconst C dX11_hour_73 (v := 1) (by decide) ?_
  refine z_iadd C dX11_hour_74 ?_
  refine pf_X11_347 C dX11_hour_75 ho0 ?_
  exact z_goto C dX11_hour_78 (by decide) (z_sub [0] rfl (b_X11_hour_118 C hr hk (zI z o0 50 ((z.1 o0 50) + 1)) o0 ho0 hf))
def f_X11_hour_98  (z : St) (o0 : Nat) : Option (St) :=
  f_X11_hour_118 (zI (zI z o0 48 ((z.1 o0 48) ||| ((1 : Int32) <<< ((z.1 o0 46) &&& 31)))) o0 46 ((-1))) o0
theorem b_X11_hour_98 {p : Program} {l : Launch} {e : Env} {s : State} {m : MethodId} {args : Array Value} {below : List Frame} {meth : Method} {c : Code} {g : Ga} {A : Nat → Prop} (C : Cx l g A p s m args c cX11_hour 2 RX11 (rm_X11_hour) (0, 0)) (hr : meth.sig.returnType = none) (hk : meth.locks = false)   (z : St) (o0 : Nat) (ho0 : kd o0 = 11) {res : St} (hf : f_X11_hour_98  z o0 = some res) : Zj p l e (rm_X11_hour) s m args below meth c g A 2 (0, 0) (QV g A below args s res) z 98 [(0, .ref (g.1 o0))] [] := by
  unfold f_X11_hour_98 at hf
  refine z_aload_n C dX11_hour_98 rfl 0 rfl ?_
  refine z_dup C dX11_hour_99 rfl ?_
  refine gf_X11_341 C dX11_hour_100 ho0 ?_
  refine z_iconst C dX11_hour_103 (v := 1) (by decide) ?_
  refine z_aload_n C dX11_hour_104 rfl 0 rfl ?_
  refine gf_X11_335 C dX11_hour_105 ho0 ?_
  refine z_ishl C dX11_hour_108 ?_
  refine z_ior C dX11_hour_109 ?_
  refine pf_X11_341 C dX11_hour_110 ho0 ?_
  refine z_aload_n C dX11_hour_113 rfl 0 rfl ?_
  refine z_iconst C dX11_hour_114 (v := (-1)) (by decide) ?_
  refine pf_X11_335 C dX11_hour_115 ho0 ?_
  exact z_sub [0] rfl (b_X11_hour_118 C hr hk (zI (zI z o0 48 ((z.1 o0 48) ||| ((1 : Int32) <<< ((z.1 o0 46) &&& 31)))) o0 46 ((-1))) o0 ho0 hf)
def f_X11_hour_81  (z : St) (o0 : Nat) : Option (St) :=
  if ((zI z o0 47 ((z.1 o0 47) - 1)).1 o0 47) = 0 then f_X11_hour_98 (zI z o0 47 ((z.1 o0 47) - 1)) o0 else f_X11_hour_118 (zI z o0 47 ((z.1 o0 47) - 1)) o0
theorem b_X11_hour_81 {p : Program} {l : Launch} {e : Env} {s : State} {m : MethodId} {args : Array Value} {below : List Frame} {meth : Method} {c : Code} {g : Ga} {A : Nat → Prop} (C : Cx l g A p s m args c cX11_hour 2 RX11 (rm_X11_hour) (0, 0)) (hr : meth.sig.returnType = none) (hk : meth.locks = false)   (z : St) (o0 : Nat) (ho0 : kd o0 = 11) {res : St} (hf : f_X11_hour_81  z o0 = some res) : Zj p l e (rm_X11_hour) s m args below meth c g A 2 (0, 0) (QV g A below args s res) z 81 [(0, .ref (g.1 o0))] [] := by
  unfold f_X11_hour_81 at hf
  refine z_aload_n C dX11_hour_81 rfl 0 rfl ?_
  refine z_dup C dX11_hour_82 rfl ?_
  refine gf_X11_338 C dX11_hour_83 ho0 ?_
  refine z_iconst C dX11_hour_86 (v := 1) (by decide) ?_
  refine z_isub C dX11_hour_87 ?_
  refine pf_X11_338 C dX11_hour_88 ho0 ?_
  refine z_aload_n C dX11_hour_91 rfl 0 rfl ?_
  refine gf_X11_338 C dX11_hour_92 ho0 ?_
  exact z_if_ne C dX11_hour_95 (by decide) (fun h => z_sub [0] rfl (b_X11_hour_118 C hr hk (zI z o0 47 ((z.1 o0 47) - 1)) o0 ho0 (q_f hf h))) (fun h => z_sub [0] rfl (b_X11_hour_98 C hr hk (zI z o0 47 ((z.1 o0 47) - 1)) o0 ho0 (q_t hf h)))
def f_X11_hour_61  (z : St) (o0 : Nat) : Option (St) :=
  if 0 ≤ (z.1 o0 46) then f_X11_hour_81 z o0 else f_X11_hour_68 z o0
theorem b_X11_hour_61 {p : Program} {l : Launch} {e : Env} {s : State} {m : MethodId} {args : Array Value} {below : List Frame} {meth : Method} {c : Code} {g : Ga} {A : Nat → Prop} (C : Cx l g A p s m args c cX11_hour 2 RX11 (rm_X11_hour) (0, 0)) (hr : meth.sig.returnType = none) (hk : meth.locks = false)   (z : St) (o0 : Nat) (ho0 : kd o0 = 11) {res : St} (hf : f_X11_hour_61  z o0 = some res) : Zj p l e (rm_X11_hour) s m args below meth c g A 2 (0, 0) (QV g A below args s res) z 61 [(0, .ref (g.1 o0))] [] := by
  unfold f_X11_hour_61 at hf
  refine z_aload_n C dX11_hour_61 rfl 0 rfl ?_
  refine gf_X11_335 C dX11_hour_62 ho0 ?_
  exact z_if_ge C dX11_hour_65 (by decide) (fun h => z_sub [0] rfl (b_X11_hour_81 C hr hk z o0 ho0 (q_t hf h))) (fun h => z_sub [0] rfl (b_X11_hour_68 C hr hk z o0 ho0 (q_f hf h)))
def f_X11_hour_24  (z : St) (o0 : Nat) (x1 : Int32) : Option (St) :=
  if inb x1 8 = true then (if inb x1 8 = true then (f_X11_hour_61 (zI (zI (zI (zI z o0 46 x1) o0 47 ((zI z o0 46 x1).1 (rf o0 14) (Int32.toNatClampNeg x1))) o0 49 (((zI (zI z o0 46 x1) o0 47 ((zI z o0 46 x1).1 (rf o0 14) (Int32.toNatClampNeg x1))).1 o0 49) ||| ((1 : Int32) <<< (x1 &&& 31)))) (rf o0 51) (Int32.toNatClampNeg x1) ((zI (zI (zI z o0 46 x1) o0 47 ((zI z o0 46 x1).1 (rf o0 14) (Int32.toNatClampNeg x1))) o0 49 (((zI (zI z o0 46 x1) o0 47 ((zI z o0 46 x1).1 (rf o0 14) (Int32.toNatClampNeg x1))).1 o0 49) ||| ((1 : Int32) <<< (x1 &&& 31)))).1 o0 45)) o0) else none) else none
theorem b_X11_hour_24 {p : Program} {l : Launch} {e : Env} {s : State} {m : MethodId} {args : Array Value} {below : List Frame} {meth : Method} {c : Code} {g : Ga} {A : Nat → Prop} (C : Cx l g A p s m args c cX11_hour 2 RX11 (rm_X11_hour) (0, 0)) (hr : meth.sig.returnType = none) (hk : meth.locks = false)   (z : St) (o0 : Nat) (x1 : Int32) (ho0 : kd o0 = 11) {res : St} (hf : f_X11_hour_24  z o0 x1 = some res) : Zj p l e (rm_X11_hour) s m args below meth c g A 2 (0, 0) (QV g A below args s res) z 24 [(0, .ref (g.1 o0)), (1, .int x1)] [] := by
  unfold f_X11_hour_24 at hf
  refine z_aload_n C dX11_hour_24 rfl 0 rfl ?_
  refine z_iload_n C dX11_hour_25 rfl 1 rfl ?_
  refine pf_X11_335 C dX11_hour_26 ho0 ?_
  refine z_aload_n C dX11_hour_29 rfl 0 rfl ?_
  refine z_aload_n C dX11_hour_30 rfl 0 rfl ?_
  refine gf_X11_31 C dX11_hour_31 ho0 ?_
  refine z_iload_n C dX11_hour_34 rfl 1 rfl ?_
  obtain ⟨h1, hf⟩ := q_ck hf
  refine z_iald C (n := 8) dX11_hour_35 (rt_11_14 _ (kd_lt ho0 (by decide)) ho0) (by decide) h1 ?_
  refine pf_X11_338 C dX11_hour_36 ho0 ?_
  refine z_aload_n C dX11_hour_39 rfl 0 rfl ?_
  refine z_dup C dX11_hour_40 rfl ?_
  refine gf_X11_344 C dX11_hour_41 ho0 ?_
  refine z_iconst C dX11_hour_44 (v := 1) (by decide) ?_
  refine z_iload_n C dX11_hour_45 rfl 1 rfl ?_
  refine z_ishl C dX11_hour_46 ?_
  refine z_ior C dX11_hour_47 ?_
  refine pf_X11_344 C dX11_hour_48 ho0 ?_
  refine z_aload_n C dX11_hour_51 rfl 0 rfl ?_
  refine gf_X11_85 C dX11_hour_52 ho0 ?_
  refine z_iload_n C dX11_hour_55 rfl 1 rfl ?_
  refine z_aload_n C dX11_hour_56 rfl 0 rfl ?_
  refine gf_X11_332 C dX11_hour_57 ho0 ?_
  obtain ⟨h2, hf⟩ := q_ck hf
  refine z_iast C (n := 8) dX11_hour_60 (rt_11_51 _ (kd_lt ho0 (by decide)) ho0) (by decide) h2 ?_
  exact z_sub [0] rfl (b_X11_hour_61 C hr hk (zI (zI (zI (zI z o0 46 x1) o0 47 ((zI z o0 46 x1).1 (rf o0 14) (Int32.toNatClampNeg x1))) o0 49 (((zI (zI z o0 46 x1) o0 47 ((zI z o0 46 x1).1 (rf o0 14) (Int32.toNatClampNeg x1))).1 o0 49) ||| ((1 : Int32) <<< (x1 &&& 31)))) (rf o0 51) (Int32.toNatClampNeg x1) ((zI (zI (zI z o0 46 x1) o0 47 ((zI z o0 46 x1).1 (rf o0 14) (Int32.toNatClampNeg x1))) o0 49 (((zI (zI z o0 46 x1) o0 47 ((zI z o0 46 x1).1 (rf o0 14) (Int32.toNatClampNeg x1))).1 o0 49) ||| ((1 : Int32) <<< (x1 &&& 31)))).1 o0 45)) o0 ho0 hf)
def f_X11_hour_7  (z : St) (o0 : Nat) : Option (St) :=
  ((f_X11_chosen z o0 (z.1 o0 45) (z.1 o0 49)).bind fun r1 => if r1.2 < 0 then f_X11_hour_61 r1.1 o0 else f_X11_hour_24 r1.1 o0 r1.2)
theorem b_X11_hour_7 {p : Program} {l : Launch} {e : Env} {s : State} {m : MethodId} {args : Array Value} {below : List Frame} {meth : Method} {c : Code} {g : Ga} {A : Nat → Prop} (C : Cx l g A p s m args c cX11_hour 2 RX11 (rm_X11_hour) (0, 0)) (hr : meth.sig.returnType = none) (hk : meth.locks = false)   (z : St) (o0 : Nat) (ho0 : kd o0 = 11) {res : St} (hf : f_X11_hour_7  z o0 = some res) : Zj p l e (rm_X11_hour) s m args below meth c g A 2 (0, 0) (QV g A below args s res) z 7 [(0, .ref (g.1 o0))] [] := by
  unfold f_X11_hour_7 at hf
  refine z_aload_n C dX11_hour_7 rfl 0 rfl ?_
  refine z_aload_n C dX11_hour_8 rfl 0 rfl ?_
  refine gf_X11_332 C dX11_hour_9 ho0 ?_
  refine z_aload_n C dX11_hour_12 rfl 0 rfl ?_
  refine gf_X11_344 C dX11_hour_13 ho0 ?_
  obtain ⟨r1, hc2, hf⟩ := q_bd hf
  refine z_cVi C (st := []) (c_X11_chosen ho0 hc2) mw_X11_chosen ml_X11_196 ho0 (by decide) rfl dX11_hour_16 rfl rfl rfl ⟨Nat.le_of_ble_eq_true rfl, Nat.le_of_ble_eq_true rfl⟩ rfl (Nat.le_of_ble_eq_true rfl) ?_
  refine z_istore_n C (lv2 := [(1, .int r1.2), (0, .ref (g.1 o0))]) dX11_hour_19 rfl (by decide) rfl ?_
  refine z_iload_n C dX11_hour_20 rfl 0 rfl ?_
  exact z_if_lt C dX11_hour_21 (by decide) (fun h => z_sub [1] rfl (b_X11_hour_61 C hr hk r1.1 o0 ho0 (q_t hf h))) (fun h => z_sub [1, 0] rfl (b_X11_hour_24 C hr hk r1.1 o0 r1.2 ho0 (q_f hf h)))
def f_X11_hour_0  (z : St) (o0 : Nat) : Option (St) :=
  if 0 ≤ (z.1 o0 46) then f_X11_hour_61 z o0 else f_X11_hour_7 z o0
theorem b_X11_hour_0 {p : Program} {l : Launch} {e : Env} {s : State} {m : MethodId} {args : Array Value} {below : List Frame} {meth : Method} {c : Code} {g : Ga} {A : Nat → Prop} (C : Cx l g A p s m args c cX11_hour 2 RX11 (rm_X11_hour) (0, 0)) (hr : meth.sig.returnType = none) (hk : meth.locks = false)   (z : St) (o0 : Nat) (ho0 : kd o0 = 11) {res : St} (hf : f_X11_hour_0  z o0 = some res) : Zj p l e (rm_X11_hour) s m args below meth c g A 2 (0, 0) (QV g A below args s res) z 0 [(0, .ref (g.1 o0))] [] := by
  unfold f_X11_hour_0 at hf
  refine z_aload_n C dX11_hour_0 rfl 0 rfl ?_
  refine gf_X11_335 C dX11_hour_1 ho0 ?_
  exact z_if_ge C dX11_hour_4 (by decide) (fun h => z_sub [0] rfl (b_X11_hour_61 C hr hk z o0 ho0 (q_t hf h))) (fun h => z_sub [0] rfl (b_X11_hour_7 C hr hk z o0 ho0 (q_f hf h)))
def f_X11_hour (z : St) (o0 : Nat) : Option (St) := f_X11_hour_0 z o0
theorem c_X11_hour {l : Launch} {g : Ga} {A : Nat → Prop} {z : St} {o0 : Nat} (ho0 : kd o0 = 11) {res : St} (hf : f_X11_hour z o0 = some res) : CV l g A yX11_hour cX11_hour 2 none rm_X11_hour [.ref (g.1 o0)] z res :=
  e_CV (by decide) (Nat.le_of_ble_eq_true rfl) rfl (fun p e s m args below meth c C hr hk => z_sub [0] rfl (b_X11_hour_0 C hr hk z o0 ho0 hf))
abbrev rm_X11_go : Room := { frames := 4, cells := 0, slots := 0, locals := 85 }
def f_X11_go_10  (z : St)  : Option (St × Int32) :=
  some (z, (-2))
theorem b_X11_go_10 {p : Program} {l : Launch} {e : Env} {s : State} {m : MethodId} {args : Array Value} {below : List Frame} {meth : Method} {c : Code} {g : Ga} {A : Nat → Prop} (C : Cx l g A p s m args c cX11_go 3 RX11 (rm_X11_go) (0, 0)) (hr : meth.sig.returnType = (some .int)) (hk : meth.locks = false)   (z : St)   {res : St × Int32} (hf : f_X11_go_10  z  = some res) : Zj p l e (rm_X11_go) s m args below meth c g A 3 (0, 0) (QI g A below args s res) z 10 [] [] := by
  unfold f_X11_go_10 at hf
  refine z_bipush C dX11_go_10 (v := (-2)) (by decide) ?_
  cases hf
  exact z_iret C hr hk dX11_go_12
def f_X11_go_25  (z : St)  : Option (St × Int32) :=
  some (z, (-4))
theorem b_X11_go_25 {p : Program} {l : Launch} {e : Env} {s : State} {m : MethodId} {args : Array Value} {below : List Frame} {meth : Method} {c : Code} {g : Ga} {A : Nat → Prop} (C : Cx l g A p s m args c cX11_go 3 RX11 (rm_X11_go) (0, 0)) (hr : meth.sig.returnType = (some .int)) (hk : meth.locks = false)   (z : St)   {res : St × Int32} (hf : f_X11_go_25  z  = some res) : Zj p l e (rm_X11_go) s m args below meth c g A 3 (0, 0) (QI g A below args s res) z 25 [] [] := by
  unfold f_X11_go_25 at hf
  refine z_bipush C dX11_go_25 (v := (-4)) (by decide) ?_
  cases hf
  exact z_iret C hr hk dX11_go_27
def f_X11_go_39 (K34 : St → Nat → Int32 → Int32 → Option (St × Int32)) (z : St) (o0 : Nat) (x1 : Int32) (x2 : Int32) : Option (St × Int32) :=
  ((f_X11_hour z o0).bind fun r1 => K34 r1 o0 x1 (x2 + 1))
theorem b_X11_go_39 {p : Program} {l : Launch} {e : Env} {s : State} {m : MethodId} {args : Array Value} {below : List Frame} {meth : Method} {c : Code} {g : Ga} {A : Nat → Prop} (C : Cx l g A p s m args c cX11_go 3 RX11 (rm_X11_go) (0, 0)) (hr : meth.sig.returnType = (some .int)) (hk : meth.locks = false) {K34 : St → Nat → Int32 → Int32 → Option (St × Int32)} (hK34 : ∀ (z : St) (o0 : Nat) (x1 : Int32) (x2 : Int32) (_ : kd o0 = 11) {res : St × Int32}, K34 z o0 x1 x2 = some res → Zj p l e (rm_X11_go) s m args below meth c g A 3 (0, 0) (QI g A below args s res) z 34 [(0, .ref (g.1 o0)), (1, .int x1), (2, .int x2)] []) (z : St) (o0 : Nat) (x1 : Int32) (x2 : Int32) (ho0 : kd o0 = 11) {res : St × Int32} (hf : f_X11_go_39 K34 z o0 x1 x2 = some res) : Zj p l e (rm_X11_go) s m args below meth c g A 3 (0, 0) (QI g A below args s res) z 39 [(0, .ref (g.1 o0)), (1, .int x1), (2, .int x2)] [] := by
  unfold f_X11_go_39 at hf
  refine z_aload_n C dX11_go_39 rfl 0 rfl ?_
  obtain ⟨r1, hc2, hf⟩ := q_bd hf
  refine z_cVv C (st := []) (c_X11_hour ho0 hc2) mw_X11_hour ml_X11_350 ho0 (by decide) rfl dX11_go_40 rfl rfl rfl ⟨Nat.le_of_ble_eq_true rfl, Nat.le_of_ble_eq_true rfl⟩ rfl (Nat.le_of_ble_eq_true rfl) ?_
  refine z_iinc C (k := 2) (v := x2 + 1) (lv2 := [(2, .int (x2 + 1)), (0, .ref (g.1 o0)), (1, .int x1)]) dX11_go_43 rfl rfl (by decide) rfl ?_
  exact z_goto C dX11_go_46 (by decide) (z_sub [1, 2, 0] rfl (hK34 r1 o0 x1 (x2 + 1) ho0 hf))
def f_X11_go_49  (z : St) (o0 : Nat) : Option (St × Int32) :=
  some (z, z.1 o0 45)
theorem b_X11_go_49 {p : Program} {l : Launch} {e : Env} {s : State} {m : MethodId} {args : Array Value} {below : List Frame} {meth : Method} {c : Code} {g : Ga} {A : Nat → Prop} (C : Cx l g A p s m args c cX11_go 3 RX11 (rm_X11_go) (0, 0)) (hr : meth.sig.returnType = (some .int)) (hk : meth.locks = false)   (z : St) (o0 : Nat) (ho0 : kd o0 = 11) {res : St × Int32} (hf : f_X11_go_49  z o0 = some res) : Zj p l e (rm_X11_go) s m args below meth c g A 3 (0, 0) (QI g A below args s res) z 49 [(0, .ref (g.1 o0))] [] := by
  unfold f_X11_go_49 at hf
  refine z_aload_n C dX11_go_49 rfl 0 rfl ?_
  refine gf_X11_332 C dX11_go_50 ho0 ?_
  cases hf
  exact z_iret C hr hk dX11_go_53
def f_X11_go_34  : Nat → St → Nat → Int32 → Int32 → Option (St × Int32)
  | 0, _, _, _, _ => none
  | n + 1, z, o0, x1, x2 => if x1 ≤ x2 then f_X11_go_49 z o0 else f_X11_go_39 (f_X11_go_34 n) z o0 x1 x2
theorem b_X11_go_34 {p : Program} {l : Launch} {e : Env} {s : State} {m : MethodId} {args : Array Value} {below : List Frame} {meth : Method} {c : Code} {g : Ga} {A : Nat → Prop} (C : Cx l g A p s m args c cX11_go 3 RX11 (rm_X11_go) (0, 0)) (hr : meth.sig.returnType = (some .int)) (hk : meth.locks = false)   : ∀ (n : Nat) (z : St) (o0 : Nat) (x1 : Int32) (x2 : Int32) (_ : kd o0 = 11) {res : St × Int32} (_ : f_X11_go_34  n z o0 x1 x2 = some res), Zj p l e (rm_X11_go) s m args below meth c g A 3 (0, 0) (QI g A below args s res) z 34 [(0, .ref (g.1 o0)), (1, .int x1), (2, .int x2)] [] := by
  intro n
  induction n with
  | zero =>
    intro z o0 x1 x2 ho0 res hf
    cases hf
  | succ n ih =>
    intro z o0 x1 x2 ho0 res hf
    rw [f_X11_go_34] at hf
    refine z_iload_n C dX11_go_34 rfl 2 rfl ?_
    refine z_iload_n C dX11_go_35 rfl 1 rfl ?_
    exact z_icmp_ge C dX11_go_36 (by decide) (fun h => z_sub [0] rfl (b_X11_go_49 C hr hk z o0 ho0 (q_t hf h))) (fun h => z_sub [0, 1, 2] rfl (b_X11_go_39 C hr hk ih z o0 x1 x2 ho0 (q_f hf h)))
def f_X11_go_28  (z : St) (o0 : Nat) (x1 : Int32) : Option (St × Int32) :=
  ((f_X11_thinks z o0).bind fun r1 => f_X11_go_34 FU r1 o0 x1 0)
theorem b_X11_go_28 {p : Program} {l : Launch} {e : Env} {s : State} {m : MethodId} {args : Array Value} {below : List Frame} {meth : Method} {c : Code} {g : Ga} {A : Nat → Prop} (C : Cx l g A p s m args c cX11_go 3 RX11 (rm_X11_go) (0, 0)) (hr : meth.sig.returnType = (some .int)) (hk : meth.locks = false)   (z : St) (o0 : Nat) (x1 : Int32) (ho0 : kd o0 = 11) {res : St × Int32} (hf : f_X11_go_28  z o0 x1 = some res) : Zj p l e (rm_X11_go) s m args below meth c g A 3 (0, 0) (QI g A below args s res) z 28 [(0, .ref (g.1 o0)), (1, .int x1)] [] := by
  unfold f_X11_go_28 at hf
  refine z_aload_n C dX11_go_28 rfl 0 rfl ?_
  obtain ⟨r1, hc2, hf⟩ := q_bd hf
  refine z_cVv C (st := []) (c_X11_thinks ho0 hc2) mw_X11_thinks ml_X11_205 ho0 (by decide) rfl dX11_go_29 rfl rfl rfl ⟨Nat.le_of_ble_eq_true rfl, Nat.le_of_ble_eq_true rfl⟩ rfl (Nat.le_of_ble_eq_true rfl) ?_
  refine z_iconst C dX11_go_32 (v := 0) (by decide) ?_
  refine z_istore_n C (lv2 := [(2, .int 0), (0, .ref (g.1 o0)), (1, .int x1)]) dX11_go_33 rfl (by decide) rfl ?_
  exact z_sub [1, 2, 0] rfl (b_X11_go_34 C hr hk FU r1 o0 x1 0 ho0 hf)
def f_X11_go_13  (z : St) (o0 : Nat) (x1 : Int32) : Option (St × Int32) :=
  if ((z.1 o0 45) + x1) ≤ 999 then f_X11_go_28 z o0 x1 else f_X11_go_25 z
theorem b_X11_go_13 {p : Program} {l : Launch} {e : Env} {s : State} {m : MethodId} {args : Array Value} {below : List Frame} {meth : Method} {c : Code} {g : Ga} {A : Nat → Prop} (C : Cx l g A p s m args c cX11_go 3 RX11 (rm_X11_go) (0, 0)) (hr : meth.sig.returnType = (some .int)) (hk : meth.locks = false)   (z : St) (o0 : Nat) (x1 : Int32) (ho0 : kd o0 = 11) {res : St × Int32} (hf : f_X11_go_13  z o0 x1 = some res) : Zj p l e (rm_X11_go) s m args below meth c g A 3 (0, 0) (QI g A below args s res) z 13 [(0, .ref (g.1 o0)), (1, .int x1)] [] := by
  unfold f_X11_go_13 at hf
  refine z_aload_n C dX11_go_13 rfl 0 rfl ?_
  refine gf_X11_332 C dX11_go_14 ho0 ?_
  refine z_iload_n C dX11_go_17 rfl 1 rfl ?_
  refine z_iadd C dX11_go_18 ?_
  refine z_sipush C dX11_go_19 (v := 999) (by decide) ?_
  exact z_icmp_le C dX11_go_22 (by decide) (fun h => z_sub [0, 1] rfl (b_X11_go_28 C hr hk z o0 x1 ho0 (q_t hf h))) (fun h => z_sub [] rfl (b_X11_go_25 C hr hk z (q_f hf h)))
def f_X11_go_0  (z : St) (o0 : Nat) (x1 : Int32) : Option (St × Int32) :=
  ((f_X11_in z x1 1 60).bind fun r1 => if r1.2 = 0 then f_X11_go_10 r1.1 else f_X11_go_13 r1.1 o0 x1)
theorem b_X11_go_0 {p : Program} {l : Launch} {e : Env} {s : State} {m : MethodId} {args : Array Value} {below : List Frame} {meth : Method} {c : Code} {g : Ga} {A : Nat → Prop} (C : Cx l g A p s m args c cX11_go 3 RX11 (rm_X11_go) (0, 0)) (hr : meth.sig.returnType = (some .int)) (hk : meth.locks = false)   (z : St) (o0 : Nat) (x1 : Int32) (ho0 : kd o0 = 11) {res : St × Int32} (hf : f_X11_go_0  z o0 x1 = some res) : Zj p l e (rm_X11_go) s m args below meth c g A 3 (0, 0) (QI g A below args s res) z 0 [(0, .ref (g.1 o0)), (1, .int x1)] [] := by
  unfold f_X11_go_0 at hf
  refine z_iload_n C dX11_go_0 rfl 1 rfl ?_
  refine z_iconst C dX11_go_1 (v := 1) (by decide) ?_
  refine z_bipush C dX11_go_2 (v := 60) (by decide) ?_
  obtain ⟨r1, hc2, hf⟩ := q_bd hf
  refine z_cSi C (st := []) (c_X11_in  hc2) mw_X11_in ml_X11_114 dX11_go_4 rfl rfl rfl ⟨Nat.le_of_ble_eq_true rfl, Nat.le_of_ble_eq_true rfl⟩ rfl (Nat.le_of_ble_eq_true rfl) ?_
  exact z_if_ne C dX11_go_7 (by decide) (fun h => z_sub [0, 1] rfl (b_X11_go_13 C hr hk r1.1 o0 x1 ho0 (q_f hf h))) (fun h => z_sub [] rfl (b_X11_go_10 C hr hk r1.1 (q_t hf h)))
def f_X11_go (z : St) (o0 : Nat) (x1 : Int32) : Option (St × Int32) := f_X11_go_0 z o0 x1
theorem c_X11_go {l : Launch} {g : Ga} {A : Nat → Prop} {z : St} {o0 : Nat} {x1 : Int32} (ho0 : kd o0 = 11) {res : St × Int32} (hf : f_X11_go z o0 x1 = some res) : CI l g A yX11_go cX11_go 3 (some .int) rm_X11_go [.ref (g.1 o0), .int x1] z res :=
  e_CI (by decide) (Nat.le_of_ble_eq_true rfl) rfl (fun p e s m args below meth c C hr hk => z_sub [0, 1] rfl (b_X11_go_0 C hr hk z o0 x1 ho0 hf))
abbrev rm_X11_bench : Room := { frames := 0, cells := 0, slots := 0, locals := 0 }
def f_X11_bench_32  (z : St) (o0 : Nat) : Option (St × Int32) :=
  some (z, z.1 o0 45)
theorem b_X11_bench_32 {p : Program} {l : Launch} {e : Env} {s : State} {m : MethodId} {args : Array Value} {below : List Frame} {meth : Method} {c : Code} {g : Ga} {A : Nat → Prop} (C : Cx l g A p s m args c cX11_bench 2 RX11 (rm_X11_bench) (0, 0)) (hr : meth.sig.returnType = (some .int)) (hk : meth.locks = false)   (z : St) (o0 : Nat) (ho0 : kd o0 = 11) {res : St × Int32} (hf : f_X11_bench_32  z o0 = some res) : Zj p l e (rm_X11_bench) s m args below meth c g A 2 (0, 0) (QI g A below args s res) z 32 [(0, .ref (g.1 o0))] [] := by
  unfold f_X11_bench_32 at hf
  refine z_aload_n C dX11_bench_32 rfl 0 rfl ?_
  refine gf_X11_332 C dX11_bench_33 ho0 ?_
  cases hf
  exact z_iret C hr hk dX11_bench_36
def f_X11_bench_37  (z : St) (o0 : Nat) : Option (St × Int32) :=
  some (z, z.1 o0 46)
theorem b_X11_bench_37 {p : Program} {l : Launch} {e : Env} {s : State} {m : MethodId} {args : Array Value} {below : List Frame} {meth : Method} {c : Code} {g : Ga} {A : Nat → Prop} (C : Cx l g A p s m args c cX11_bench 2 RX11 (rm_X11_bench) (0, 0)) (hr : meth.sig.returnType = (some .int)) (hk : meth.locks = false)   (z : St) (o0 : Nat) (ho0 : kd o0 = 11) {res : St × Int32} (hf : f_X11_bench_37  z o0 = some res) : Zj p l e (rm_X11_bench) s m args below meth c g A 2 (0, 0) (QI g A below args s res) z 37 [(0, .ref (g.1 o0))] [] := by
  unfold f_X11_bench_37 at hf
  refine z_aload_n C dX11_bench_37 rfl 0 rfl ?_
  refine gf_X11_335 C dX11_bench_38 ho0 ?_
  cases hf
  exact z_iret C hr hk dX11_bench_41
def f_X11_bench_42  (z : St) (o0 : Nat) : Option (St × Int32) :=
  some (z, z.1 o0 48)
theorem b_X11_bench_42 {p : Program} {l : Launch} {e : Env} {s : State} {m : MethodId} {args : Array Value} {below : List Frame} {meth : Method} {c : Code} {g : Ga} {A : Nat → Prop} (C : Cx l g A p s m args c cX11_bench 2 RX11 (rm_X11_bench) (0, 0)) (hr : meth.sig.returnType = (some .int)) (hk : meth.locks = false)   (z : St) (o0 : Nat) (ho0 : kd o0 = 11) {res : St × Int32} (hf : f_X11_bench_42  z o0 = some res) : Zj p l e (rm_X11_bench) s m args below meth c g A 2 (0, 0) (QI g A below args s res) z 42 [(0, .ref (g.1 o0))] [] := by
  unfold f_X11_bench_42 at hf
  refine z_aload_n C dX11_bench_42 rfl 0 rfl ?_
  refine gf_X11_341 C dX11_bench_43 ho0 ?_
  cases hf
  exact z_iret C hr hk dX11_bench_46
def f_X11_bench_47  (z : St) (o0 : Nat) : Option (St × Int32) :=
  some (z, z.1 o0 50)
theorem b_X11_bench_47 {p : Program} {l : Launch} {e : Env} {s : State} {m : MethodId} {args : Array Value} {below : List Frame} {meth : Method} {c : Code} {g : Ga} {A : Nat → Prop} (C : Cx l g A p s m args c cX11_bench 2 RX11 (rm_X11_bench) (0, 0)) (hr : meth.sig.returnType = (some .int)) (hk : meth.locks = false)   (z : St) (o0 : Nat) (ho0 : kd o0 = 11) {res : St × Int32} (hf : f_X11_bench_47  z o0 = some res) : Zj p l e (rm_X11_bench) s m args below meth c g A 2 (0, 0) (QI g A below args s res) z 47 [(0, .ref (g.1 o0))] [] := by
  unfold f_X11_bench_47 at hf
  refine z_aload_n C dX11_bench_47 rfl 0 rfl ?_
  refine gf_X11_347 C dX11_bench_48 ho0 ?_
  cases hf
  exact z_iret C hr hk dX11_bench_51
def f_X11_bench_52  (z : St)  : Option (St × Int32) :=
  some (z, (-2))
theorem b_X11_bench_52 {p : Program} {l : Launch} {e : Env} {s : State} {m : MethodId} {args : Array Value} {below : List Frame} {meth : Method} {c : Code} {g : Ga} {A : Nat → Prop} (C : Cx l g A p s m args c cX11_bench 2 RX11 (rm_X11_bench) (0, 0)) (hr : meth.sig.returnType = (some .int)) (hk : meth.locks = false)   (z : St)   {res : St × Int32} (hf : f_X11_bench_52  z  = some res) : Zj p l e (rm_X11_bench) s m args below meth c g A 2 (0, 0) (QI g A below args s res) z 52 [] [] := by
  unfold f_X11_bench_52 at hf
  refine z_bipush C dX11_bench_52 (v := (-2)) (by decide) ?_
  cases hf
  exact z_iret C hr hk dX11_bench_54
def f_X11_bench_0  (z : St) (o0 : Nat) (x1 : Int32) : Option (St × Int32) :=
  if x1 = 0 then f_X11_bench_32 z o0 else if x1 = 1 then f_X11_bench_37 z o0 else if x1 = 2 then f_X11_bench_42 z o0 else if x1 = 3 then f_X11_bench_47 z o0 else f_X11_bench_52 z
theorem b_X11_bench_0 {p : Program} {l : Launch} {e : Env} {s : State} {m : MethodId} {args : Array Value} {below : List Frame} {meth : Method} {c : Code} {g : Ga} {A : Nat → Prop} (C : Cx l g A p s m args c cX11_bench 2 RX11 (rm_X11_bench) (0, 0)) (hr : meth.sig.returnType = (some .int)) (hk : meth.locks = false)   (z : St) (o0 : Nat) (x1 : Int32) (ho0 : kd o0 = 11) {res : St × Int32} (hf : f_X11_bench_0  z o0 x1 = some res) : Zj p l e (rm_X11_bench) s m args below meth c g A 2 (0, 0) (QI g A below args s res) z 0 [(0, .ref (g.1 o0)), (1, .int x1)] [] := by
  unfold f_X11_bench_0 at hf
  refine z_iload_n C dX11_bench_0 rfl 1 rfl ?_
  by_cases h1 : x1 = 0
  · exact z_tblK C dX11_bench_1 (k := 0) h1 (by decide) (by decide) (off := 31) (by decide) (by decide) (z_sub [0] rfl (b_X11_bench_32 C hr hk z o0 ho0 (q_t hf h1)))
  replace hf := q_f hf h1
  by_cases h2 : x1 = 1
  · exact z_tblK C dX11_bench_1 (k := 1) h2 (by decide) (by decide) (off := 36) (by decide) (by decide) (z_sub [0] rfl (b_X11_bench_37 C hr hk z o0 ho0 (q_t hf h2)))
  replace hf := q_f hf h2
  by_cases h3 : x1 = 2
  · exact z_tblK C dX11_bench_1 (k := 2) h3 (by decide) (by decide) (off := 41) (by decide) (by decide) (z_sub [0] rfl (b_X11_bench_42 C hr hk z o0 ho0 (q_t hf h3)))
  replace hf := q_f hf h3
  by_cases h4 : x1 = 3
  · exact z_tblK C dX11_bench_1 (k := 3) h4 (by decide) (by decide) (off := 46) (by decide) (by decide) (z_sub [0] rfl (b_X11_bench_47 C hr hk z o0 ho0 (q_t hf h4)))
  replace hf := q_f hf h4
  exact z_tblOut C dX11_bench_1 (tbl_out (lo := 0) (hi := 3) (fun k q1 q2 => by
    rcases (show k = 0 ∨ k = 1 ∨ k = 2 ∨ k = 3 by omega) with rfl | rfl | rfl | rfl
    · exact fun e => h1 (e.symm.trans (by decide))
    · exact fun e => h2 (e.symm.trans (by decide))
    · exact fun e => h3 (e.symm.trans (by decide))
    · exact fun e => h4 (e.symm.trans (by decide)))) (by decide) (z_sub [] rfl (b_X11_bench_52 C hr hk z hf))
def f_X11_bench (z : St) (o0 : Nat) (x1 : Int32) : Option (St × Int32) := f_X11_bench_0 z o0 x1
theorem c_X11_bench {l : Launch} {g : Ga} {A : Nat → Prop} {z : St} {o0 : Nat} {x1 : Int32} (ho0 : kd o0 = 11) {res : St × Int32} (hf : f_X11_bench z o0 x1 = some res) : CI l g A yX11_bench cX11_bench 2 (some .int) rm_X11_bench [.ref (g.1 o0), .int x1] z res :=
  e_CI (by decide) (Nat.le_of_ble_eq_true rfl) rfl (fun p e s m args below meth c C hr hk => z_sub [0, 1] rfl (b_X11_bench_0 C hr hk z o0 x1 ho0 hf))
abbrev rm_X11_began : Room := { frames := 2, cells := 0, slots := 0, locals := 43 }
def f_X11_began_19  (z : St) (s0 : Int32) : Option (St × Int32) :=
  some (z, s0)
theorem b_X11_began_19 {p : Program} {l : Launch} {e : Env} {s : State} {m : MethodId} {args : Array Value} {below : List Frame} {meth : Method} {c : Code} {g : Ga} {A : Nat → Prop} (C : Cx l g A p s m args c cX11_began 2 RX11 (rm_X11_began) (0, 0)) (hr : meth.sig.returnType = (some .int)) (hk : meth.locks = false)   (z : St) (s0 : Int32)  {res : St × Int32} (hf : f_X11_began_19  z s0 = some res) : Zj p l e (rm_X11_began) s m args below meth c g A 2 (0, 0) (QI g A below args s res) z 19 [] [.int s0] := by
  unfold f_X11_began_19 at hf
  cases hf
  exact z_iret C hr hk dX11_began_19
def f_X11_began_8  (z : St) (o0 : Nat) (x1 : Int32) : Option (St × Int32) :=
  if inb x1 8 = true then (f_X11_began_19 z (z.1 (rf o0 51) (Int32.toNatClampNeg x1))) else none
theorem b_X11_began_8 {p : Program} {l : Launch} {e : Env} {s : State} {m : MethodId} {args : Array Value} {below : List Frame} {meth : Method} {c : Code} {g : Ga} {A : Nat → Prop} (C : Cx l g A p s m args c cX11_began 2 RX11 (rm_X11_began) (0, 0)) (hr : meth.sig.returnType = (some .int)) (hk : meth.locks = false)   (z : St) (o0 : Nat) (x1 : Int32) (ho0 : kd o0 = 11) {res : St × Int32} (hf : f_X11_began_8  z o0 x1 = some res) : Zj p l e (rm_X11_began) s m args below meth c g A 2 (0, 0) (QI g A below args s res) z 8 [(0, .ref (g.1 o0)), (1, .int x1)] [] := by
  unfold f_X11_began_8 at hf
  refine z_aload_n C dX11_began_8 rfl 0 rfl ?_
  refine gf_X11_85 C dX11_began_9 ho0 ?_
  refine z_iload_n C dX11_began_12 rfl 1 rfl ?_
  obtain ⟨h1, hf⟩ := q_ck hf
  refine z_iald C (n := 8) dX11_began_13 (rt_11_51 _ (kd_lt ho0 (by decide)) ho0) (by decide) h1 ?_
  exact z_goto C dX11_began_14 (by decide) (z_sub [] rfl (b_X11_began_19 C hr hk z (z.1 (rf o0 51) (Int32.toNatClampNeg x1)) hf))
def f_X11_began_17  (z : St)  : Option (St × Int32) :=
  f_X11_began_19 z ((-2))
theorem b_X11_began_17 {p : Program} {l : Launch} {e : Env} {s : State} {m : MethodId} {args : Array Value} {below : List Frame} {meth : Method} {c : Code} {g : Ga} {A : Nat → Prop} (C : Cx l g A p s m args c cX11_began 2 RX11 (rm_X11_began) (0, 0)) (hr : meth.sig.returnType = (some .int)) (hk : meth.locks = false)   (z : St)   {res : St × Int32} (hf : f_X11_began_17  z  = some res) : Zj p l e (rm_X11_began) s m args below meth c g A 2 (0, 0) (QI g A below args s res) z 17 [] [] := by
  unfold f_X11_began_17 at hf
  refine z_bipush C dX11_began_17 (v := (-2)) (by decide) ?_
  exact z_sub [] rfl (b_X11_began_19 C hr hk z ((-2)) hf)
def f_X11_began_0  (z : St) (o0 : Nat) (x1 : Int32) : Option (St × Int32) :=
  ((f_X11_isJob z o0 x1).bind fun r1 => if r1.2 = 0 then f_X11_began_17 r1.1 else f_X11_began_8 r1.1 o0 x1)
theorem b_X11_began_0 {p : Program} {l : Launch} {e : Env} {s : State} {m : MethodId} {args : Array Value} {below : List Frame} {meth : Method} {c : Code} {g : Ga} {A : Nat → Prop} (C : Cx l g A p s m args c cX11_began 2 RX11 (rm_X11_began) (0, 0)) (hr : meth.sig.returnType = (some .int)) (hk : meth.locks = false)   (z : St) (o0 : Nat) (x1 : Int32) (ho0 : kd o0 = 11) {res : St × Int32} (hf : f_X11_began_0  z o0 x1 = some res) : Zj p l e (rm_X11_began) s m args below meth c g A 2 (0, 0) (QI g A below args s res) z 0 [(0, .ref (g.1 o0)), (1, .int x1)] [] := by
  unfold f_X11_began_0 at hf
  refine z_aload_n C dX11_began_0 rfl 0 rfl ?_
  refine z_iload_n C dX11_began_1 rfl 1 rfl ?_
  obtain ⟨r1, hc2, hf⟩ := q_bd hf
  refine z_cVi C (st := []) (c_X11_isJob ho0 hc2) mw_X11_isJob ml_X11_148 ho0 (by decide) rfl dX11_began_2 rfl rfl rfl ⟨Nat.le_of_ble_eq_true rfl, Nat.le_of_ble_eq_true rfl⟩ rfl (Nat.le_of_ble_eq_true rfl) ?_
  exact z_if_eq C dX11_began_5 (by decide) (fun h => z_sub [] rfl (b_X11_began_17 C hr hk r1.1 (q_t hf h))) (fun h => z_sub [0, 1] rfl (b_X11_began_8 C hr hk r1.1 o0 x1 ho0 (q_f hf h)))
def f_X11_began (z : St) (o0 : Nat) (x1 : Int32) : Option (St × Int32) := f_X11_began_0 z o0 x1
theorem c_X11_began {l : Launch} {g : Ga} {A : Nat → Prop} {z : St} {o0 : Nat} {x1 : Int32} (ho0 : kd o0 = 11) {res : St × Int32} (hf : f_X11_began z o0 x1 = some res) : CI l g A yX11_began cX11_began 2 (some .int) rm_X11_began [.ref (g.1 o0), .int x1] z res :=
  e_CI (by decide) (Nat.le_of_ble_eq_true rfl) rfl (fun p e s m args below meth c C hr hk => z_sub [0, 1] rfl (b_X11_began_0 C hr hk z o0 x1 ho0 hf))
abbrev rm_X11_image : Room := { frames := 4, cells := 0, slots := 0, locals := 86 }
def f_X11_image_17 (K2 : St → Nat → Int32 → Option (St × Int32)) (K12 : St → Nat → Int32 → Int32 → Option (St × Int32)) (z : St) (o0 : Nat) (x1 : Int32) (x2 : Int32) : Option (St × Int32) :=
  ((f_X11_its z o0 x1 x2).bind fun r1 => if inb ((4 * x1) + x2) 32 = true then (K12 (zI r1.1 (rf o0 52) (Int32.toNatClampNeg ((4 * x1) + x2)) r1.2) o0 x1 (x2 + 1)) else none)
theorem b_X11_image_17 {p : Program} {l : Launch} {e : Env} {s : State} {m : MethodId} {args : Array Value} {below : List Frame} {meth : Method} {c : Code} {g : Ga} {A : Nat → Prop} (C : Cx l g A p s m args c cX11_image 3 RX11 (rm_X11_image) (0, 0)) (hr : meth.sig.returnType = (some .int)) (hk : meth.locks = false) {K2 : St → Nat → Int32 → Option (St × Int32)} {K12 : St → Nat → Int32 → Int32 → Option (St × Int32)} (hK2 : ∀ (z : St) (o0 : Nat) (x1 : Int32) (_ : kd o0 = 11) {res : St × Int32}, K2 z o0 x1 = some res → Zj p l e (rm_X11_image) s m args below meth c g A 3 (0, 0) (QI g A below args s res) z 2 [(0, .ref (g.1 o0)), (1, .int x1)] []) (hK12 : ∀ (z : St) (o0 : Nat) (x1 : Int32) (x2 : Int32) (_ : kd o0 = 11) {res : St × Int32}, K12 z o0 x1 x2 = some res → Zj p l e (rm_X11_image) s m args below meth c g A 3 (0, 0) (QI g A below args s res) z 12 [(0, .ref (g.1 o0)), (1, .int x1), (2, .int x2)] []) (z : St) (o0 : Nat) (x1 : Int32) (x2 : Int32) (ho0 : kd o0 = 11) {res : St × Int32} (hf : f_X11_image_17 K2 K12 z o0 x1 x2 = some res) : Zj p l e (rm_X11_image) s m args below meth c g A 3 (0, 0) (QI g A below args s res) z 17 [(0, .ref (g.1 o0)), (1, .int x1), (2, .int x2)] [] := by
  unfold f_X11_image_17 at hf
  refine z_aload_n C dX11_image_17 rfl 0 rfl ?_
  refine gf_X11_88 C dX11_image_18 ho0 ?_
  refine z_iconst C dX11_image_21 (v := 4) (by decide) ?_
  refine z_iload_n C dX11_image_22 rfl 1 rfl ?_
  refine z_imul C dX11_image_23 ?_
  refine z_iload_n C dX11_image_24 rfl 2 rfl ?_
  refine z_iadd C dX11_image_25 ?_
  refine z_aload_n C dX11_image_26 rfl 0 rfl ?_
  refine z_iload_n C dX11_image_27 rfl 1 rfl ?_
  refine z_iload_n C dX11_image_28 rfl 2 rfl ?_
  obtain ⟨r1, hc2, hf⟩ := q_bd hf
  refine z_cVi C (st := [.int ((4 * x1) + x2), .ref (g.1 (rf o0 52))]) (c_X11_its ho0 hc2) mw_X11_its ml_X11_152 ho0 (by decide) rfl dX11_image_29 rfl rfl rfl ⟨Nat.le_of_ble_eq_true rfl, Nat.le_of_ble_eq_true rfl⟩ rfl (Nat.le_of_ble_eq_true rfl) ?_
  obtain ⟨h3, hf⟩ := q_ck hf
  refine z_iast C (n := 32) dX11_image_32 (rt_11_52 _ (kd_lt ho0 (by decide)) ho0) (by decide) h3 ?_
  refine z_iinc C (k := 2) (v := x2 + 1) (lv2 := [(2, .int (x2 + 1)), (0, .ref (g.1 o0)), (1, .int x1)]) dX11_image_33 rfl rfl (by decide) rfl ?_
  exact z_goto C dX11_image_36 (by decide) (z_sub [1, 2, 0] rfl (hK12 (zI r1.1 (rf o0 52) (Int32.toNatClampNeg ((4 * x1) + x2)) r1.2) o0 x1 (x2 + 1) ho0 hf))
def f_X11_image_39 (K2 : St → Nat → Int32 → Option (St × Int32)) (z : St) (o0 : Nat) (x1 : Int32) : Option (St × Int32) :=
  K2 z o0 (x1 + 1)
theorem b_X11_image_39 {p : Program} {l : Launch} {e : Env} {s : State} {m : MethodId} {args : Array Value} {below : List Frame} {meth : Method} {c : Code} {g : Ga} {A : Nat → Prop} (C : Cx l g A p s m args c cX11_image 3 RX11 (rm_X11_image) (0, 0)) (hr : meth.sig.returnType = (some .int)) (hk : meth.locks = false) {K2 : St → Nat → Int32 → Option (St × Int32)} (hK2 : ∀ (z : St) (o0 : Nat) (x1 : Int32) (_ : kd o0 = 11) {res : St × Int32}, K2 z o0 x1 = some res → Zj p l e (rm_X11_image) s m args below meth c g A 3 (0, 0) (QI g A below args s res) z 2 [(0, .ref (g.1 o0)), (1, .int x1)] []) (z : St) (o0 : Nat) (x1 : Int32) (ho0 : kd o0 = 11) {res : St × Int32} (hf : f_X11_image_39 K2 z o0 x1 = some res) : Zj p l e (rm_X11_image) s m args below meth c g A 3 (0, 0) (QI g A below args s res) z 39 [(0, .ref (g.1 o0)), (1, .int x1)] [] := by
  unfold f_X11_image_39 at hf
  refine z_iinc C (k := 1) (v := x1 + 1) (lv2 := [(1, .int (x1 + 1)), (0, .ref (g.1 o0))]) dX11_image_39 rfl rfl (by decide) rfl ?_
  exact z_goto C dX11_image_42 (by decide) (z_sub [1, 0] rfl (hK2 z o0 (x1 + 1) ho0 hf))
def f_X11_image_12 (K2 : St → Nat → Int32 → Option (St × Int32)) : Nat → St → Nat → Int32 → Int32 → Option (St × Int32)
  | 0, _, _, _, _ => none
  | n + 1, z, o0, x1, x2 => if 4 ≤ x2 then f_X11_image_39 K2 z o0 x1 else f_X11_image_17 K2 (f_X11_image_12 K2 n) z o0 x1 x2
theorem b_X11_image_12 {p : Program} {l : Launch} {e : Env} {s : State} {m : MethodId} {args : Array Value} {below : List Frame} {meth : Method} {c : Code} {g : Ga} {A : Nat → Prop} (C : Cx l g A p s m args c cX11_image 3 RX11 (rm_X11_image) (0, 0)) (hr : meth.sig.returnType = (some .int)) (hk : meth.locks = false) {K2 : St → Nat → Int32 → Option (St × Int32)} (hK2 : ∀ (z : St) (o0 : Nat) (x1 : Int32) (_ : kd o0 = 11) {res : St × Int32}, K2 z o0 x1 = some res → Zj p l e (rm_X11_image) s m args below meth c g A 3 (0, 0) (QI g A below args s res) z 2 [(0, .ref (g.1 o0)), (1, .int x1)] []) : ∀ (n : Nat) (z : St) (o0 : Nat) (x1 : Int32) (x2 : Int32) (_ : kd o0 = 11) {res : St × Int32} (_ : f_X11_image_12 K2 n z o0 x1 x2 = some res), Zj p l e (rm_X11_image) s m args below meth c g A 3 (0, 0) (QI g A below args s res) z 12 [(0, .ref (g.1 o0)), (1, .int x1), (2, .int x2)] [] := by
  intro n
  induction n with
  | zero =>
    intro z o0 x1 x2 ho0 res hf
    cases hf
  | succ n ih =>
    intro z o0 x1 x2 ho0 res hf
    rw [f_X11_image_12] at hf
    refine z_iload_n C dX11_image_12 rfl 2 rfl ?_
    refine z_iconst C dX11_image_13 (v := 4) (by decide) ?_
    exact z_icmp_ge C dX11_image_14 (by decide) (fun h => z_sub [0, 1] rfl (b_X11_image_39 C hr hk hK2 z o0 x1 ho0 (q_t hf h))) (fun h => z_sub [0, 1, 2] rfl (b_X11_image_17 C hr hk hK2 ih z o0 x1 x2 ho0 (q_f hf h)))
def f_X11_image_10 (K2 : St → Nat → Int32 → Option (St × Int32)) (z : St) (o0 : Nat) (x1 : Int32) : Option (St × Int32) :=
  f_X11_image_12 K2 FU z o0 x1 0
theorem b_X11_image_10 {p : Program} {l : Launch} {e : Env} {s : State} {m : MethodId} {args : Array Value} {below : List Frame} {meth : Method} {c : Code} {g : Ga} {A : Nat → Prop} (C : Cx l g A p s m args c cX11_image 3 RX11 (rm_X11_image) (0, 0)) (hr : meth.sig.returnType = (some .int)) (hk : meth.locks = false) {K2 : St → Nat → Int32 → Option (St × Int32)} (hK2 : ∀ (z : St) (o0 : Nat) (x1 : Int32) (_ : kd o0 = 11) {res : St × Int32}, K2 z o0 x1 = some res → Zj p l e (rm_X11_image) s m args below meth c g A 3 (0, 0) (QI g A below args s res) z 2 [(0, .ref (g.1 o0)), (1, .int x1)] []) (z : St) (o0 : Nat) (x1 : Int32) (ho0 : kd o0 = 11) {res : St × Int32} (hf : f_X11_image_10 K2 z o0 x1 = some res) : Zj p l e (rm_X11_image) s m args below meth c g A 3 (0, 0) (QI g A below args s res) z 10 [(0, .ref (g.1 o0)), (1, .int x1)] [] := by
  unfold f_X11_image_10 at hf
  refine z_iconst C dX11_image_10 (v := 0) (by decide) ?_
  refine z_istore_n C (lv2 := [(2, .int 0), (0, .ref (g.1 o0)), (1, .int x1)]) dX11_image_11 rfl (by decide) rfl ?_
  exact z_sub [1, 2, 0] rfl (b_X11_image_12 C hr hk hK2 FU z o0 x1 0 ho0 hf)
def f_X11_image_45  (z : St) (o0 : Nat) : Option (St × Int32) :=
  some (zI z o0 53 (z.1 o0 5), (zI z o0 53 (z.1 o0 5)).1 o0 5)
theorem b_X11_image_45 {p : Program} {l : Launch} {e : Env} {s : State} {m : MethodId} {args : Array Value} {below : List Frame} {meth : Method} {c : Code} {g : Ga} {A : Nat → Prop} (C : Cx l g A p s m args c cX11_image 3 RX11 (rm_X11_image) (0, 0)) (hr : meth.sig.returnType = (some .int)) (hk : meth.locks = false)   (z : St) (o0 : Nat) (ho0 : kd o0 = 11) {res : St × Int32} (hf : f_X11_image_45  z o0 = some res) : Zj p l e (rm_X11_image) s m args below meth c g A 3 (0, 0) (QI g A below args s res) z 45 [(0, .ref (g.1 o0))] [] := by
  unfold f_X11_image_45 at hf
  refine z_aload_n C dX11_image_45 rfl 0 rfl ?_
  refine z_aload_n C dX11_image_46 rfl 0 rfl ?_
  refine gf_X11_111 C dX11_image_47 ho0 ?_
  refine pf_X11_91 C dX11_image_50 ho0 ?_
  refine z_aload_n C dX11_image_53 rfl 0 rfl ?_
  refine gf_X11_111 C dX11_image_54 ho0 ?_
  cases hf
  exact z_iret C hr hk dX11_image_57
def f_X11_image_2  : Nat → St → Nat → Int32 → Option (St × Int32)
  | 0, _, _, _ => none
  | n + 1, z, o0, x1 => if (z.1 o0 5) ≤ x1 then f_X11_image_45 z o0 else f_X11_image_10 (f_X11_image_2 n) z o0 x1
theorem b_X11_image_2 {p : Program} {l : Launch} {e : Env} {s : State} {m : MethodId} {args : Array Value} {below : List Frame} {meth : Method} {c : Code} {g : Ga} {A : Nat → Prop} (C : Cx l g A p s m args c cX11_image 3 RX11 (rm_X11_image) (0, 0)) (hr : meth.sig.returnType = (some .int)) (hk : meth.locks = false)   : ∀ (n : Nat) (z : St) (o0 : Nat) (x1 : Int32) (_ : kd o0 = 11) {res : St × Int32} (_ : f_X11_image_2  n z o0 x1 = some res), Zj p l e (rm_X11_image) s m args below meth c g A 3 (0, 0) (QI g A below args s res) z 2 [(0, .ref (g.1 o0)), (1, .int x1)] [] := by
  intro n
  induction n with
  | zero =>
    intro z o0 x1 ho0 res hf
    cases hf
  | succ n ih =>
    intro z o0 x1 ho0 res hf
    rw [f_X11_image_2] at hf
    refine z_iload_n C dX11_image_2 rfl 1 rfl ?_
    refine z_aload_n C dX11_image_3 rfl 0 rfl ?_
    refine gf_X11_111 C dX11_image_4 ho0 ?_
    exact z_icmp_ge C dX11_image_7 (by decide) (fun h => z_sub [0] rfl (b_X11_image_45 C hr hk z o0 ho0 (q_t hf h))) (fun h => z_sub [0, 1] rfl (b_X11_image_10 C hr hk ih z o0 x1 ho0 (q_f hf h)))
def f_X11_image_0  (z : St) (o0 : Nat) : Option (St × Int32) :=
  f_X11_image_2 FU z o0 0
theorem b_X11_image_0 {p : Program} {l : Launch} {e : Env} {s : State} {m : MethodId} {args : Array Value} {below : List Frame} {meth : Method} {c : Code} {g : Ga} {A : Nat → Prop} (C : Cx l g A p s m args c cX11_image 3 RX11 (rm_X11_image) (0, 0)) (hr : meth.sig.returnType = (some .int)) (hk : meth.locks = false)   (z : St) (o0 : Nat) (ho0 : kd o0 = 11) {res : St × Int32} (hf : f_X11_image_0  z o0 = some res) : Zj p l e (rm_X11_image) s m args below meth c g A 3 (0, 0) (QI g A below args s res) z 0 [(0, .ref (g.1 o0))] [] := by
  unfold f_X11_image_0 at hf
  refine z_iconst C dX11_image_0 (v := 0) (by decide) ?_
  refine z_istore_n C (lv2 := [(1, .int 0), (0, .ref (g.1 o0))]) dX11_image_1 rfl (by decide) rfl ?_
  exact z_sub [1, 0] rfl (b_X11_image_2 C hr hk FU z o0 0 ho0 hf)
def f_X11_image (z : St) (o0 : Nat) : Option (St × Int32) := f_X11_image_0 z o0
theorem c_X11_image {l : Launch} {g : Ga} {A : Nat → Prop} {z : St} {o0 : Nat} (ho0 : kd o0 = 11) {res : St × Int32} (hf : f_X11_image z o0 = some res) : CI l g A yX11_image cX11_image 3 (some .int) rm_X11_image [.ref (g.1 o0)] z res :=
  e_CI (by decide) (Nat.le_of_ble_eq_true rfl) rfl (fun p e s m args below meth c C hr hk => z_sub [0] rfl (b_X11_image_0 C hr hk z o0 ho0 hf))
abbrev rm_X11_back : Room := { frames := 1, cells := 0, slots := 0, locals := 24 }
def f_X11_back_7  (z : St)  : Option (St × Int32) :=
  some (z, (-3))
theorem b_X11_back_7 {p : Program} {l : Launch} {e : Env} {s : State} {m : MethodId} {args : Array Value} {below : List Frame} {meth : Method} {c : Code} {g : Ga} {A : Nat → Prop} (C : Cx l g A p s m args c cX11_back 2 RX11 (rm_X11_back) (0, 0)) (hr : meth.sig.returnType = (some .int)) (hk : meth.locks = false)   (z : St)   {res : St × Int32} (hf : f_X11_back_7  z  = some res) : Zj p l e (rm_X11_back) s m args below meth c g A 2 (0, 0) (QI g A below args s res) z 7 [] [] := by
  unfold f_X11_back_7 at hf
  refine z_bipush C dX11_back_7 (v := (-3)) (by decide) ?_
  cases hf
  exact z_iret C hr hk dX11_back_9
def f_X11_back_25 (K17 : St → Nat → Int32 → Option (St × Int32)) (z : St) (o0 : Nat) (x1 : Int32) : Option (St × Int32) :=
  if inb (4 * x1) 32 = true then (if inb ((4 * x1) + 1) 32 = true then (if inb ((4 * x1) + 2) 32 = true then (if inb ((4 * x1) + 3) 32 = true then (((f_X11_adds z o0 (z.1 (rf o0 52) (Int32.toNatClampNeg (4 * x1))) (z.1 (rf o0 52) (Int32.toNatClampNeg ((4 * x1) + 1))) (z.1 (rf o0 52) (Int32.toNatClampNeg ((4 * x1) + 2))) (z.1 (rf o0 52) (Int32.toNatClampNeg ((4 * x1) + 3)))).bind fun r5 => K17 r5 o0 (x1 + 1))) else none) else none) else none) else none
theorem b_X11_back_25 {p : Program} {l : Launch} {e : Env} {s : State} {m : MethodId} {args : Array Value} {below : List Frame} {meth : Method} {c : Code} {g : Ga} {A : Nat → Prop} (C : Cx l g A p s m args c cX11_back 2 RX11 (rm_X11_back) (0, 0)) (hr : meth.sig.returnType = (some .int)) (hk : meth.locks = false) {K17 : St → Nat → Int32 → Option (St × Int32)} (hK17 : ∀ (z : St) (o0 : Nat) (x1 : Int32) (_ : kd o0 = 11) {res : St × Int32}, K17 z o0 x1 = some res → Zj p l e (rm_X11_back) s m args below meth c g A 2 (0, 0) (QI g A below args s res) z 17 [(0, .ref (g.1 o0)), (1, .int x1)] []) (z : St) (o0 : Nat) (x1 : Int32) (ho0 : kd o0 = 11) {res : St × Int32} (hf : f_X11_back_25 K17 z o0 x1 = some res) : Zj p l e (rm_X11_back) s m args below meth c g A 2 (0, 0) (QI g A below args s res) z 25 [(0, .ref (g.1 o0)), (1, .int x1)] [] := by
  unfold f_X11_back_25 at hf
  refine z_aload_n C dX11_back_25 rfl 0 rfl ?_
  refine z_aload_n C dX11_back_26 rfl 0 rfl ?_
  refine gf_X11_88 C dX11_back_27 ho0 ?_
  refine z_iconst C dX11_back_30 (v := 4) (by decide) ?_
  refine z_iload_n C dX11_back_31 rfl 1 rfl ?_
  refine z_imul C dX11_back_32 ?_
  obtain ⟨h1, hf⟩ := q_ck hf
  refine z_iald C (n := 32) dX11_back_33 (rt_11_52 _ (kd_lt ho0 (by decide)) ho0) (by decide) h1 ?_
  refine z_aload_n C dX11_back_34 rfl 0 rfl ?_
  refine gf_X11_88 C dX11_back_35 ho0 ?_
  refine z_iconst C dX11_back_38 (v := 4) (by decide) ?_
  refine z_iload_n C dX11_back_39 rfl 1 rfl ?_
  refine z_imul C dX11_back_40 ?_
  refine z_iconst C dX11_back_41 (v := 1) (by decide) ?_
  refine z_iadd C dX11_back_42 ?_
  obtain ⟨h2, hf⟩ := q_ck hf
  refine z_iald C (n := 32) dX11_back_43 (rt_11_52 _ (kd_lt ho0 (by decide)) ho0) (by decide) h2 ?_
  refine z_aload_n C dX11_back_44 rfl 0 rfl ?_
  refine gf_X11_88 C dX11_back_45 ho0 ?_
  refine z_iconst C dX11_back_48 (v := 4) (by decide) ?_
  refine z_iload_n C dX11_back_49 rfl 1 rfl ?_
  refine z_imul C dX11_back_50 ?_
  refine z_iconst C dX11_back_51 (v := 2) (by decide) ?_
  refine z_iadd C dX11_back_52 ?_
  obtain ⟨h3, hf⟩ := q_ck hf
  refine z_iald C (n := 32) dX11_back_53 (rt_11_52 _ (kd_lt ho0 (by decide)) ho0) (by decide) h3 ?_
  refine z_aload_n C dX11_back_54 rfl 0 rfl ?_
  refine gf_X11_88 C dX11_back_55 ho0 ?_
  refine z_iconst C dX11_back_58 (v := 4) (by decide) ?_
  refine z_iload_n C dX11_back_59 rfl 1 rfl ?_
  refine z_imul C dX11_back_60 ?_
  refine z_iconst C dX11_back_61 (v := 3) (by decide) ?_
  refine z_iadd C dX11_back_62 ?_
  obtain ⟨h4, hf⟩ := q_ck hf
  refine z_iald C (n := 32) dX11_back_63 (rt_11_52 _ (kd_lt ho0 (by decide)) ho0) (by decide) h4 ?_
  obtain ⟨r5, hc6, hf⟩ := q_bd hf
  refine z_cVv C (st := []) (c_X11_adds ho0 hc6) mw_X11_adds ml_X11_135 ho0 (by decide) rfl dX11_back_64 rfl rfl rfl ⟨Nat.le_of_ble_eq_true rfl, Nat.le_of_ble_eq_true rfl⟩ rfl (Nat.le_of_ble_eq_true rfl) ?_
  refine z_iinc C (k := 1) (v := x1 + 1) (lv2 := [(1, .int (x1 + 1)), (0, .ref (g.1 o0))]) dX11_back_67 rfl rfl (by decide) rfl ?_
  exact z_goto C dX11_back_70 (by decide) (z_sub [1, 0] rfl (hK17 r5 o0 (x1 + 1) ho0 hf))
def f_X11_back_73  (z : St) (o0 : Nat) : Option (St × Int32) :=
  ((f_X11_anew z o0).bind fun r1 => some (r1, r1.1 o0 5))
theorem b_X11_back_73 {p : Program} {l : Launch} {e : Env} {s : State} {m : MethodId} {args : Array Value} {below : List Frame} {meth : Method} {c : Code} {g : Ga} {A : Nat → Prop} (C : Cx l g A p s m args c cX11_back 2 RX11 (rm_X11_back) (0, 0)) (hr : meth.sig.returnType = (some .int)) (hk : meth.locks = false)   (z : St) (o0 : Nat) (ho0 : kd o0 = 11) {res : St × Int32} (hf : f_X11_back_73  z o0 = some res) : Zj p l e (rm_X11_back) s m args below meth c g A 2 (0, 0) (QI g A below args s res) z 73 [(0, .ref (g.1 o0))] [] := by
  unfold f_X11_back_73 at hf
  refine z_aload_n C dX11_back_73 rfl 0 rfl ?_
  obtain ⟨r1, hc2, hf⟩ := q_bd hf
  refine z_cVv C (st := []) (c_X11_anew ho0 hc2) mw_X11_anew ml_X11_105 ho0 (by decide) rfl dX11_back_74 rfl rfl rfl ⟨Nat.le_of_ble_eq_true rfl, Nat.le_of_ble_eq_true rfl⟩ rfl (Nat.le_of_ble_eq_true rfl) ?_
  refine z_aload_n C dX11_back_77 rfl 0 rfl ?_
  refine gf_X11_111 C dX11_back_78 ho0 ?_
  cases hf
  exact z_iret C hr hk dX11_back_81
def f_X11_back_17  : Nat → St → Nat → Int32 → Option (St × Int32)
  | 0, _, _, _ => none
  | n + 1, z, o0, x1 => if (z.1 o0 53) ≤ x1 then f_X11_back_73 z o0 else f_X11_back_25 (f_X11_back_17 n) z o0 x1
theorem b_X11_back_17 {p : Program} {l : Launch} {e : Env} {s : State} {m : MethodId} {args : Array Value} {below : List Frame} {meth : Method} {c : Code} {g : Ga} {A : Nat → Prop} (C : Cx l g A p s m args c cX11_back 2 RX11 (rm_X11_back) (0, 0)) (hr : meth.sig.returnType = (some .int)) (hk : meth.locks = false)   : ∀ (n : Nat) (z : St) (o0 : Nat) (x1 : Int32) (_ : kd o0 = 11) {res : St × Int32} (_ : f_X11_back_17  n z o0 x1 = some res), Zj p l e (rm_X11_back) s m args below meth c g A 2 (0, 0) (QI g A below args s res) z 17 [(0, .ref (g.1 o0)), (1, .int x1)] [] := by
  intro n
  induction n with
  | zero =>
    intro z o0 x1 ho0 res hf
    cases hf
  | succ n ih =>
    intro z o0 x1 ho0 res hf
    rw [f_X11_back_17] at hf
    refine z_iload_n C dX11_back_17 rfl 1 rfl ?_
    refine z_aload_n C dX11_back_18 rfl 0 rfl ?_
    refine gf_X11_91 C dX11_back_19 ho0 ?_
    exact z_icmp_ge C dX11_back_22 (by decide) (fun h => z_sub [0] rfl (b_X11_back_73 C hr hk z o0 ho0 (q_t hf h))) (fun h => z_sub [0, 1] rfl (b_X11_back_25 C hr hk ih z o0 x1 ho0 (q_f hf h)))
def f_X11_back_10  (z : St) (o0 : Nat) : Option (St × Int32) :=
  f_X11_back_17 FU (zI z o0 5 0) o0 0
theorem b_X11_back_10 {p : Program} {l : Launch} {e : Env} {s : State} {m : MethodId} {args : Array Value} {below : List Frame} {meth : Method} {c : Code} {g : Ga} {A : Nat → Prop} (C : Cx l g A p s m args c cX11_back 2 RX11 (rm_X11_back) (0, 0)) (hr : meth.sig.returnType = (some .int)) (hk : meth.locks = false)   (z : St) (o0 : Nat) (ho0 : kd o0 = 11) {res : St × Int32} (hf : f_X11_back_10  z o0 = some res) : Zj p l e (rm_X11_back) s m args below meth c g A 2 (0, 0) (QI g A below args s res) z 10 [(0, .ref (g.1 o0))] [] := by
  unfold f_X11_back_10 at hf
  refine z_aload_n C dX11_back_10 rfl 0 rfl ?_
  refine z_iconst C dX11_back_11 (v := 0) (by decide) ?_
  refine pf_X11_111 C dX11_back_12 ho0 ?_
  refine z_iconst C dX11_back_15 (v := 0) (by decide) ?_
  refine z_istore_n C (lv2 := [(1, .int 0), (0, .ref (g.1 o0))]) dX11_back_16 rfl (by decide) rfl ?_
  exact z_sub [1, 0] rfl (b_X11_back_17 C hr hk FU (zI z o0 5 0) o0 0 ho0 hf)
def f_X11_back_0  (z : St) (o0 : Nat) : Option (St × Int32) :=
  if 0 ≤ (z.1 o0 53) then f_X11_back_10 z o0 else f_X11_back_7 z
theorem b_X11_back_0 {p : Program} {l : Launch} {e : Env} {s : State} {m : MethodId} {args : Array Value} {below : List Frame} {meth : Method} {c : Code} {g : Ga} {A : Nat → Prop} (C : Cx l g A p s m args c cX11_back 2 RX11 (rm_X11_back) (0, 0)) (hr : meth.sig.returnType = (some .int)) (hk : meth.locks = false)   (z : St) (o0 : Nat) (ho0 : kd o0 = 11) {res : St × Int32} (hf : f_X11_back_0  z o0 = some res) : Zj p l e (rm_X11_back) s m args below meth c g A 2 (0, 0) (QI g A below args s res) z 0 [(0, .ref (g.1 o0))] [] := by
  unfold f_X11_back_0 at hf
  refine z_aload_n C dX11_back_0 rfl 0 rfl ?_
  refine gf_X11_91 C dX11_back_1 ho0 ?_
  exact z_if_ge C dX11_back_4 (by decide) (fun h => z_sub [0] rfl (b_X11_back_10 C hr hk z o0 ho0 (q_t hf h))) (fun h => z_sub [] rfl (b_X11_back_7 C hr hk z (q_f hf h)))
def f_X11_back (z : St) (o0 : Nat) : Option (St × Int32) := f_X11_back_0 z o0
theorem c_X11_back {l : Launch} {g : Ga} {A : Nat → Prop} {z : St} {o0 : Nat} (ho0 : kd o0 = 11) {res : St × Int32} (hf : f_X11_back z o0 = some res) : CI l g A yX11_back cX11_back 2 (some .int) rm_X11_back [.ref (g.1 o0)] z res :=
  e_CI (by decide) (Nat.le_of_ble_eq_true rfl) rfl (fun p e s m args below meth c C hr hk => z_sub [0] rfl (b_X11_back_0 C hr hk z o0 ho0 hf))
abbrev rm_X11_count : Room := { frames := 4, cells := 0, slots := 0, locals := 85 }
def f_X11_count_9  (z : St)  : Option (St × Int32) :=
  some (z, (-2))
theorem b_X11_count_9 {p : Program} {l : Launch} {e : Env} {s : State} {m : MethodId} {args : Array Value} {below : List Frame} {meth : Method} {c : Code} {g : Ga} {A : Nat → Prop} (C : Cx l g A p s m args c cX11_count 2 RX11 (rm_X11_count) (0, 0)) (hr : meth.sig.returnType = (some .int)) (hk : meth.locks = false)   (z : St)   {res : St × Int32} (hf : f_X11_count_9  z  = some res) : Zj p l e (rm_X11_count) s m args below meth c g A 2 (0, 0) (QI g A below args s res) z 9 [] [] := by
  unfold f_X11_count_9 at hf
  refine z_bipush C dX11_count_9 (v := (-2)) (by decide) ?_
  cases hf
  exact z_iret C hr hk dX11_count_11
def f_X11_count_43  (z : St) (s0 : Int32) : Option (St × Int32) :=
  some (z, s0)
theorem b_X11_count_43 {p : Program} {l : Launch} {e : Env} {s : State} {m : MethodId} {args : Array Value} {below : List Frame} {meth : Method} {c : Code} {g : Ga} {A : Nat → Prop} (C : Cx l g A p s m args c cX11_count 2 RX11 (rm_X11_count) (0, 0)) (hr : meth.sig.returnType = (some .int)) (hk : meth.locks = false)   (z : St) (s0 : Int32)  {res : St × Int32} (hf : f_X11_count_43  z s0 = some res) : Zj p l e (rm_X11_count) s m args below meth c g A 2 (0, 0) (QI g A below args s res) z 43 [] [.int s0] := by
  unfold f_X11_count_43 at hf
  cases hf
  exact z_iret C hr hk dX11_count_43
def f_X11_count_20  (z : St) (o0 : Nat) : Option (St × Int32) :=
  f_X11_count_43 z (z.1 o0 5)
theorem b_X11_count_20 {p : Program} {l : Launch} {e : Env} {s : State} {m : MethodId} {args : Array Value} {below : List Frame} {meth : Method} {c : Code} {g : Ga} {A : Nat → Prop} (C : Cx l g A p s m args c cX11_count 2 RX11 (rm_X11_count) (0, 0)) (hr : meth.sig.returnType = (some .int)) (hk : meth.locks = false)   (z : St) (o0 : Nat) (ho0 : kd o0 = 11) {res : St × Int32} (hf : f_X11_count_20  z o0 = some res) : Zj p l e (rm_X11_count) s m args below meth c g A 2 (0, 0) (QI g A below args s res) z 20 [(0, .ref (g.1 o0))] [] := by
  unfold f_X11_count_20 at hf
  refine z_aload_n C dX11_count_20 rfl 0 rfl ?_
  refine gf_X11_111 C dX11_count_21 ho0 ?_
  exact z_goto C dX11_count_24 (by decide) (z_sub [] rfl (b_X11_count_43 C hr hk z (z.1 o0 5) hf))
def f_X11_count_32  (z : St) (o0 : Nat) : Option (St × Int32) :=
  ((f_X11_allTake z o0).bind fun r1 => f_X11_count_43 r1.1 r1.2)
theorem b_X11_count_32 {p : Program} {l : Launch} {e : Env} {s : State} {m : MethodId} {args : Array Value} {below : List Frame} {meth : Method} {c : Code} {g : Ga} {A : Nat → Prop} (C : Cx l g A p s m args c cX11_count 2 RX11 (rm_X11_count) (0, 0)) (hr : meth.sig.returnType = (some .int)) (hk : meth.locks = false)   (z : St) (o0 : Nat) (ho0 : kd o0 = 11) {res : St × Int32} (hf : f_X11_count_32  z o0 = some res) : Zj p l e (rm_X11_count) s m args below meth c g A 2 (0, 0) (QI g A below args s res) z 32 [(0, .ref (g.1 o0))] [] := by
  unfold f_X11_count_32 at hf
  refine z_aload_n C dX11_count_32 rfl 0 rfl ?_
  obtain ⟨r1, hc2, hf⟩ := q_bd hf
  refine z_cVi C (st := []) (c_X11_allTake ho0 hc2) mw_X11_allTake ml_X11_211 ho0 (by decide) rfl dX11_count_33 rfl rfl rfl ⟨Nat.le_of_ble_eq_true rfl, Nat.le_of_ble_eq_true rfl⟩ rfl (Nat.le_of_ble_eq_true rfl) ?_
  exact z_goto C dX11_count_36 (by decide) (z_sub [] rfl (b_X11_count_43 C hr hk r1.1 r1.2 hf))
def f_X11_count_39  (z : St) (o0 : Nat) : Option (St × Int32) :=
  f_X11_count_43 z (z.1 o0 7)
theorem b_X11_count_39 {p : Program} {l : Launch} {e : Env} {s : State} {m : MethodId} {args : Array Value} {below : List Frame} {meth : Method} {c : Code} {g : Ga} {A : Nat → Prop} (C : Cx l g A p s m args c cX11_count 2 RX11 (rm_X11_count) (0, 0)) (hr : meth.sig.returnType = (some .int)) (hk : meth.locks = false)   (z : St) (o0 : Nat) (ho0 : kd o0 = 11) {res : St × Int32} (hf : f_X11_count_39  z o0 = some res) : Zj p l e (rm_X11_count) s m args below meth c g A 2 (0, 0) (QI g A below args s res) z 39 [(0, .ref (g.1 o0))] [] := by
  unfold f_X11_count_39 at hf
  refine z_aload_n C dX11_count_39 rfl 0 rfl ?_
  refine gf_X11_155 C dX11_count_40 ho0 ?_
  exact z_sub [] rfl (b_X11_count_43 C hr hk z (z.1 o0 7) hf)
def f_X11_count_27  (z : St) (o0 : Nat) (x1 : Int32) : Option (St × Int32) :=
  if x1 = 1 then f_X11_count_32 z o0 else f_X11_count_39 z o0
theorem b_X11_count_27 {p : Program} {l : Launch} {e : Env} {s : State} {m : MethodId} {args : Array Value} {below : List Frame} {meth : Method} {c : Code} {g : Ga} {A : Nat → Prop} (C : Cx l g A p s m args c cX11_count 2 RX11 (rm_X11_count) (0, 0)) (hr : meth.sig.returnType = (some .int)) (hk : meth.locks = false)   (z : St) (o0 : Nat) (x1 : Int32) (ho0 : kd o0 = 11) {res : St × Int32} (hf : f_X11_count_27  z o0 x1 = some res) : Zj p l e (rm_X11_count) s m args below meth c g A 2 (0, 0) (QI g A below args s res) z 27 [(0, .ref (g.1 o0)), (1, .int x1)] [] := by
  unfold f_X11_count_27 at hf
  refine z_iload_n C dX11_count_27 rfl 1 rfl ?_
  refine z_iconst C dX11_count_28 (v := 1) (by decide) ?_
  exact z_icmp_ne C dX11_count_29 (by decide) (fun h => z_sub [0] rfl (b_X11_count_39 C hr hk z o0 ho0 (q_f hf h))) (fun h => z_sub [0] rfl (b_X11_count_32 C hr hk z o0 ho0 (q_t hf h)))
def f_X11_count_12  (z : St) (o0 : Nat) (x1 : Int32) : Option (St × Int32) :=
  ((f_X11_thinks z o0).bind fun r1 => if x1 = 0 then f_X11_count_20 r1 o0 else f_X11_count_27 r1 o0 x1)
theorem b_X11_count_12 {p : Program} {l : Launch} {e : Env} {s : State} {m : MethodId} {args : Array Value} {below : List Frame} {meth : Method} {c : Code} {g : Ga} {A : Nat → Prop} (C : Cx l g A p s m args c cX11_count 2 RX11 (rm_X11_count) (0, 0)) (hr : meth.sig.returnType = (some .int)) (hk : meth.locks = false)   (z : St) (o0 : Nat) (x1 : Int32) (ho0 : kd o0 = 11) {res : St × Int32} (hf : f_X11_count_12  z o0 x1 = some res) : Zj p l e (rm_X11_count) s m args below meth c g A 2 (0, 0) (QI g A below args s res) z 12 [(0, .ref (g.1 o0)), (1, .int x1)] [] := by
  unfold f_X11_count_12 at hf
  refine z_aload_n C dX11_count_12 rfl 0 rfl ?_
  obtain ⟨r1, hc2, hf⟩ := q_bd hf
  refine z_cVv C (st := []) (c_X11_thinks ho0 hc2) mw_X11_thinks ml_X11_205 ho0 (by decide) rfl dX11_count_13 rfl rfl rfl ⟨Nat.le_of_ble_eq_true rfl, Nat.le_of_ble_eq_true rfl⟩ rfl (Nat.le_of_ble_eq_true rfl) ?_
  refine z_iload_n C dX11_count_16 rfl 1 rfl ?_
  exact z_if_ne C dX11_count_17 (by decide) (fun h => z_sub [0, 1] rfl (b_X11_count_27 C hr hk r1 o0 x1 ho0 (q_f hf h))) (fun h => z_sub [0] rfl (b_X11_count_20 C hr hk r1 o0 ho0 (q_t hf h)))
def f_X11_count_0  (z : St) (o0 : Nat) (x1 : Int32) : Option (St × Int32) :=
  ((f_X11_in z x1 0 2).bind fun r1 => if r1.2 = 0 then f_X11_count_9 r1.1 else f_X11_count_12 r1.1 o0 x1)
theorem b_X11_count_0 {p : Program} {l : Launch} {e : Env} {s : State} {m : MethodId} {args : Array Value} {below : List Frame} {meth : Method} {c : Code} {g : Ga} {A : Nat → Prop} (C : Cx l g A p s m args c cX11_count 2 RX11 (rm_X11_count) (0, 0)) (hr : meth.sig.returnType = (some .int)) (hk : meth.locks = false)   (z : St) (o0 : Nat) (x1 : Int32) (ho0 : kd o0 = 11) {res : St × Int32} (hf : f_X11_count_0  z o0 x1 = some res) : Zj p l e (rm_X11_count) s m args below meth c g A 2 (0, 0) (QI g A below args s res) z 0 [(0, .ref (g.1 o0)), (1, .int x1)] [] := by
  unfold f_X11_count_0 at hf
  refine z_iload_n C dX11_count_0 rfl 1 rfl ?_
  refine z_iconst C dX11_count_1 (v := 0) (by decide) ?_
  refine z_iconst C dX11_count_2 (v := 2) (by decide) ?_
  obtain ⟨r1, hc2, hf⟩ := q_bd hf
  refine z_cSi C (st := []) (c_X11_in  hc2) mw_X11_in ml_X11_114 dX11_count_3 rfl rfl rfl ⟨Nat.le_of_ble_eq_true rfl, Nat.le_of_ble_eq_true rfl⟩ rfl (Nat.le_of_ble_eq_true rfl) ?_
  exact z_if_ne C dX11_count_6 (by decide) (fun h => z_sub [0, 1] rfl (b_X11_count_12 C hr hk r1.1 o0 x1 ho0 (q_f hf h))) (fun h => z_sub [] rfl (b_X11_count_9 C hr hk r1.1 (q_t hf h)))
def f_X11_count (z : St) (o0 : Nat) (x1 : Int32) : Option (St × Int32) := f_X11_count_0 z o0 x1
theorem c_X11_count {l : Launch} {g : Ga} {A : Nat → Prop} {z : St} {o0 : Nat} {x1 : Int32} (ho0 : kd o0 = 11) {res : St × Int32} (hf : f_X11_count z o0 x1 = some res) : CI l g A yX11_count cX11_count 2 (some .int) rm_X11_count [.ref (g.1 o0), .int x1] z res :=
  e_CI (by decide) (Nat.le_of_ble_eq_true rfl) rfl (fun p e s m args below meth c C hr hk => z_sub [0, 1] rfl (b_X11_count_0 C hr hk z o0 x1 ho0 hf))
abbrev rm_X11_put : Room := { frames := 2, cells := 0, slots := 0, locals := 42 }
def f_X11_put_7  (z : St)  : Option (St × Int32) :=
  some (z, (-2))
theorem b_X11_put_7 {p : Program} {l : Launch} {e : Env} {s : State} {m : MethodId} {args : Array Value} {below : List Frame} {meth : Method} {c : Code} {g : Ga} {A : Nat → Prop} (C : Cx l g A p s m args c cX11_put 5 RX11 (rm_X11_put) (0, 0)) (hr : meth.sig.returnType = (some .int)) (hk : meth.locks = false)   (z : St)   {res : St × Int32} (hf : f_X11_put_7  z  = some res) : Zj p l e (rm_X11_put) s m args below meth c g A 5 (0, 0) (QI g A below args s res) z 7 [] [] := by
  unfold f_X11_put_7 at hf
  refine z_bipush C dX11_put_7 (v := (-2)) (by decide) ?_
  cases hf
  exact z_iret C hr hk dX11_put_9
def f_X11_put_19  (z : St)  : Option (St × Int32) :=
  some (z, (-11))
theorem b_X11_put_19 {p : Program} {l : Launch} {e : Env} {s : State} {m : MethodId} {args : Array Value} {below : List Frame} {meth : Method} {c : Code} {g : Ga} {A : Nat → Prop} (C : Cx l g A p s m args c cX11_put 5 RX11 (rm_X11_put) (0, 0)) (hr : meth.sig.returnType = (some .int)) (hk : meth.locks = false)   (z : St)   {res : St × Int32} (hf : f_X11_put_19  z  = some res) : Zj p l e (rm_X11_put) s m args below meth c g A 5 (0, 0) (QI g A below args s res) z 19 [] [] := by
  unfold f_X11_put_19 at hf
  refine z_bipush C dX11_put_19 (v := (-11)) (by decide) ?_
  cases hf
  exact z_iret C hr hk dX11_put_21
def f_X11_put_38  (z : St)  : Option (St × Int32) :=
  some (z, (-12))
theorem b_X11_put_38 {p : Program} {l : Launch} {e : Env} {s : State} {m : MethodId} {args : Array Value} {below : List Frame} {meth : Method} {c : Code} {g : Ga} {A : Nat → Prop} (C : Cx l g A p s m args c cX11_put 5 RX11 (rm_X11_put) (0, 0)) (hr : meth.sig.returnType = (some .int)) (hk : meth.locks = false)   (z : St)   {res : St × Int32} (hf : f_X11_put_38  z  = some res) : Zj p l e (rm_X11_put) s m args below meth c g A 5 (0, 0) (QI g A below args s res) z 38 [] [] := by
  unfold f_X11_put_38 at hf
  refine z_bipush C dX11_put_38 (v := (-12)) (by decide) ?_
  cases hf
  exact z_iret C hr hk dX11_put_40
def f_X11_put_68  (z : St) (s0 : Nat) (s1 : Int32) (s2 : Int64) : Option (St × Int32) :=
  if inb s1 160 = true then (some (zL z s0 (Int32.toNatClampNeg s1) s2, 1)) else none
theorem b_X11_put_68 {p : Program} {l : Launch} {e : Env} {s : State} {m : MethodId} {args : Array Value} {below : List Frame} {meth : Method} {c : Code} {g : Ga} {A : Nat → Prop} (C : Cx l g A p s m args c cX11_put 5 RX11 (rm_X11_put) (0, 0)) (hr : meth.sig.returnType = (some .int)) (hk : meth.locks = false)   (z : St) (s0 : Nat) (s1 : Int32) (s2 : Int64) (hs0 : kd s0 = 100160) {res : St × Int32} (hf : f_X11_put_68  z s0 s1 s2 = some res) : Zj p l e (rm_X11_put) s m args below meth c g A 5 (0, 0) (QI g A below args s res) z 68 [] [.long s2, .int s1, .ref (g.1 s0)] := by
  unfold f_X11_put_68 at hf
  obtain ⟨h1, hf⟩ := q_ck hf
  refine z_last C (n := 160) dX11_put_68 hs0 (by decide) h1 ?_
  refine z_iconst C dX11_put_69 (v := 1) (by decide) ?_
  cases hf
  exact z_iret C hr hk dX11_put_70
def f_X11_put_61  (z : St) (y3 : Int64) (s0 : Nat) (s1 : Int32) : Option (St × Int32) :=
  f_X11_put_68 z s0 s1 (Int32.toInt64 (Int64.toInt32 y3))
theorem b_X11_put_61 {p : Program} {l : Launch} {e : Env} {s : State} {m : MethodId} {args : Array Value} {below : List Frame} {meth : Method} {c : Code} {g : Ga} {A : Nat → Prop} (C : Cx l g A p s m args c cX11_put 5 RX11 (rm_X11_put) (0, 0)) (hr : meth.sig.returnType = (some .int)) (hk : meth.locks = false)   (z : St) (y3 : Int64) (s0 : Nat) (s1 : Int32) (hs0 : kd s0 = 100160) {res : St × Int32} (hf : f_X11_put_61  z y3 s0 s1 = some res) : Zj p l e (rm_X11_put) s m args below meth c g A 5 (0, 0) (QI g A below args s res) z 61 [(3, .long y3)] [.int s1, .ref (g.1 s0)] := by
  unfold f_X11_put_61 at hf
  refine z_lload_n C dX11_put_61 rfl 0 rfl ?_
  refine z_l2i C dX11_put_62 ?_
  refine z_i2l C dX11_put_63 ?_
  exact z_goto C dX11_put_64 (by decide) (z_sub [] rfl (b_X11_put_68 C hr hk z s0 s1 (Int32.toInt64 (Int64.toInt32 y3)) hs0 hf))
def f_X11_put_67  (z : St) (y3 : Int64) (s0 : Nat) (s1 : Int32) : Option (St × Int32) :=
  f_X11_put_68 z s0 s1 y3
theorem b_X11_put_67 {p : Program} {l : Launch} {e : Env} {s : State} {m : MethodId} {args : Array Value} {below : List Frame} {meth : Method} {c : Code} {g : Ga} {A : Nat → Prop} (C : Cx l g A p s m args c cX11_put 5 RX11 (rm_X11_put) (0, 0)) (hr : meth.sig.returnType = (some .int)) (hk : meth.locks = false)   (z : St) (y3 : Int64) (s0 : Nat) (s1 : Int32) (hs0 : kd s0 = 100160) {res : St × Int32} (hf : f_X11_put_67  z y3 s0 s1 = some res) : Zj p l e (rm_X11_put) s m args below meth c g A 5 (0, 0) (QI g A below args s res) z 67 [(3, .long y3)] [.int s1, .ref (g.1 s0)] := by
  unfold f_X11_put_67 at hf
  refine z_lload_n C dX11_put_67 rfl 0 rfl ?_
  exact z_sub [] rfl (b_X11_put_68 C hr hk z s0 s1 y3 hs0 hf)
def f_X11_put_41  (z : St) (o0 : Nat) (x1 : Int32) (x2 : Int32) (y3 : Int64) : Option (St × Int32) :=
  if inb x1 4 = true then (if (z.1 (rf o0 54) (Int32.toNatClampNeg x1)) = 1 then f_X11_put_61 z y3 (rf o0 56) ((40 * x1) + x2) else f_X11_put_67 z y3 (rf o0 56) ((40 * x1) + x2)) else none
theorem b_X11_put_41 {p : Program} {l : Launch} {e : Env} {s : State} {m : MethodId} {args : Array Value} {below : List Frame} {meth : Method} {c : Code} {g : Ga} {A : Nat → Prop} (C : Cx l g A p s m args c cX11_put 5 RX11 (rm_X11_put) (0, 0)) (hr : meth.sig.returnType = (some .int)) (hk : meth.locks = false)   (z : St) (o0 : Nat) (x1 : Int32) (x2 : Int32) (y3 : Int64) (ho0 : kd o0 = 11) {res : St × Int32} (hf : f_X11_put_41  z o0 x1 x2 y3 = some res) : Zj p l e (rm_X11_put) s m args below meth c g A 5 (0, 0) (QI g A below args s res) z 41 [(0, .ref (g.1 o0)), (1, .int x1), (2, .int x2), (3, .long y3)] [] := by
  unfold f_X11_put_41 at hf
  refine z_aload_n C dX11_put_41 rfl 0 rfl ?_
  refine gf_X11_101 C dX11_put_42 ho0 ?_
  refine z_bipush C dX11_put_45 (v := 40) (by decide) ?_
  refine z_iload_n C dX11_put_47 rfl 1 rfl ?_
  refine z_imul C dX11_put_48 ?_
  refine z_iload_n C dX11_put_49 rfl 2 rfl ?_
  refine z_iadd C dX11_put_50 ?_
  refine z_aload_n C dX11_put_51 rfl 0 rfl ?_
  refine gf_X11_95 C dX11_put_52 ho0 ?_
  refine z_iload_n C dX11_put_55 rfl 1 rfl ?_
  obtain ⟨h1, hf⟩ := q_ck hf
  refine z_iald C (n := 4) dX11_put_56 (rt_11_54 _ (kd_lt ho0 (by decide)) ho0) (by decide) h1 ?_
  refine z_iconst C dX11_put_57 (v := 1) (by decide) ?_
  exact z_icmp_ne C dX11_put_58 (by decide) (fun h => z_sub [3] rfl (b_X11_put_67 C hr hk z y3 (rf o0 56) ((40 * x1) + x2) (rt_11_56 _ (kd_lt ho0 (by decide)) ho0) (q_f hf h))) (fun h => z_sub [3] rfl (b_X11_put_61 C hr hk z y3 (rf o0 56) ((40 * x1) + x2) (rt_11_56 _ (kd_lt ho0 (by decide)) ho0) (q_t hf h)))
def f_X11_put_22  (z : St) (o0 : Nat) (x1 : Int32) (x2 : Int32) (y3 : Int64) : Option (St × Int32) :=
  if inb x1 4 = true then (((f_X11_in z x2 0 ((z.1 (rf o0 55) (Int32.toNatClampNeg x1)) - 1)).bind fun r2 => if r2.2 = 0 then f_X11_put_38 r2.1 else f_X11_put_41 r2.1 o0 x1 x2 y3)) else none
theorem b_X11_put_22 {p : Program} {l : Launch} {e : Env} {s : State} {m : MethodId} {args : Array Value} {below : List Frame} {meth : Method} {c : Code} {g : Ga} {A : Nat → Prop} (C : Cx l g A p s m args c cX11_put 5 RX11 (rm_X11_put) (0, 0)) (hr : meth.sig.returnType = (some .int)) (hk : meth.locks = false)   (z : St) (o0 : Nat) (x1 : Int32) (x2 : Int32) (y3 : Int64) (ho0 : kd o0 = 11) {res : St × Int32} (hf : f_X11_put_22  z o0 x1 x2 y3 = some res) : Zj p l e (rm_X11_put) s m args below meth c g A 5 (0, 0) (QI g A below args s res) z 22 [(0, .ref (g.1 o0)), (1, .int x1), (2, .int x2), (3, .long y3)] [] := by
  unfold f_X11_put_22 at hf
  refine z_iload_n C dX11_put_22 rfl 2 rfl ?_
  refine z_iconst C dX11_put_23 (v := 0) (by decide) ?_
  refine z_aload_n C dX11_put_24 rfl 0 rfl ?_
  refine gf_X11_98 C dX11_put_25 ho0 ?_
  refine z_iload_n C dX11_put_28 rfl 1 rfl ?_
  obtain ⟨h1, hf⟩ := q_ck hf
  refine z_iald C (n := 4) dX11_put_29 (rt_11_55 _ (kd_lt ho0 (by decide)) ho0) (by decide) h1 ?_
  refine z_iconst C dX11_put_30 (v := 1) (by decide) ?_
  refine z_isub C dX11_put_31 ?_
  obtain ⟨r2, hc3, hf⟩ := q_bd hf
  refine z_cSi C (st := []) (c_X11_in  hc3) mw_X11_in ml_X11_114 dX11_put_32 rfl rfl rfl ⟨Nat.le_of_ble_eq_true rfl, Nat.le_of_ble_eq_true rfl⟩ rfl (Nat.le_of_ble_eq_true rfl) ?_
  exact z_if_ne C dX11_put_35 (by decide) (fun h => z_sub [0, 1, 2, 3] rfl (b_X11_put_41 C hr hk r2.1 o0 x1 x2 y3 ho0 (q_f hf h))) (fun h => z_sub [] rfl (b_X11_put_38 C hr hk r2.1 (q_t hf h)))
def f_X11_put_10  (z : St) (o0 : Nat) (x1 : Int32) (x2 : Int32) (y3 : Int64) : Option (St × Int32) :=
  if inb x1 4 = true then (if 0 ≤ (z.1 (rf o0 54) (Int32.toNatClampNeg x1)) then f_X11_put_22 z o0 x1 x2 y3 else f_X11_put_19 z) else none
theorem b_X11_put_10 {p : Program} {l : Launch} {e : Env} {s : State} {m : MethodId} {args : Array Value} {below : List Frame} {meth : Method} {c : Code} {g : Ga} {A : Nat → Prop} (C : Cx l g A p s m args c cX11_put 5 RX11 (rm_X11_put) (0, 0)) (hr : meth.sig.returnType = (some .int)) (hk : meth.locks = false)   (z : St) (o0 : Nat) (x1 : Int32) (x2 : Int32) (y3 : Int64) (ho0 : kd o0 = 11) {res : St × Int32} (hf : f_X11_put_10  z o0 x1 x2 y3 = some res) : Zj p l e (rm_X11_put) s m args below meth c g A 5 (0, 0) (QI g A below args s res) z 10 [(0, .ref (g.1 o0)), (1, .int x1), (2, .int x2), (3, .long y3)] [] := by
  unfold f_X11_put_10 at hf
  refine z_aload_n C dX11_put_10 rfl 0 rfl ?_
  refine gf_X11_95 C dX11_put_11 ho0 ?_
  refine z_iload_n C dX11_put_14 rfl 1 rfl ?_
  obtain ⟨h1, hf⟩ := q_ck hf
  refine z_iald C (n := 4) dX11_put_15 (rt_11_54 _ (kd_lt ho0 (by decide)) ho0) (by decide) h1 ?_
  exact z_if_ge C dX11_put_16 (by decide) (fun h => z_sub [0, 1, 2, 3] rfl (b_X11_put_22 C hr hk z o0 x1 x2 y3 ho0 (q_t hf h))) (fun h => z_sub [] rfl (b_X11_put_19 C hr hk z (q_f hf h)))
def f_X11_put_0  (z : St) (o0 : Nat) (x1 : Int32) (x2 : Int32) (y3 : Int64) : Option (St × Int32) :=
  ((f_X11_isSheet z x1).bind fun r1 => if r1.2 = 0 then f_X11_put_7 r1.1 else f_X11_put_10 r1.1 o0 x1 x2 y3)
theorem b_X11_put_0 {p : Program} {l : Launch} {e : Env} {s : State} {m : MethodId} {args : Array Value} {below : List Frame} {meth : Method} {c : Code} {g : Ga} {A : Nat → Prop} (C : Cx l g A p s m args c cX11_put 5 RX11 (rm_X11_put) (0, 0)) (hr : meth.sig.returnType = (some .int)) (hk : meth.locks = false)   (z : St) (o0 : Nat) (x1 : Int32) (x2 : Int32) (y3 : Int64) (ho0 : kd o0 = 11) {res : St × Int32} (hf : f_X11_put_0  z o0 x1 x2 y3 = some res) : Zj p l e (rm_X11_put) s m args below meth c g A 5 (0, 0) (QI g A below args s res) z 0 [(0, .ref (g.1 o0)), (1, .int x1), (2, .int x2), (3, .long y3)] [] := by
  unfold f_X11_put_0 at hf
  refine z_iload_n C dX11_put_0 rfl 1 rfl ?_
  obtain ⟨r1, hc2, hf⟩ := q_bd hf
  refine z_cSi C (st := []) (c_X11_isSheet  hc2) mw_X11_isSheet ml_X11_302 dX11_put_1 rfl rfl rfl ⟨Nat.le_of_ble_eq_true rfl, Nat.le_of_ble_eq_true rfl⟩ rfl (Nat.le_of_ble_eq_true rfl) ?_
  exact z_if_ne C dX11_put_4 (by decide) (fun h => z_sub [0, 1, 2, 3] rfl (b_X11_put_10 C hr hk r1.1 o0 x1 x2 y3 ho0 (q_f hf h))) (fun h => z_sub [] rfl (b_X11_put_7 C hr hk r1.1 (q_t hf h)))
def f_X11_put (z : St) (o0 : Nat) (x1 : Int32) (x2 : Int32) (y3 : Int64) : Option (St × Int32) := f_X11_put_0 z o0 x1 x2 y3
theorem c_X11_put {l : Launch} {g : Ga} {A : Nat → Prop} {z : St} {o0 : Nat} {x1 : Int32} {x2 : Int32} {y3 : Int64} (ho0 : kd o0 = 11) {res : St × Int32} (hf : f_X11_put z o0 x1 x2 y3 = some res) : CI l g A yX11_put cX11_put 5 (some .int) rm_X11_put [.ref (g.1 o0), .int x1, .int x2, .long y3] z res :=
  e_CI (by decide) (Nat.le_of_ble_eq_true rfl) rfl (fun p e s m args below meth c C hr hk => z_sub [0, 1, 2, 3] rfl (b_X11_put_0 C hr hk z o0 x1 x2 y3 ho0 hf))
abbrev rm_X11_item_ : Room := { frames := 2, cells := 0, slots := 0, locals := 42 }
def f_X11_item__49  (z : St) (s0 : Int64) : Option (St × Int64) :=
  some (z, s0)
theorem b_X11_item__49 {p : Program} {l : Launch} {e : Env} {s : State} {m : MethodId} {args : Array Value} {below : List Frame} {meth : Method} {c : Code} {g : Ga} {A : Nat → Prop} (C : Cx l g A p s m args c cX11_item_ 3 RX11 (rm_X11_item_) (0, 0)) (hr : meth.sig.returnType = (some .long)) (hk : meth.locks = false)   (z : St) (s0 : Int64)  {res : St × Int64} (hf : f_X11_item__49  z s0 = some res) : Zj p l e (rm_X11_item_) s m args below meth c g A 3 (0, 0) (QJ g A below args s res) z 49 [] [.long s0] := by
  unfold f_X11_item__49 at hf
  cases hf
  exact z_lret C hr hk dX11_item__49
def f_X11_item__32  (z : St) (o0 : Nat) (x1 : Int32) (x2 : Int32) : Option (St × Int64) :=
  if inb ((40 * x1) + x2) 160 = true then (f_X11_item__49 z (z.2 (rf o0 56) (Int32.toNatClampNeg ((40 * x1) + x2)))) else none
theorem b_X11_item__32 {p : Program} {l : Launch} {e : Env} {s : State} {m : MethodId} {args : Array Value} {below : List Frame} {meth : Method} {c : Code} {g : Ga} {A : Nat → Prop} (C : Cx l g A p s m args c cX11_item_ 3 RX11 (rm_X11_item_) (0, 0)) (hr : meth.sig.returnType = (some .long)) (hk : meth.locks = false)   (z : St) (o0 : Nat) (x1 : Int32) (x2 : Int32) (ho0 : kd o0 = 11) {res : St × Int64} (hf : f_X11_item__32  z o0 x1 x2 = some res) : Zj p l e (rm_X11_item_) s m args below meth c g A 3 (0, 0) (QJ g A below args s res) z 32 [(0, .ref (g.1 o0)), (1, .int x1), (2, .int x2)] [] := by
  unfold f_X11_item__32 at hf
  refine z_aload_n C dX11_item__32 rfl 0 rfl ?_
  refine gf_X11_101 C dX11_item__33 ho0 ?_
  refine z_bipush C dX11_item__36 (v := 40) (by decide) ?_
  refine z_iload_n C dX11_item__38 rfl 1 rfl ?_
  refine z_imul C dX11_item__39 ?_
  refine z_iload_n C dX11_item__40 rfl 2 rfl ?_
  refine z_iadd C dX11_item__41 ?_
  obtain ⟨h1, hf⟩ := q_ck hf
  refine z_lald C (n := 160) dX11_item__42 (rt_11_56 _ (kd_lt ho0 (by decide)) ho0) (by decide) h1 ?_
  exact z_goto C dX11_item__43 (by decide) (z_sub [] rfl (b_X11_item__49 C hr hk z (z.2 (rf o0 56) (Int32.toNatClampNeg ((40 * x1) + x2))) hf))
def f_X11_item__46  (z : St)  : Option (St × Int64) :=
  f_X11_item__49 z ((-4611686018427387904))
theorem b_X11_item__46 {p : Program} {l : Launch} {e : Env} {s : State} {m : MethodId} {args : Array Value} {below : List Frame} {meth : Method} {c : Code} {g : Ga} {A : Nat → Prop} (C : Cx l g A p s m args c cX11_item_ 3 RX11 (rm_X11_item_) (0, 0)) (hr : meth.sig.returnType = (some .long)) (hk : meth.locks = false)   (z : St)   {res : St × Int64} (hf : f_X11_item__46  z  = some res) : Zj p l e (rm_X11_item_) s m args below meth c g A 3 (0, 0) (QJ g A below args s res) z 46 [] [] := by
  unfold f_X11_item__46 at hf
  refine z_ldc2 C dX11_item__46 kc_X11_353 ?_
  exact z_sub [] rfl (b_X11_item__49 C hr hk z ((-4611686018427387904)) hf)
def f_X11_item__16  (z : St) (o0 : Nat) (x1 : Int32) (x2 : Int32) : Option (St × Int64) :=
  if inb x1 4 = true then (((f_X11_in z x2 0 ((z.1 (rf o0 55) (Int32.toNatClampNeg x1)) - 1)).bind fun r2 => if r2.2 = 0 then f_X11_item__46 r2.1 else f_X11_item__32 r2.1 o0 x1 x2)) else none
theorem b_X11_item__16 {p : Program} {l : Launch} {e : Env} {s : State} {m : MethodId} {args : Array Value} {below : List Frame} {meth : Method} {c : Code} {g : Ga} {A : Nat → Prop} (C : Cx l g A p s m args c cX11_item_ 3 RX11 (rm_X11_item_) (0, 0)) (hr : meth.sig.returnType = (some .long)) (hk : meth.locks = false)   (z : St) (o0 : Nat) (x1 : Int32) (x2 : Int32) (ho0 : kd o0 = 11) {res : St × Int64} (hf : f_X11_item__16  z o0 x1 x2 = some res) : Zj p l e (rm_X11_item_) s m args below meth c g A 3 (0, 0) (QJ g A below args s res) z 16 [(0, .ref (g.1 o0)), (1, .int x1), (2, .int x2)] [] := by
  unfold f_X11_item__16 at hf
  refine z_iload_n C dX11_item__16 rfl 2 rfl ?_
  refine z_iconst C dX11_item__17 (v := 0) (by decide) ?_
  refine z_aload_n C dX11_item__18 rfl 0 rfl ?_
  refine gf_X11_98 C dX11_item__19 ho0 ?_
  refine z_iload_n C dX11_item__22 rfl 1 rfl ?_
  obtain ⟨h1, hf⟩ := q_ck hf
  refine z_iald C (n := 4) dX11_item__23 (rt_11_55 _ (kd_lt ho0 (by decide)) ho0) (by decide) h1 ?_
  refine z_iconst C dX11_item__24 (v := 1) (by decide) ?_
  refine z_isub C dX11_item__25 ?_
  obtain ⟨r2, hc3, hf⟩ := q_bd hf
  refine z_cSi C (st := []) (c_X11_in  hc3) mw_X11_in ml_X11_114 dX11_item__26 rfl rfl rfl ⟨Nat.le_of_ble_eq_true rfl, Nat.le_of_ble_eq_true rfl⟩ rfl (Nat.le_of_ble_eq_true rfl) ?_
  exact z_if_eq C dX11_item__29 (by decide) (fun h => z_sub [] rfl (b_X11_item__46 C hr hk r2.1 (q_t hf h))) (fun h => z_sub [0, 1, 2] rfl (b_X11_item__32 C hr hk r2.1 o0 x1 x2 ho0 (q_f hf h)))
def f_X11_item__7  (z : St) (o0 : Nat) (x1 : Int32) (x2 : Int32) : Option (St × Int64) :=
  if inb x1 4 = true then (if (z.1 (rf o0 54) (Int32.toNatClampNeg x1)) < 0 then f_X11_item__46 z else f_X11_item__16 z o0 x1 x2) else none
theorem b_X11_item__7 {p : Program} {l : Launch} {e : Env} {s : State} {m : MethodId} {args : Array Value} {below : List Frame} {meth : Method} {c : Code} {g : Ga} {A : Nat → Prop} (C : Cx l g A p s m args c cX11_item_ 3 RX11 (rm_X11_item_) (0, 0)) (hr : meth.sig.returnType = (some .long)) (hk : meth.locks = false)   (z : St) (o0 : Nat) (x1 : Int32) (x2 : Int32) (ho0 : kd o0 = 11) {res : St × Int64} (hf : f_X11_item__7  z o0 x1 x2 = some res) : Zj p l e (rm_X11_item_) s m args below meth c g A 3 (0, 0) (QJ g A below args s res) z 7 [(0, .ref (g.1 o0)), (1, .int x1), (2, .int x2)] [] := by
  unfold f_X11_item__7 at hf
  refine z_aload_n C dX11_item__7 rfl 0 rfl ?_
  refine gf_X11_95 C dX11_item__8 ho0 ?_
  refine z_iload_n C dX11_item__11 rfl 1 rfl ?_
  obtain ⟨h1, hf⟩ := q_ck hf
  refine z_iald C (n := 4) dX11_item__12 (rt_11_54 _ (kd_lt ho0 (by decide)) ho0) (by decide) h1 ?_
  exact z_if_lt C dX11_item__13 (by decide) (fun h => z_sub [] rfl (b_X11_item__46 C hr hk z (q_t hf h))) (fun h => z_sub [0, 1, 2] rfl (b_X11_item__16 C hr hk z o0 x1 x2 ho0 (q_f hf h)))
def f_X11_item__0  (z : St) (o0 : Nat) (x1 : Int32) (x2 : Int32) : Option (St × Int64) :=
  ((f_X11_isSheet z x1).bind fun r1 => if r1.2 = 0 then f_X11_item__46 r1.1 else f_X11_item__7 r1.1 o0 x1 x2)
theorem b_X11_item__0 {p : Program} {l : Launch} {e : Env} {s : State} {m : MethodId} {args : Array Value} {below : List Frame} {meth : Method} {c : Code} {g : Ga} {A : Nat → Prop} (C : Cx l g A p s m args c cX11_item_ 3 RX11 (rm_X11_item_) (0, 0)) (hr : meth.sig.returnType = (some .long)) (hk : meth.locks = false)   (z : St) (o0 : Nat) (x1 : Int32) (x2 : Int32) (ho0 : kd o0 = 11) {res : St × Int64} (hf : f_X11_item__0  z o0 x1 x2 = some res) : Zj p l e (rm_X11_item_) s m args below meth c g A 3 (0, 0) (QJ g A below args s res) z 0 [(0, .ref (g.1 o0)), (1, .int x1), (2, .int x2)] [] := by
  unfold f_X11_item__0 at hf
  refine z_iload_n C dX11_item__0 rfl 1 rfl ?_
  obtain ⟨r1, hc2, hf⟩ := q_bd hf
  refine z_cSi C (st := []) (c_X11_isSheet  hc2) mw_X11_isSheet ml_X11_302 dX11_item__1 rfl rfl rfl ⟨Nat.le_of_ble_eq_true rfl, Nat.le_of_ble_eq_true rfl⟩ rfl (Nat.le_of_ble_eq_true rfl) ?_
  exact z_if_eq C dX11_item__4 (by decide) (fun h => z_sub [] rfl (b_X11_item__46 C hr hk r1.1 (q_t hf h))) (fun h => z_sub [0, 1, 2] rfl (b_X11_item__7 C hr hk r1.1 o0 x1 x2 ho0 (q_f hf h)))
def f_X11_item_ (z : St) (o0 : Nat) (x1 : Int32) (x2 : Int32) : Option (St × Int64) := f_X11_item__0 z o0 x1 x2
theorem c_X11_item_ {l : Launch} {g : Ga} {A : Nat → Prop} {z : St} {o0 : Nat} {x1 : Int32} {x2 : Int32} (ho0 : kd o0 = 11) {res : St × Int64} (hf : f_X11_item_ z o0 x1 x2 = some res) : CJ l g A yX11_item_ cX11_item_ 3 (some .long) rm_X11_item_ [.ref (g.1 o0), .int x1, .int x2] z res :=
  e_CJ (by decide) (Nat.le_of_ble_eq_true rfl) rfl (fun p e s m args below meth c C hr hk => z_sub [0, 1, 2] rfl (b_X11_item__0 C hr hk z o0 x1 x2 ho0 hf))
abbrev rm_X11_copy : Room := { frames := 2, cells := 0, slots := 0, locals := 42 }
def f_X11_copy_14  (z : St)  : Option (St × Int32) :=
  some (z, (-2))
theorem b_X11_copy_14 {p : Program} {l : Launch} {e : Env} {s : State} {m : MethodId} {args : Array Value} {below : List Frame} {meth : Method} {c : Code} {g : Ga} {A : Nat → Prop} (C : Cx l g A p s m args c cX11_copy 9 RX11 (rm_X11_copy) (0, 0)) (hr : meth.sig.returnType = (some .int)) (hk : meth.locks = false)   (z : St)   {res : St × Int32} (hf : f_X11_copy_14  z  = some res) : Zj p l e (rm_X11_copy) s m args below meth c g A 9 (0, 0) (QI g A below args s res) z 14 [] [] := by
  unfold f_X11_copy_14 at hf
  refine z_bipush C dX11_copy_14 (v := (-2)) (by decide) ?_
  cases hf
  exact z_iret C hr hk dX11_copy_16
def f_X11_copy_35  (z : St)  : Option (St × Int32) :=
  some (z, (-11))
theorem b_X11_copy_35 {p : Program} {l : Launch} {e : Env} {s : State} {m : MethodId} {args : Array Value} {below : List Frame} {meth : Method} {c : Code} {g : Ga} {A : Nat → Prop} (C : Cx l g A p s m args c cX11_copy 9 RX11 (rm_X11_copy) (0, 0)) (hr : meth.sig.returnType = (some .int)) (hk : meth.locks = false)   (z : St)   {res : St × Int32} (hf : f_X11_copy_35  z  = some res) : Zj p l e (rm_X11_copy) s m args below meth c g A 9 (0, 0) (QI g A below args s res) z 35 [] [] := by
  unfold f_X11_copy_35 at hf
  refine z_bipush C dX11_copy_35 (v := (-11)) (by decide) ?_
  cases hf
  exact z_iret C hr hk dX11_copy_37
def f_X11_copy_53  (z : St)  : Option (St × Int32) :=
  some (z, (-13))
theorem b_X11_copy_53 {p : Program} {l : Launch} {e : Env} {s : State} {m : MethodId} {args : Array Value} {below : List Frame} {meth : Method} {c : Code} {g : Ga} {A : Nat → Prop} (C : Cx l g A p s m args c cX11_copy 9 RX11 (rm_X11_copy) (0, 0)) (hr : meth.sig.returnType = (some .int)) (hk : meth.locks = false)   (z : St)   {res : St × Int32} (hf : f_X11_copy_53  z  = some res) : Zj p l e (rm_X11_copy) s m args below meth c g A 9 (0, 0) (QI g A below args s res) z 53 [] [] := by
  unfold f_X11_copy_53 at hf
  refine z_bipush C dX11_copy_53 (v := (-13)) (by decide) ?_
  cases hf
  exact z_iret C hr hk dX11_copy_55
def f_X11_copy_97  (z : St)  : Option (St × Int32) :=
  some (z, (-12))
theorem b_X11_copy_97 {p : Program} {l : Launch} {e : Env} {s : State} {m : MethodId} {args : Array Value} {below : List Frame} {meth : Method} {c : Code} {g : Ga} {A : Nat → Prop} (C : Cx l g A p s m args c cX11_copy 9 RX11 (rm_X11_copy) (0, 0)) (hr : meth.sig.returnType = (some .int)) (hk : meth.locks = false)   (z : St)   {res : St × Int32} (hf : f_X11_copy_97  z  = some res) : Zj p l e (rm_X11_copy) s m args below meth c g A 9 (0, 0) (QI g A below args s res) z 97 [] [] := by
  unfold f_X11_copy_97 at hf
  refine z_bipush C dX11_copy_97 (v := (-12)) (by decide) ?_
  cases hf
  exact z_iret C hr hk dX11_copy_99
def f_X11_copy_145 (K121 : St → Nat → Int32 → Int32 → Int32 → Int32 → Int32 → Int32 → Int32 → Option (St × Int32)) (z : St) (o0 : Nat) (x1 : Int32) (x2 : Int32) (x3 : Int32) (x4 : Int32) (x5 : Int32) (x6 : Int32) (x7 : Int32) (s0 : Int32) : Option (St × Int32) :=
  if inb (((40 * x1) + x2) + s0) 160 = true then (if inb (((40 * x3) + x4) + s0) 160 = true then (K121 (zL z (rf o0 56) (Int32.toNatClampNeg (((40 * x3) + x4) + s0)) (z.2 (rf o0 56) (Int32.toNatClampNeg (((40 * x1) + x2) + s0)))) o0 x1 x2 x3 x4 x5 x6 (x7 + 1)) else none) else none
theorem b_X11_copy_145 {p : Program} {l : Launch} {e : Env} {s : State} {m : MethodId} {args : Array Value} {below : List Frame} {meth : Method} {c : Code} {g : Ga} {A : Nat → Prop} (C : Cx l g A p s m args c cX11_copy 9 RX11 (rm_X11_copy) (0, 0)) (hr : meth.sig.returnType = (some .int)) (hk : meth.locks = false) {K121 : St → Nat → Int32 → Int32 → Int32 → Int32 → Int32 → Int32 → Int32 → Option (St × Int32)} (hK121 : ∀ (z : St) (o0 : Nat) (x1 : Int32) (x2 : Int32) (x3 : Int32) (x4 : Int32) (x5 : Int32) (x6 : Int32) (x7 : Int32) (_ : kd o0 = 11) {res : St × Int32}, K121 z o0 x1 x2 x3 x4 x5 x6 x7 = some res → Zj p l e (rm_X11_copy) s m args below meth c g A 9 (0, 0) (QI g A below args s res) z 121 [(0, .ref (g.1 o0)), (1, .int x1), (2, .int x2), (3, .int x3), (4, .int x4), (5, .int x5), (6, .int x6), (7, .int x7)] []) (z : St) (o0 : Nat) (x1 : Int32) (x2 : Int32) (x3 : Int32) (x4 : Int32) (x5 : Int32) (x6 : Int32) (x7 : Int32) (s0 : Int32) (ho0 : kd o0 = 11) {res : St × Int32} (hf : f_X11_copy_145 K121 z o0 x1 x2 x3 x4 x5 x6 x7 s0 = some res) : Zj p l e (rm_X11_copy) s m args below meth c g A 9 (0, 0) (QI g A below args s res) z 145 [(0, .ref (g.1 o0)), (1, .int x1), (2, .int x2), (3, .int x3), (4, .int x4), (5, .int x5), (6, .int x6), (7, .int x7)] [.int s0] := by
  unfold f_X11_copy_145 at hf
  refine z_istore C (lv2 := [(8, .int s0), (0, .ref (g.1 o0)), (1, .int x1), (2, .int x2), (3, .int x3), (4, .int x4), (5, .int x5), (6, .int x6), (7, .int x7)]) dX11_copy_145 (by decide) rfl ?_
  refine z_aload_n C dX11_copy_147 rfl 1 rfl ?_
  refine gf_X11_101 C dX11_copy_148 ho0 ?_
  refine z_bipush C dX11_copy_151 (v := 40) (by decide) ?_
  refine z_iload_n C dX11_copy_153 rfl 4 rfl ?_
  refine z_imul C dX11_copy_154 ?_
  refine z_iload C dX11_copy_155 5 rfl ?_
  refine z_iadd C dX11_copy_157 ?_
  refine z_iload C dX11_copy_158 0 rfl ?_
  refine z_iadd C dX11_copy_160 ?_
  refine z_aload_n C dX11_copy_161 rfl 1 rfl ?_
  refine gf_X11_101 C dX11_copy_162 ho0 ?_
  refine z_bipush C dX11_copy_165 (v := 40) (by decide) ?_
  refine z_iload_n C dX11_copy_167 rfl 2 rfl ?_
  refine z_imul C dX11_copy_168 ?_
  refine z_iload_n C dX11_copy_169 rfl 3 rfl ?_
  refine z_iadd C dX11_copy_170 ?_
  refine z_iload C dX11_copy_171 0 rfl ?_
  refine z_iadd C dX11_copy_173 ?_
  obtain ⟨h1, hf⟩ := q_ck hf
  refine z_lald C (n := 160) dX11_copy_174 (rt_11_56 _ (kd_lt ho0 (by decide)) ho0) (by decide) h1 ?_
  obtain ⟨h2, hf⟩ := q_ck hf
  refine z_last C (n := 160) dX11_copy_175 (rt_11_56 _ (kd_lt ho0 (by decide)) ho0) (by decide) h2 ?_
  refine z_iinc C (k := 8) (v := x7 + 1) (lv2 := [(7, .int (x7 + 1)), (8, .int s0), (0, .ref (g.1 o0)), (1, .int x1), (2, .int x2), (3, .int x3), (4, .int x4), (5, .int x5), (6, .int x6)]) dX11_copy_176 rfl rfl (by decide) rfl ?_
  exact z_goto C dX11_copy_179 (by decide) (z_sub [2, 3, 4, 5, 6, 7, 8, 0] rfl (hK121 (zL z (rf o0 56) (Int32.toNatClampNeg (((40 * x3) + x4) + s0)) (z.2 (rf o0 56) (Int32.toNatClampNeg (((40 * x1) + x2) + s0)))) o0 x1 x2 x3 x4 x5 x6 (x7 + 1) ho0 hf))
def f_X11_copy_133 (K121 : St → Nat → Int32 → Int32 → Int32 → Int32 → Int32 → Int32 → Int32 → Option (St × Int32)) (z : St) (o0 : Nat) (x1 : Int32) (x2 : Int32) (x3 : Int32) (x4 : Int32) (x5 : Int32) (x6 : Int32) (x7 : Int32) : Option (St × Int32) :=
  f_X11_copy_145 K121 z o0 x1 x2 x3 x4 x5 x6 x7 ((x5 - 1) - x7)
theorem b_X11_copy_133 {p : Program} {l : Launch} {e : Env} {s : State} {m : MethodId} {args : Array Value} {below : List Frame} {meth : Method} {c : Code} {g : Ga} {A : Nat → Prop} (C : Cx l g A p s m args c cX11_copy 9 RX11 (rm_X11_copy) (0, 0)) (hr : meth.sig.returnType = (some .int)) (hk : meth.locks = false) {K121 : St → Nat → Int32 → Int32 → Int32 → Int32 → Int32 → Int32 → Int32 → Option (St × Int32)} (hK121 : ∀ (z : St) (o0 : Nat) (x1 : Int32) (x2 : Int32) (x3 : Int32) (x4 : Int32) (x5 : Int32) (x6 : Int32) (x7 : Int32) (_ : kd o0 = 11) {res : St × Int32}, K121 z o0 x1 x2 x3 x4 x5 x6 x7 = some res → Zj p l e (rm_X11_copy) s m args below meth c g A 9 (0, 0) (QI g A below args s res) z 121 [(0, .ref (g.1 o0)), (1, .int x1), (2, .int x2), (3, .int x3), (4, .int x4), (5, .int x5), (6, .int x6), (7, .int x7)] []) (z : St) (o0 : Nat) (x1 : Int32) (x2 : Int32) (x3 : Int32) (x4 : Int32) (x5 : Int32) (x6 : Int32) (x7 : Int32) (ho0 : kd o0 = 11) {res : St × Int32} (hf : f_X11_copy_133 K121 z o0 x1 x2 x3 x4 x5 x6 x7 = some res) : Zj p l e (rm_X11_copy) s m args below meth c g A 9 (0, 0) (QI g A below args s res) z 133 [(0, .ref (g.1 o0)), (1, .int x1), (2, .int x2), (3, .int x3), (4, .int x4), (5, .int x5), (6, .int x6), (7, .int x7)] [] := by
  unfold f_X11_copy_133 at hf
  refine z_iload C dX11_copy_133 5 rfl ?_
  refine z_iconst C dX11_copy_135 (v := 1) (by decide) ?_
  refine z_isub C dX11_copy_136 ?_
  refine z_iload C dX11_copy_137 7 rfl ?_
  refine z_isub C dX11_copy_139 ?_
  exact z_goto C dX11_copy_140 (by decide) (z_sub [0, 1, 2, 3, 4, 5, 6, 7] rfl (b_X11_copy_145 C hr hk hK121 z o0 x1 x2 x3 x4 x5 x6 x7 ((x5 - 1) - x7) ho0 hf))
def f_X11_copy_143 (K121 : St → Nat → Int32 → Int32 → Int32 → Int32 → Int32 → Int32 → Int32 → Option (St × Int32)) (z : St) (o0 : Nat) (x1 : Int32) (x2 : Int32) (x3 : Int32) (x4 : Int32) (x5 : Int32) (x6 : Int32) (x7 : Int32) : Option (St × Int32) :=
  f_X11_copy_145 K121 z o0 x1 x2 x3 x4 x5 x6 x7 x7
theorem b_X11_copy_143 {p : Program} {l : Launch} {e : Env} {s : State} {m : MethodId} {args : Array Value} {below : List Frame} {meth : Method} {c : Code} {g : Ga} {A : Nat → Prop} (C : Cx l g A p s m args c cX11_copy 9 RX11 (rm_X11_copy) (0, 0)) (hr : meth.sig.returnType = (some .int)) (hk : meth.locks = false) {K121 : St → Nat → Int32 → Int32 → Int32 → Int32 → Int32 → Int32 → Int32 → Option (St × Int32)} (hK121 : ∀ (z : St) (o0 : Nat) (x1 : Int32) (x2 : Int32) (x3 : Int32) (x4 : Int32) (x5 : Int32) (x6 : Int32) (x7 : Int32) (_ : kd o0 = 11) {res : St × Int32}, K121 z o0 x1 x2 x3 x4 x5 x6 x7 = some res → Zj p l e (rm_X11_copy) s m args below meth c g A 9 (0, 0) (QI g A below args s res) z 121 [(0, .ref (g.1 o0)), (1, .int x1), (2, .int x2), (3, .int x3), (4, .int x4), (5, .int x5), (6, .int x6), (7, .int x7)] []) (z : St) (o0 : Nat) (x1 : Int32) (x2 : Int32) (x3 : Int32) (x4 : Int32) (x5 : Int32) (x6 : Int32) (x7 : Int32) (ho0 : kd o0 = 11) {res : St × Int32} (hf : f_X11_copy_143 K121 z o0 x1 x2 x3 x4 x5 x6 x7 = some res) : Zj p l e (rm_X11_copy) s m args below meth c g A 9 (0, 0) (QI g A below args s res) z 143 [(0, .ref (g.1 o0)), (1, .int x1), (2, .int x2), (3, .int x3), (4, .int x4), (5, .int x5), (6, .int x6), (7, .int x7)] [] := by
  unfold f_X11_copy_143 at hf
  refine z_iload C dX11_copy_143 7 rfl ?_
  exact z_sub [0, 1, 2, 3, 4, 5, 6, 7] rfl (b_X11_copy_145 C hr hk hK121 z o0 x1 x2 x3 x4 x5 x6 x7 x7 ho0 hf)
def f_X11_copy_128 (K121 : St → Nat → Int32 → Int32 → Int32 → Int32 → Int32 → Int32 → Int32 → Option (St × Int32)) (z : St) (o0 : Nat) (x1 : Int32) (x2 : Int32) (x3 : Int32) (x4 : Int32) (x5 : Int32) (x6 : Int32) (x7 : Int32) : Option (St × Int32) :=
  if x6 = 0 then f_X11_copy_143 K121 z o0 x1 x2 x3 x4 x5 x6 x7 else f_X11_copy_133 K121 z o0 x1 x2 x3 x4 x5 x6 x7
theorem b_X11_copy_128 {p : Program} {l : Launch} {e : Env} {s : State} {m : MethodId} {args : Array Value} {below : List Frame} {meth : Method} {c : Code} {g : Ga} {A : Nat → Prop} (C : Cx l g A p s m args c cX11_copy 9 RX11 (rm_X11_copy) (0, 0)) (hr : meth.sig.returnType = (some .int)) (hk : meth.locks = false) {K121 : St → Nat → Int32 → Int32 → Int32 → Int32 → Int32 → Int32 → Int32 → Option (St × Int32)} (hK121 : ∀ (z : St) (o0 : Nat) (x1 : Int32) (x2 : Int32) (x3 : Int32) (x4 : Int32) (x5 : Int32) (x6 : Int32) (x7 : Int32) (_ : kd o0 = 11) {res : St × Int32}, K121 z o0 x1 x2 x3 x4 x5 x6 x7 = some res → Zj p l e (rm_X11_copy) s m args below meth c g A 9 (0, 0) (QI g A below args s res) z 121 [(0, .ref (g.1 o0)), (1, .int x1), (2, .int x2), (3, .int x3), (4, .int x4), (5, .int x5), (6, .int x6), (7, .int x7)] []) (z : St) (o0 : Nat) (x1 : Int32) (x2 : Int32) (x3 : Int32) (x4 : Int32) (x5 : Int32) (x6 : Int32) (x7 : Int32) (ho0 : kd o0 = 11) {res : St × Int32} (hf : f_X11_copy_128 K121 z o0 x1 x2 x3 x4 x5 x6 x7 = some res) : Zj p l e (rm_X11_copy) s m args below meth c g A 9 (0, 0) (QI g A below args s res) z 128 [(0, .ref (g.1 o0)), (1, .int x1), (2, .int x2), (3, .int x3), (4, .int x4), (5, .int x5), (6, .int x6), (7, .int x7)] [] := by
  unfold f_X11_copy_128 at hf
  refine z_iload C dX11_copy_128 6 rfl ?_
  exact z_if_eq C dX11_copy_130 (by decide) (fun h => z_sub [0, 1, 2, 3, 4, 5, 6, 7] rfl (b_X11_copy_143 C hr hk hK121 z o0 x1 x2 x3 x4 x5 x6 x7 ho0 (q_t hf h))) (fun h => z_sub [0, 1, 2, 3, 4, 5, 6, 7] rfl (b_X11_copy_133 C hr hk hK121 z o0 x1 x2 x3 x4 x5 x6 x7 ho0 (q_f hf h)))
def f_X11_copy_182  (z : St) (x5 : Int32) : Option (St × Int32) :=
  some (z, x5)
theorem b_X11_copy_182 {p : Program} {l : Launch} {e : Env} {s : State} {m : MethodId} {args : Array Value} {below : List Frame} {meth : Method} {c : Code} {g : Ga} {A : Nat → Prop} (C : Cx l g A p s m args c cX11_copy 9 RX11 (rm_X11_copy) (0, 0)) (hr : meth.sig.returnType = (some .int)) (hk : meth.locks = false)   (z : St) (x5 : Int32)  {res : St × Int32} (hf : f_X11_copy_182  z x5 = some res) : Zj p l e (rm_X11_copy) s m args below meth c g A 9 (0, 0) (QI g A below args s res) z 182 [(5, .int x5)] [] := by
  unfold f_X11_copy_182 at hf
  refine z_iload C dX11_copy_182 0 rfl ?_
  cases hf
  exact z_iret C hr hk dX11_copy_184
def f_X11_copy_121  : Nat → St → Nat → Int32 → Int32 → Int32 → Int32 → Int32 → Int32 → Int32 → Option (St × Int32)
  | 0, _, _, _, _, _, _, _, _, _ => none
  | n + 1, z, o0, x1, x2, x3, x4, x5, x6, x7 => if x5 ≤ x7 then f_X11_copy_182 z x5 else f_X11_copy_128 (f_X11_copy_121 n) z o0 x1 x2 x3 x4 x5 x6 x7
theorem b_X11_copy_121 {p : Program} {l : Launch} {e : Env} {s : State} {m : MethodId} {args : Array Value} {below : List Frame} {meth : Method} {c : Code} {g : Ga} {A : Nat → Prop} (C : Cx l g A p s m args c cX11_copy 9 RX11 (rm_X11_copy) (0, 0)) (hr : meth.sig.returnType = (some .int)) (hk : meth.locks = false)   : ∀ (n : Nat) (z : St) (o0 : Nat) (x1 : Int32) (x2 : Int32) (x3 : Int32) (x4 : Int32) (x5 : Int32) (x6 : Int32) (x7 : Int32) (_ : kd o0 = 11) {res : St × Int32} (_ : f_X11_copy_121  n z o0 x1 x2 x3 x4 x5 x6 x7 = some res), Zj p l e (rm_X11_copy) s m args below meth c g A 9 (0, 0) (QI g A below args s res) z 121 [(0, .ref (g.1 o0)), (1, .int x1), (2, .int x2), (3, .int x3), (4, .int x4), (5, .int x5), (6, .int x6), (7, .int x7)] [] := by
  intro n
  induction n with
  | zero =>
    intro z o0 x1 x2 x3 x4 x5 x6 x7 ho0 res hf
    cases hf
  | succ n ih =>
    intro z o0 x1 x2 x3 x4 x5 x6 x7 ho0 res hf
    rw [f_X11_copy_121] at hf
    refine z_iload C dX11_copy_121 7 rfl ?_
    refine z_iload C dX11_copy_123 5 rfl ?_
    exact z_icmp_ge C dX11_copy_125 (by decide) (fun h => z_sub [5] rfl (b_X11_copy_182 C hr hk z x5 (q_t hf h))) (fun h => z_sub [0, 1, 2, 3, 4, 5, 6, 7] rfl (b_X11_copy_128 C hr hk ih z o0 x1 x2 x3 x4 x5 x6 x7 ho0 (q_f hf h)))
def f_X11_copy_116  (z : St) (o0 : Nat) (x1 : Int32) (x2 : Int32) (x3 : Int32) (x4 : Int32) (x5 : Int32) (s0 : Int32) : Option (St × Int32) :=
  f_X11_copy_121 FU z o0 x1 x2 x3 x4 x5 s0 0
theorem b_X11_copy_116 {p : Program} {l : Launch} {e : Env} {s : State} {m : MethodId} {args : Array Value} {below : List Frame} {meth : Method} {c : Code} {g : Ga} {A : Nat → Prop} (C : Cx l g A p s m args c cX11_copy 9 RX11 (rm_X11_copy) (0, 0)) (hr : meth.sig.returnType = (some .int)) (hk : meth.locks = false)   (z : St) (o0 : Nat) (x1 : Int32) (x2 : Int32) (x3 : Int32) (x4 : Int32) (x5 : Int32) (s0 : Int32) (ho0 : kd o0 = 11) {res : St × Int32} (hf : f_X11_copy_116  z o0 x1 x2 x3 x4 x5 s0 = some res) : Zj p l e (rm_X11_copy) s m args below meth c g A 9 (0, 0) (QI g A below args s res) z 116 [(0, .ref (g.1 o0)), (1, .int x1), (2, .int x2), (3, .int x3), (4, .int x4), (5, .int x5)] [.int s0] := by
  unfold f_X11_copy_116 at hf
  refine z_istore C (lv2 := [(6, .int s0), (0, .ref (g.1 o0)), (1, .int x1), (2, .int x2), (3, .int x3), (4, .int x4), (5, .int x5)]) dX11_copy_116 (by decide) rfl ?_
  refine z_iconst C dX11_copy_118 (v := 0) (by decide) ?_
  refine z_istore C (lv2 := [(7, .int 0), (6, .int s0), (0, .ref (g.1 o0)), (1, .int x1), (2, .int x2), (3, .int x3), (4, .int x4), (5, .int x5)]) dX11_copy_119 (by decide) rfl ?_
  exact z_sub [2, 3, 4, 5, 6, 7, 1, 0] rfl (b_X11_copy_121 C hr hk FU z o0 x1 x2 x3 x4 x5 s0 0 ho0 hf)
def f_X11_copy_111  (z : St) (o0 : Nat) (x1 : Int32) (x2 : Int32) (x3 : Int32) (x4 : Int32) (x5 : Int32) : Option (St × Int32) :=
  f_X11_copy_116 z o0 x1 x2 x3 x4 x5 1
theorem b_X11_copy_111 {p : Program} {l : Launch} {e : Env} {s : State} {m : MethodId} {args : Array Value} {below : List Frame} {meth : Method} {c : Code} {g : Ga} {A : Nat → Prop} (C : Cx l g A p s m args c cX11_copy 9 RX11 (rm_X11_copy) (0, 0)) (hr : meth.sig.returnType = (some .int)) (hk : meth.locks = false)   (z : St) (o0 : Nat) (x1 : Int32) (x2 : Int32) (x3 : Int32) (x4 : Int32) (x5 : Int32) (ho0 : kd o0 = 11) {res : St × Int32} (hf : f_X11_copy_111  z o0 x1 x2 x3 x4 x5 = some res) : Zj p l e (rm_X11_copy) s m args below meth c g A 9 (0, 0) (QI g A below args s res) z 111 [(0, .ref (g.1 o0)), (1, .int x1), (2, .int x2), (3, .int x3), (4, .int x4), (5, .int x5)] [] := by
  unfold f_X11_copy_111 at hf
  refine z_iconst C dX11_copy_111 (v := 1) (by decide) ?_
  exact z_goto C dX11_copy_112 (by decide) (z_sub [0, 1, 2, 3, 4, 5] rfl (b_X11_copy_116 C hr hk z o0 x1 x2 x3 x4 x5 1 ho0 hf))
def f_X11_copy_115  (z : St) (o0 : Nat) (x1 : Int32) (x2 : Int32) (x3 : Int32) (x4 : Int32) (x5 : Int32) : Option (St × Int32) :=
  f_X11_copy_116 z o0 x1 x2 x3 x4 x5 0
theorem b_X11_copy_115 {p : Program} {l : Launch} {e : Env} {s : State} {m : MethodId} {args : Array Value} {below : List Frame} {meth : Method} {c : Code} {g : Ga} {A : Nat → Prop} (C : Cx l g A p s m args c cX11_copy 9 RX11 (rm_X11_copy) (0, 0)) (hr : meth.sig.returnType = (some .int)) (hk : meth.locks = false)   (z : St) (o0 : Nat) (x1 : Int32) (x2 : Int32) (x3 : Int32) (x4 : Int32) (x5 : Int32) (ho0 : kd o0 = 11) {res : St × Int32} (hf : f_X11_copy_115  z o0 x1 x2 x3 x4 x5 = some res) : Zj p l e (rm_X11_copy) s m args below meth c g A 9 (0, 0) (QI g A below args s res) z 115 [(0, .ref (g.1 o0)), (1, .int x1), (2, .int x2), (3, .int x3), (4, .int x4), (5, .int x5)] [] := by
  unfold f_X11_copy_115 at hf
  refine z_iconst C dX11_copy_115 (v := 0) (by decide) ?_
  exact z_sub [0, 1, 2, 3, 4, 5] rfl (b_X11_copy_116 C hr hk z o0 x1 x2 x3 x4 x5 0 ho0 hf)
def f_X11_copy_105  (z : St) (o0 : Nat) (x1 : Int32) (x2 : Int32) (x3 : Int32) (x4 : Int32) (x5 : Int32) : Option (St × Int32) :=
  if x4 ≤ x2 then f_X11_copy_115 z o0 x1 x2 x3 x4 x5 else f_X11_copy_111 z o0 x1 x2 x3 x4 x5
theorem b_X11_copy_105 {p : Program} {l : Launch} {e : Env} {s : State} {m : MethodId} {args : Array Value} {below : List Frame} {meth : Method} {c : Code} {g : Ga} {A : Nat → Prop} (C : Cx l g A p s m args c cX11_copy 9 RX11 (rm_X11_copy) (0, 0)) (hr : meth.sig.returnType = (some .int)) (hk : meth.locks = false)   (z : St) (o0 : Nat) (x1 : Int32) (x2 : Int32) (x3 : Int32) (x4 : Int32) (x5 : Int32) (ho0 : kd o0 = 11) {res : St × Int32} (hf : f_X11_copy_105  z o0 x1 x2 x3 x4 x5 = some res) : Zj p l e (rm_X11_copy) s m args below meth c g A 9 (0, 0) (QI g A below args s res) z 105 [(0, .ref (g.1 o0)), (1, .int x1), (2, .int x2), (3, .int x3), (4, .int x4), (5, .int x5)] [] := by
  unfold f_X11_copy_105 at hf
  refine z_iload_n C dX11_copy_105 rfl 2 rfl ?_
  refine z_iload C dX11_copy_106 4 rfl ?_
  exact z_icmp_ge C dX11_copy_108 (by decide) (fun h => z_sub [0, 1, 2, 3, 4, 5] rfl (b_X11_copy_115 C hr hk z o0 x1 x2 x3 x4 x5 ho0 (q_t hf h))) (fun h => z_sub [0, 1, 2, 3, 4, 5] rfl (b_X11_copy_111 C hr hk z o0 x1 x2 x3 x4 x5 ho0 (q_f hf h)))
def f_X11_copy_100  (z : St) (o0 : Nat) (x1 : Int32) (x2 : Int32) (x3 : Int32) (x4 : Int32) (x5 : Int32) : Option (St × Int32) :=
  if x1 = x3 then f_X11_copy_105 z o0 x1 x2 x3 x4 x5 else f_X11_copy_115 z o0 x1 x2 x3 x4 x5
theorem b_X11_copy_100 {p : Program} {l : Launch} {e : Env} {s : State} {m : MethodId} {args : Array Value} {below : List Frame} {meth : Method} {c : Code} {g : Ga} {A : Nat → Prop} (C : Cx l g A p s m args c cX11_copy 9 RX11 (rm_X11_copy) (0, 0)) (hr : meth.sig.returnType = (some .int)) (hk : meth.locks = false)   (z : St) (o0 : Nat) (x1 : Int32) (x2 : Int32) (x3 : Int32) (x4 : Int32) (x5 : Int32) (ho0 : kd o0 = 11) {res : St × Int32} (hf : f_X11_copy_100  z o0 x1 x2 x3 x4 x5 = some res) : Zj p l e (rm_X11_copy) s m args below meth c g A 9 (0, 0) (QI g A below args s res) z 100 [(0, .ref (g.1 o0)), (1, .int x1), (2, .int x2), (3, .int x3), (4, .int x4), (5, .int x5)] [] := by
  unfold f_X11_copy_100 at hf
  refine z_iload_n C dX11_copy_100 rfl 1 rfl ?_
  refine z_iload_n C dX11_copy_101 rfl 3 rfl ?_
  exact z_icmp_ne C dX11_copy_102 (by decide) (fun h => z_sub [0, 1, 2, 3, 4, 5] rfl (b_X11_copy_115 C hr hk z o0 x1 x2 x3 x4 x5 ho0 (q_f hf h))) (fun h => z_sub [0, 1, 2, 3, 4, 5] rfl (b_X11_copy_105 C hr hk z o0 x1 x2 x3 x4 x5 ho0 (q_t hf h)))
def f_X11_copy_83  (z : St) (o0 : Nat) (x1 : Int32) (x2 : Int32) (x3 : Int32) (x4 : Int32) (x5 : Int32) : Option (St × Int32) :=
  if inb x3 4 = true then (if x5 ≤ ((z.1 (rf o0 55) (Int32.toNatClampNeg x3)) - x4) then f_X11_copy_100 z o0 x1 x2 x3 x4 x5 else f_X11_copy_97 z) else none
theorem b_X11_copy_83 {p : Program} {l : Launch} {e : Env} {s : State} {m : MethodId} {args : Array Value} {below : List Frame} {meth : Method} {c : Code} {g : Ga} {A : Nat → Prop} (C : Cx l g A p s m args c cX11_copy 9 RX11 (rm_X11_copy) (0, 0)) (hr : meth.sig.returnType = (some .int)) (hk : meth.locks = false)   (z : St) (o0 : Nat) (x1 : Int32) (x2 : Int32) (x3 : Int32) (x4 : Int32) (x5 : Int32) (ho0 : kd o0 = 11) {res : St × Int32} (hf : f_X11_copy_83  z o0 x1 x2 x3 x4 x5 = some res) : Zj p l e (rm_X11_copy) s m args below meth c g A 9 (0, 0) (QI g A below args s res) z 83 [(0, .ref (g.1 o0)), (1, .int x1), (2, .int x2), (3, .int x3), (4, .int x4), (5, .int x5)] [] := by
  unfold f_X11_copy_83 at hf
  refine z_iload C dX11_copy_83 5 rfl ?_
  refine z_aload_n C dX11_copy_85 rfl 0 rfl ?_
  refine gf_X11_98 C dX11_copy_86 ho0 ?_
  refine z_iload_n C dX11_copy_89 rfl 3 rfl ?_
  obtain ⟨h1, hf⟩ := q_ck hf
  refine z_iald C (n := 4) dX11_copy_90 (rt_11_55 _ (kd_lt ho0 (by decide)) ho0) (by decide) h1 ?_
  refine z_iload C dX11_copy_91 4 rfl ?_
  refine z_isub C dX11_copy_93 ?_
  exact z_icmp_le C dX11_copy_94 (by decide) (fun h => z_sub [0, 1, 2, 3, 4, 5] rfl (b_X11_copy_100 C hr hk z o0 x1 x2 x3 x4 x5 ho0 (q_t hf h))) (fun h => z_sub [] rfl (b_X11_copy_97 C hr hk z (q_f hf h)))
def f_X11_copy_70  (z : St) (o0 : Nat) (x1 : Int32) (x2 : Int32) (x3 : Int32) (x4 : Int32) (x5 : Int32) : Option (St × Int32) :=
  if inb x1 4 = true then (if ((z.1 (rf o0 55) (Int32.toNatClampNeg x1)) - x2) < x5 then f_X11_copy_97 z else f_X11_copy_83 z o0 x1 x2 x3 x4 x5) else none
theorem b_X11_copy_70 {p : Program} {l : Launch} {e : Env} {s : State} {m : MethodId} {args : Array Value} {below : List Frame} {meth : Method} {c : Code} {g : Ga} {A : Nat → Prop} (C : Cx l g A p s m args c cX11_copy 9 RX11 (rm_X11_copy) (0, 0)) (hr : meth.sig.returnType = (some .int)) (hk : meth.locks = false)   (z : St) (o0 : Nat) (x1 : Int32) (x2 : Int32) (x3 : Int32) (x4 : Int32) (x5 : Int32) (ho0 : kd o0 = 11) {res : St × Int32} (hf : f_X11_copy_70  z o0 x1 x2 x3 x4 x5 = some res) : Zj p l e (rm_X11_copy) s m args below meth c g A 9 (0, 0) (QI g A below args s res) z 70 [(0, .ref (g.1 o0)), (1, .int x1), (2, .int x2), (3, .int x3), (4, .int x4), (5, .int x5)] [] := by
  unfold f_X11_copy_70 at hf
  refine z_iload C dX11_copy_70 5 rfl ?_
  refine z_aload_n C dX11_copy_72 rfl 0 rfl ?_
  refine gf_X11_98 C dX11_copy_73 ho0 ?_
  refine z_iload_n C dX11_copy_76 rfl 1 rfl ?_
  obtain ⟨h1, hf⟩ := q_ck hf
  refine z_iald C (n := 4) dX11_copy_77 (rt_11_55 _ (kd_lt ho0 (by decide)) ho0) (by decide) h1 ?_
  refine z_iload_n C dX11_copy_78 rfl 2 rfl ?_
  refine z_isub C dX11_copy_79 ?_
  exact z_icmp_gt C dX11_copy_80 (by decide) (fun h => z_sub [] rfl (b_X11_copy_97 C hr hk z (q_t hf h))) (fun h => z_sub [0, 1, 2, 3, 4, 5] rfl (b_X11_copy_83 C hr hk z o0 x1 x2 x3 x4 x5 ho0 (q_f hf h)))
def f_X11_copy_65  (z : St) (o0 : Nat) (x1 : Int32) (x2 : Int32) (x3 : Int32) (x4 : Int32) (x5 : Int32) : Option (St × Int32) :=
  if x4 < 0 then f_X11_copy_97 z else f_X11_copy_70 z o0 x1 x2 x3 x4 x5
theorem b_X11_copy_65 {p : Program} {l : Launch} {e : Env} {s : State} {m : MethodId} {args : Array Value} {below : List Frame} {meth : Method} {c : Code} {g : Ga} {A : Nat → Prop} (C : Cx l g A p s m args c cX11_copy 9 RX11 (rm_X11_copy) (0, 0)) (hr : meth.sig.returnType = (some .int)) (hk : meth.locks = false)   (z : St) (o0 : Nat) (x1 : Int32) (x2 : Int32) (x3 : Int32) (x4 : Int32) (x5 : Int32) (ho0 : kd o0 = 11) {res : St × Int32} (hf : f_X11_copy_65  z o0 x1 x2 x3 x4 x5 = some res) : Zj p l e (rm_X11_copy) s m args below meth c g A 9 (0, 0) (QI g A below args s res) z 65 [(0, .ref (g.1 o0)), (1, .int x1), (2, .int x2), (3, .int x3), (4, .int x4), (5, .int x5)] [] := by
  unfold f_X11_copy_65 at hf
  refine z_iload C dX11_copy_65 4 rfl ?_
  exact z_if_lt C dX11_copy_67 (by decide) (fun h => z_sub [] rfl (b_X11_copy_97 C hr hk z (q_t hf h))) (fun h => z_sub [0, 1, 2, 3, 4, 5] rfl (b_X11_copy_70 C hr hk z o0 x1 x2 x3 x4 x5 ho0 (q_f hf h)))
def f_X11_copy_61  (z : St) (o0 : Nat) (x1 : Int32) (x2 : Int32) (x3 : Int32) (x4 : Int32) (x5 : Int32) : Option (St × Int32) :=
  if x2 < 0 then f_X11_copy_97 z else f_X11_copy_65 z o0 x1 x2 x3 x4 x5
theorem b_X11_copy_61 {p : Program} {l : Launch} {e : Env} {s : State} {m : MethodId} {args : Array Value} {below : List Frame} {meth : Method} {c : Code} {g : Ga} {A : Nat → Prop} (C : Cx l g A p s m args c cX11_copy 9 RX11 (rm_X11_copy) (0, 0)) (hr : meth.sig.returnType = (some .int)) (hk : meth.locks = false)   (z : St) (o0 : Nat) (x1 : Int32) (x2 : Int32) (x3 : Int32) (x4 : Int32) (x5 : Int32) (ho0 : kd o0 = 11) {res : St × Int32} (hf : f_X11_copy_61  z o0 x1 x2 x3 x4 x5 = some res) : Zj p l e (rm_X11_copy) s m args below meth c g A 9 (0, 0) (QI g A below args s res) z 61 [(0, .ref (g.1 o0)), (1, .int x1), (2, .int x2), (3, .int x3), (4, .int x4), (5, .int x5)] [] := by
  unfold f_X11_copy_61 at hf
  refine z_iload_n C dX11_copy_61 rfl 2 rfl ?_
  exact z_if_lt C dX11_copy_62 (by decide) (fun h => z_sub [] rfl (b_X11_copy_97 C hr hk z (q_t hf h))) (fun h => z_sub [0, 1, 2, 3, 4, 5] rfl (b_X11_copy_65 C hr hk z o0 x1 x2 x3 x4 x5 ho0 (q_f hf h)))
def f_X11_copy_56  (z : St) (o0 : Nat) (x1 : Int32) (x2 : Int32) (x3 : Int32) (x4 : Int32) (x5 : Int32) : Option (St × Int32) :=
  if x5 < 0 then f_X11_copy_97 z else f_X11_copy_61 z o0 x1 x2 x3 x4 x5
theorem b_X11_copy_56 {p : Program} {l : Launch} {e : Env} {s : State} {m : MethodId} {args : Array Value} {below : List Frame} {meth : Method} {c : Code} {g : Ga} {A : Nat → Prop} (C : Cx l g A p s m args c cX11_copy 9 RX11 (rm_X11_copy) (0, 0)) (hr : meth.sig.returnType = (some .int)) (hk : meth.locks = false)   (z : St) (o0 : Nat) (x1 : Int32) (x2 : Int32) (x3 : Int32) (x4 : Int32) (x5 : Int32) (ho0 : kd o0 = 11) {res : St × Int32} (hf : f_X11_copy_56  z o0 x1 x2 x3 x4 x5 = some res) : Zj p l e (rm_X11_copy) s m args below meth c g A 9 (0, 0) (QI g A below args s res) z 56 [(0, .ref (g.1 o0)), (1, .int x1), (2, .int x2), (3, .int x3), (4, .int x4), (5, .int x5)] [] := by
  unfold f_X11_copy_56 at hf
  refine z_iload C dX11_copy_56 5 rfl ?_
  exact z_if_lt C dX11_copy_58 (by decide) (fun h => z_sub [] rfl (b_X11_copy_97 C hr hk z (q_t hf h))) (fun h => z_sub [0, 1, 2, 3, 4, 5] rfl (b_X11_copy_61 C hr hk z o0 x1 x2 x3 x4 x5 ho0 (q_f hf h)))
def f_X11_copy_38  (z : St) (o0 : Nat) (x1 : Int32) (x2 : Int32) (x3 : Int32) (x4 : Int32) (x5 : Int32) : Option (St × Int32) :=
  if inb x1 4 = true then (if inb x3 4 = true then (if (z.1 (rf o0 54) (Int32.toNatClampNeg x1)) = (z.1 (rf o0 54) (Int32.toNatClampNeg x3)) then f_X11_copy_56 z o0 x1 x2 x3 x4 x5 else f_X11_copy_53 z) else none) else none
theorem b_X11_copy_38 {p : Program} {l : Launch} {e : Env} {s : State} {m : MethodId} {args : Array Value} {below : List Frame} {meth : Method} {c : Code} {g : Ga} {A : Nat → Prop} (C : Cx l g A p s m args c cX11_copy 9 RX11 (rm_X11_copy) (0, 0)) (hr : meth.sig.returnType = (some .int)) (hk : meth.locks = false)   (z : St) (o0 : Nat) (x1 : Int32) (x2 : Int32) (x3 : Int32) (x4 : Int32) (x5 : Int32) (ho0 : kd o0 = 11) {res : St × Int32} (hf : f_X11_copy_38  z o0 x1 x2 x3 x4 x5 = some res) : Zj p l e (rm_X11_copy) s m args below meth c g A 9 (0, 0) (QI g A below args s res) z 38 [(0, .ref (g.1 o0)), (1, .int x1), (2, .int x2), (3, .int x3), (4, .int x4), (5, .int x5)] [] := by
  unfold f_X11_copy_38 at hf
  refine z_aload_n C dX11_copy_38 rfl 0 rfl ?_
  refine gf_X11_95 C dX11_copy_39 ho0 ?_
  refine z_iload_n C dX11_copy_42 rfl 1 rfl ?_
  obtain ⟨h1, hf⟩ := q_ck hf
  refine z_iald C (n := 4) dX11_copy_43 (rt_11_54 _ (kd_lt ho0 (by decide)) ho0) (by decide) h1 ?_
  refine z_aload_n C dX11_copy_44 rfl 0 rfl ?_
  refine gf_X11_95 C dX11_copy_45 ho0 ?_
  refine z_iload_n C dX11_copy_48 rfl 3 rfl ?_
  obtain ⟨h2, hf⟩ := q_ck hf
  refine z_iald C (n := 4) dX11_copy_49 (rt_11_54 _ (kd_lt ho0 (by decide)) ho0) (by decide) h2 ?_
  exact z_icmp_eq C dX11_copy_50 (by decide) (fun h => z_sub [0, 1, 2, 3, 4, 5] rfl (b_X11_copy_56 C hr hk z o0 x1 x2 x3 x4 x5 ho0 (q_t hf h))) (fun h => z_sub [] rfl (b_X11_copy_53 C hr hk z (q_f hf h)))
def f_X11_copy_26  (z : St) (o0 : Nat) (x1 : Int32) (x2 : Int32) (x3 : Int32) (x4 : Int32) (x5 : Int32) : Option (St × Int32) :=
  if inb x3 4 = true then (if 0 ≤ (z.1 (rf o0 54) (Int32.toNatClampNeg x3)) then f_X11_copy_38 z o0 x1 x2 x3 x4 x5 else f_X11_copy_35 z) else none
theorem b_X11_copy_26 {p : Program} {l : Launch} {e : Env} {s : State} {m : MethodId} {args : Array Value} {below : List Frame} {meth : Method} {c : Code} {g : Ga} {A : Nat → Prop} (C : Cx l g A p s m args c cX11_copy 9 RX11 (rm_X11_copy) (0, 0)) (hr : meth.sig.returnType = (some .int)) (hk : meth.locks = false)   (z : St) (o0 : Nat) (x1 : Int32) (x2 : Int32) (x3 : Int32) (x4 : Int32) (x5 : Int32) (ho0 : kd o0 = 11) {res : St × Int32} (hf : f_X11_copy_26  z o0 x1 x2 x3 x4 x5 = some res) : Zj p l e (rm_X11_copy) s m args below meth c g A 9 (0, 0) (QI g A below args s res) z 26 [(0, .ref (g.1 o0)), (1, .int x1), (2, .int x2), (3, .int x3), (4, .int x4), (5, .int x5)] [] := by
  unfold f_X11_copy_26 at hf
  refine z_aload_n C dX11_copy_26 rfl 0 rfl ?_
  refine gf_X11_95 C dX11_copy_27 ho0 ?_
  refine z_iload_n C dX11_copy_30 rfl 3 rfl ?_
  obtain ⟨h1, hf⟩ := q_ck hf
  refine z_iald C (n := 4) dX11_copy_31 (rt_11_54 _ (kd_lt ho0 (by decide)) ho0) (by decide) h1 ?_
  exact z_if_ge C dX11_copy_32 (by decide) (fun h => z_sub [0, 1, 2, 3, 4, 5] rfl (b_X11_copy_38 C hr hk z o0 x1 x2 x3 x4 x5 ho0 (q_t hf h))) (fun h => z_sub [] rfl (b_X11_copy_35 C hr hk z (q_f hf h)))
def f_X11_copy_17  (z : St) (o0 : Nat) (x1 : Int32) (x2 : Int32) (x3 : Int32) (x4 : Int32) (x5 : Int32) : Option (St × Int32) :=
  if inb x1 4 = true then (if (z.1 (rf o0 54) (Int32.toNatClampNeg x1)) < 0 then f_X11_copy_35 z else f_X11_copy_26 z o0 x1 x2 x3 x4 x5) else none
theorem b_X11_copy_17 {p : Program} {l : Launch} {e : Env} {s : State} {m : MethodId} {args : Array Value} {below : List Frame} {meth : Method} {c : Code} {g : Ga} {A : Nat → Prop} (C : Cx l g A p s m args c cX11_copy 9 RX11 (rm_X11_copy) (0, 0)) (hr : meth.sig.returnType = (some .int)) (hk : meth.locks = false)   (z : St) (o0 : Nat) (x1 : Int32) (x2 : Int32) (x3 : Int32) (x4 : Int32) (x5 : Int32) (ho0 : kd o0 = 11) {res : St × Int32} (hf : f_X11_copy_17  z o0 x1 x2 x3 x4 x5 = some res) : Zj p l e (rm_X11_copy) s m args below meth c g A 9 (0, 0) (QI g A below args s res) z 17 [(0, .ref (g.1 o0)), (1, .int x1), (2, .int x2), (3, .int x3), (4, .int x4), (5, .int x5)] [] := by
  unfold f_X11_copy_17 at hf
  refine z_aload_n C dX11_copy_17 rfl 0 rfl ?_
  refine gf_X11_95 C dX11_copy_18 ho0 ?_
  refine z_iload_n C dX11_copy_21 rfl 1 rfl ?_
  obtain ⟨h1, hf⟩ := q_ck hf
  refine z_iald C (n := 4) dX11_copy_22 (rt_11_54 _ (kd_lt ho0 (by decide)) ho0) (by decide) h1 ?_
  exact z_if_lt C dX11_copy_23 (by decide) (fun h => z_sub [] rfl (b_X11_copy_35 C hr hk z (q_t hf h))) (fun h => z_sub [0, 1, 2, 3, 4, 5] rfl (b_X11_copy_26 C hr hk z o0 x1 x2 x3 x4 x5 ho0 (q_f hf h)))
def f_X11_copy_7  (z : St) (o0 : Nat) (x1 : Int32) (x2 : Int32) (x3 : Int32) (x4 : Int32) (x5 : Int32) : Option (St × Int32) :=
  ((f_X11_isSheet z x3).bind fun r1 => if r1.2 = 0 then f_X11_copy_14 r1.1 else f_X11_copy_17 r1.1 o0 x1 x2 x3 x4 x5)
theorem b_X11_copy_7 {p : Program} {l : Launch} {e : Env} {s : State} {m : MethodId} {args : Array Value} {below : List Frame} {meth : Method} {c : Code} {g : Ga} {A : Nat → Prop} (C : Cx l g A p s m args c cX11_copy 9 RX11 (rm_X11_copy) (0, 0)) (hr : meth.sig.returnType = (some .int)) (hk : meth.locks = false)   (z : St) (o0 : Nat) (x1 : Int32) (x2 : Int32) (x3 : Int32) (x4 : Int32) (x5 : Int32) (ho0 : kd o0 = 11) {res : St × Int32} (hf : f_X11_copy_7  z o0 x1 x2 x3 x4 x5 = some res) : Zj p l e (rm_X11_copy) s m args below meth c g A 9 (0, 0) (QI g A below args s res) z 7 [(0, .ref (g.1 o0)), (1, .int x1), (2, .int x2), (3, .int x3), (4, .int x4), (5, .int x5)] [] := by
  unfold f_X11_copy_7 at hf
  refine z_iload_n C dX11_copy_7 rfl 3 rfl ?_
  obtain ⟨r1, hc2, hf⟩ := q_bd hf
  refine z_cSi C (st := []) (c_X11_isSheet  hc2) mw_X11_isSheet ml_X11_302 dX11_copy_8 rfl rfl rfl ⟨Nat.le_of_ble_eq_true rfl, Nat.le_of_ble_eq_true rfl⟩ rfl (Nat.le_of_ble_eq_true rfl) ?_
  exact z_if_ne C dX11_copy_11 (by decide) (fun h => z_sub [0, 1, 2, 3, 4, 5] rfl (b_X11_copy_17 C hr hk r1.1 o0 x1 x2 x3 x4 x5 ho0 (q_f hf h))) (fun h => z_sub [] rfl (b_X11_copy_14 C hr hk r1.1 (q_t hf h)))
def f_X11_copy_0  (z : St) (o0 : Nat) (x1 : Int32) (x2 : Int32) (x3 : Int32) (x4 : Int32) (x5 : Int32) : Option (St × Int32) :=
  ((f_X11_isSheet z x1).bind fun r1 => if r1.2 = 0 then f_X11_copy_14 r1.1 else f_X11_copy_7 r1.1 o0 x1 x2 x3 x4 x5)
theorem b_X11_copy_0 {p : Program} {l : Launch} {e : Env} {s : State} {m : MethodId} {args : Array Value} {below : List Frame} {meth : Method} {c : Code} {g : Ga} {A : Nat → Prop} (C : Cx l g A p s m args c cX11_copy 9 RX11 (rm_X11_copy) (0, 0)) (hr : meth.sig.returnType = (some .int)) (hk : meth.locks = false)   (z : St) (o0 : Nat) (x1 : Int32) (x2 : Int32) (x3 : Int32) (x4 : Int32) (x5 : Int32) (ho0 : kd o0 = 11) {res : St × Int32} (hf : f_X11_copy_0  z o0 x1 x2 x3 x4 x5 = some res) : Zj p l e (rm_X11_copy) s m args below meth c g A 9 (0, 0) (QI g A below args s res) z 0 [(0, .ref (g.1 o0)), (1, .int x1), (2, .int x2), (3, .int x3), (4, .int x4), (5, .int x5)] [] := by
  unfold f_X11_copy_0 at hf
  refine z_iload_n C dX11_copy_0 rfl 1 rfl ?_
  obtain ⟨r1, hc2, hf⟩ := q_bd hf
  refine z_cSi C (st := []) (c_X11_isSheet  hc2) mw_X11_isSheet ml_X11_302 dX11_copy_1 rfl rfl rfl ⟨Nat.le_of_ble_eq_true rfl, Nat.le_of_ble_eq_true rfl⟩ rfl (Nat.le_of_ble_eq_true rfl) ?_
  exact z_if_eq C dX11_copy_4 (by decide) (fun h => z_sub [] rfl (b_X11_copy_14 C hr hk r1.1 (q_t hf h))) (fun h => z_sub [0, 1, 2, 3, 4, 5] rfl (b_X11_copy_7 C hr hk r1.1 o0 x1 x2 x3 x4 x5 ho0 (q_f hf h)))
def f_X11_copy (z : St) (o0 : Nat) (x1 : Int32) (x2 : Int32) (x3 : Int32) (x4 : Int32) (x5 : Int32) : Option (St × Int32) := f_X11_copy_0 z o0 x1 x2 x3 x4 x5
theorem c_X11_copy {l : Launch} {g : Ga} {A : Nat → Prop} {z : St} {o0 : Nat} {x1 : Int32} {x2 : Int32} {x3 : Int32} {x4 : Int32} {x5 : Int32} (ho0 : kd o0 = 11) {res : St × Int32} (hf : f_X11_copy z o0 x1 x2 x3 x4 x5 = some res) : CI l g A yX11_copy cX11_copy 9 (some .int) rm_X11_copy [.ref (g.1 o0), .int x1, .int x2, .int x3, .int x4, .int x5] z res :=
  e_CI (by decide) (Nat.le_of_ble_eq_true rfl) rfl (fun p e s m args below meth c C hr hk => z_sub [0, 1, 2, 3, 4, 5] rfl (b_X11_copy_0 C hr hk z o0 x1 x2 x3 x4 x5 ho0 hf))
