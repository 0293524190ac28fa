abbrev rm_X9_beginAnew : Room := { frames := 0, cells := 0, slots := 0, locals := 0 }
def f_X9_beginAnew_0  (z : St) (o0 : Nat) : Option (St) :=
  some (zI (zI (zI (zI (zI (zI z o0 1 0) o0 2 ((-1))) o0 3 0) o0 4 0) o0 5 0) o0 6 0)
theorem b_X9_beginAnew_0 {p : Program} {l : Launch} {e : Env} {s : State} {m : MethodId} {args : Array Value} {below : List Frame} {meth : Method} {c : Code} {g : Ga} {A : Nat → Prop} (C : Cx l g A p s m args c cX9_beginAnew 1 RX9 (rm_X9_beginAnew) (0, 0)) (hr : meth.sig.returnType = none) (hk : meth.locks = false)   (z : St) (o0 : Nat) (ho0 : kd o0 = 9) {res : St} (hf : f_X9_beginAnew_0  z o0 = some res) : Zj p l e (rm_X9_beginAnew) s m args below meth c g A 1 (0, 0) (QV g A below args s res) z 0 [(0, .ref (g.1 o0))] [] := by
  unfold f_X9_beginAnew_0 at hf
  refine z_aload_n C dX9_beginAnew_0 rfl 0 rfl ?_
  refine z_iconst C dX9_beginAnew_1 (v := 0) (by decide) ?_
  refine pf_X9_19 C dX9_beginAnew_2 ho0 ?_
  refine z_aload_n C dX9_beginAnew_5 rfl 0 rfl ?_
  refine z_iconst C dX9_beginAnew_6 (v := (-1)) (by decide) ?_
  refine pf_X9_15 C dX9_beginAnew_7 ho0 ?_
  refine z_aload_n C dX9_beginAnew_10 rfl 0 rfl ?_
  refine z_iconst C dX9_beginAnew_11 (v := 0) (by decide) ?_
  refine pf_X9_22 C dX9_beginAnew_12 ho0 ?_
  refine z_aload_n C dX9_beginAnew_15 rfl 0 rfl ?_
  refine z_iconst C dX9_beginAnew_16 (v := 0) (by decide) ?_
  refine pf_X9_25 C dX9_beginAnew_17 ho0 ?_
  refine z_aload_n C dX9_beginAnew_20 rfl 0 rfl ?_
  refine z_iconst C dX9_beginAnew_21 (v := 0) (by decide) ?_
  refine pf_X9_28 C dX9_beginAnew_22 ho0 ?_
  refine z_aload_n C dX9_beginAnew_25 rfl 0 rfl ?_
  refine z_iconst C dX9_beginAnew_26 (v := 0) (by decide) ?_
  refine pf_X9_31 C dX9_beginAnew_27 ho0 ?_
  cases hf
  exact z_vret C hr hk dX9_beginAnew_30
def f_X9_beginAnew (z : St) (o0 : Nat) : Option (St) := f_X9_beginAnew_0 z o0
theorem c_X9_beginAnew {l : Launch} {g : Ga} {A : Nat → Prop} {z : St} {o0 : Nat} (ho0 : kd o0 = 9) {res : St} (hf : f_X9_beginAnew z o0 = some res) : CV l g A yX9_beginAnew cX9_beginAnew 1 none rm_X9_beginAnew [.ref (g.1 o0)] z res :=
  e_CV (by decide) (Nat.le_of_ble_eq_true rfl) rfl (fun p e s m args below meth c C hr hk => z_sub [0] rfl (b_X9_beginAnew_0 C hr hk z o0 ho0 hf))
abbrev rm_X9_hourOf : Room := { frames := 0, cells := 0, slots := 0, locals := 0 }
def f_X9_hourOf_34  (z : St) (s0 : Int32) : Option (St × Int32) :=
  some (z, s0)
theorem b_X9_hourOf_34 {p : Program} {l : Launch} {e : Env} {s : State} {m : MethodId} {args : Array Value} {below : List Frame} {meth : Method} {c : Code} {g : Ga} {A : Nat → Prop} (C : Cx l g A p s m args c cX9_hourOf 2 RX9 (rm_X9_hourOf) (0, 0)) (hr : meth.sig.returnType = (some .int)) (hk : meth.locks = false)   (z : St) (s0 : Int32)  {res : St × Int32} (hf : f_X9_hourOf_34  z s0 = some res) : Zj p l e (rm_X9_hourOf) s m args below meth c g A 2 (0, 0) (QI g A below args s res) z 34 [] [.int s0] := by
  unfold f_X9_hourOf_34 at hf
  cases hf
  exact z_iret C hr hk dX9_hourOf_34
def f_X9_hourOf_24  (z : St) (o0 : Nat) (x1 : Int32) : Option (St × Int32) :=
  if inb x1 8 = true then (f_X9_hourOf_34 z (z.1 (rf o0 0) (Int32.toNatClampNeg x1))) else none
theorem b_X9_hourOf_24 {p : Program} {l : Launch} {e : Env} {s : State} {m : MethodId} {args : Array Value} {below : List Frame} {meth : Method} {c : Code} {g : Ga} {A : Nat → Prop} (C : Cx l g A p s m args c cX9_hourOf 2 RX9 (rm_X9_hourOf) (0, 0)) (hr : meth.sig.returnType = (some .int)) (hk : meth.locks = false)   (z : St) (o0 : Nat) (x1 : Int32) (ho0 : kd o0 = 9) {res : St × Int32} (hf : f_X9_hourOf_24  z o0 x1 = some res) : Zj p l e (rm_X9_hourOf) s m args below meth c g A 2 (0, 0) (QI g A below args s res) z 24 [(0, .ref (g.1 o0)), (1, .int x1)] [] := by
  unfold f_X9_hourOf_24 at hf
  refine z_aload_n C dX9_hourOf_24 rfl 0 rfl ?_
  refine gf_X9_9 C dX9_hourOf_25 ho0 ?_
  refine z_iload_n C dX9_hourOf_28 rfl 1 rfl ?_
  obtain ⟨h1, hf⟩ := q_ck hf
  refine z_iald C (n := 8) dX9_hourOf_29 (rt_9_0 _ (kd_lt ho0 (by decide)) ho0) (by decide) h1 ?_
  exact z_goto C dX9_hourOf_30 (by decide) (z_sub [] rfl (b_X9_hourOf_34 C hr hk z (z.1 (rf o0 0) (Int32.toNatClampNeg x1)) hf))
def f_X9_hourOf_33  (z : St)  : Option (St × Int32) :=
  f_X9_hourOf_34 z ((-1))
theorem b_X9_hourOf_33 {p : Program} {l : Launch} {e : Env} {s : State} {m : MethodId} {args : Array Value} {below : List Frame} {meth : Method} {c : Code} {g : Ga} {A : Nat → Prop} (C : Cx l g A p s m args c cX9_hourOf 2 RX9 (rm_X9_hourOf) (0, 0)) (hr : meth.sig.returnType = (some .int)) (hk : meth.locks = false)   (z : St)   {res : St × Int32} (hf : f_X9_hourOf_33  z  = some res) : Zj p l e (rm_X9_hourOf) s m args below meth c g A 2 (0, 0) (QI g A below args s res) z 33 [] [] := by
  unfold f_X9_hourOf_33 at hf
  refine z_iconst C dX9_hourOf_33 (v := (-1)) (by decide) ?_
  exact z_sub [] rfl (b_X9_hourOf_34 C hr hk z ((-1)) hf)
def f_X9_hourOf_13  (z : St) (o0 : Nat) (x1 : Int32) : Option (St × Int32) :=
  if (((z.1 o0 4) >>> (x1 &&& 31)) &&& 1) = 0 then f_X9_hourOf_33 z else f_X9_hourOf_24 z o0 x1
theorem b_X9_hourOf_13 {p : Program} {l : Launch} {e : Env} {s : State} {m : MethodId} {args : Array Value} {below : List Frame} {meth : Method} {c : Code} {g : Ga} {A : Nat → Prop} (C : Cx l g A p s m args c cX9_hourOf 2 RX9 (rm_X9_hourOf) (0, 0)) (hr : meth.sig.returnType = (some .int)) (hk : meth.locks = false)   (z : St) (o0 : Nat) (x1 : Int32) (ho0 : kd o0 = 9) {res : St × Int32} (hf : f_X9_hourOf_13  z o0 x1 = some res) : Zj p l e (rm_X9_hourOf) s m args below meth c g A 2 (0, 0) (QI g A below args s res) z 13 [(0, .ref (g.1 o0)), (1, .int x1)] [] := by
  unfold f_X9_hourOf_13 at hf
  refine z_aload_n C dX9_hourOf_13 rfl 0 rfl ?_
  refine gf_X9_25 C dX9_hourOf_14 ho0 ?_
  refine z_iload_n C dX9_hourOf_17 rfl 1 rfl ?_
  refine z_ishr C dX9_hourOf_18 ?_
  refine z_iconst C dX9_hourOf_19 (v := 1) (by decide) ?_
  refine z_iand C dX9_hourOf_20 ?_
  exact z_if_eq C dX9_hourOf_21 (by decide) (fun h => z_sub [] rfl (b_X9_hourOf_33 C hr hk z (q_t hf h))) (fun h => z_sub [0, 1] rfl (b_X9_hourOf_24 C hr hk z o0 x1 ho0 (q_f hf h)))
def f_X9_hourOf_4  (z : St) (o0 : Nat) (x1 : Int32) : Option (St × Int32) :=
  if 8 ≤ x1 then f_X9_hourOf_33 z else f_X9_hourOf_13 z o0 x1
theorem b_X9_hourOf_4 {p : Program} {l : Launch} {e : Env} {s : State} {m : MethodId} {args : Array Value} {below : List Frame} {meth : Method} {c : Code} {g : Ga} {A : Nat → Prop} (C : Cx l g A p s m args c cX9_hourOf 2 RX9 (rm_X9_hourOf) (0, 0)) (hr : meth.sig.returnType = (some .int)) (hk : meth.locks = false)   (z : St) (o0 : Nat) (x1 : Int32) (ho0 : kd o0 = 9) {res : St × Int32} (hf : f_X9_hourOf_4  z o0 x1 = some res) : Zj p l e (rm_X9_hourOf) s m args below meth c g A 2 (0, 0) (QI g A below args s res) z 4 [(0, .ref (g.1 o0)), (1, .int x1)] [] := by
  unfold f_X9_hourOf_4 at hf
  refine z_iload_n C dX9_hourOf_4 rfl 1 rfl ?_
  refine z_aload_n C dX9_hourOf_5 rfl 0 rfl ?_
  refine gf_X9_9 C dX9_hourOf_6 ho0 ?_
  refine z_alenI C (n := 8) (v := 8) dX9_hourOf_9 (rt_9_0 _ (kd_lt ho0 (by decide)) ho0) (by decide) rfl ?_
  exact z_icmp_ge C dX9_hourOf_10 (by decide) (fun h => z_sub [] rfl (b_X9_hourOf_33 C hr hk z (q_t hf h))) (fun h => z_sub [0, 1] rfl (b_X9_hourOf_13 C hr hk z o0 x1 ho0 (q_f hf h)))
def f_X9_hourOf_0  (z : St) (o0 : Nat) (x1 : Int32) : Option (St × Int32) :=
  if x1 < 0 then f_X9_hourOf_33 z else f_X9_hourOf_4 z o0 x1
theorem b_X9_hourOf_0 {p : Program} {l : Launch} {e : Env} {s : State} {m : MethodId} {args : Array Value} {below : List Frame} {meth : Method} {c : Code} {g : Ga} {A : Nat → Prop} (C : Cx l g A p s m args c cX9_hourOf 2 RX9 (rm_X9_hourOf) (0, 0)) (hr : meth.sig.returnType = (some .int)) (hk : meth.locks = false)   (z : St) (o0 : Nat) (x1 : Int32) (ho0 : kd o0 = 9) {res : St × Int32} (hf : f_X9_hourOf_0  z o0 x1 = some res) : Zj p l e (rm_X9_hourOf) s m args below meth c g A 2 (0, 0) (QI g A below args s res) z 0 [(0, .ref (g.1 o0)), (1, .int x1)] [] := by
  unfold f_X9_hourOf_0 at hf
  refine z_iload_n C dX9_hourOf_0 rfl 1 rfl ?_
  exact z_if_lt C dX9_hourOf_1 (by decide) (fun h => z_sub [] rfl (b_X9_hourOf_33 C hr hk z (q_t hf h))) (fun h => z_sub [0, 1] rfl (b_X9_hourOf_4 C hr hk z o0 x1 ho0 (q_f hf h)))
def f_X9_hourOf (z : St) (o0 : Nat) (x1 : Int32) : Option (St × Int32) := f_X9_hourOf_0 z o0 x1
theorem c_X9_hourOf {l : Launch} {g : Ga} {A : Nat → Prop} {z : St} {o0 : Nat} {x1 : Int32} (ho0 : kd o0 = 9) {res : St × Int32} (hf : f_X9_hourOf z o0 x1 = some res) : CI l g A yX9_hourOf cX9_hourOf 2 (some .int) rm_X9_hourOf [.ref (g.1 o0), .int x1] z res :=
  e_CI (by decide) (Nat.le_of_ble_eq_true rfl) rfl (fun p e s m args below meth c C hr hk => z_sub [0, 1] rfl (b_X9_hourOf_0 C hr hk z o0 x1 ho0 hf))
abbrev rm_X9_begin : Room := { frames := 1, cells := 0, slots := 0, locals := 21 }
def f_X9_begin_13  (z : St)  : Option (St) :=
  some z
theorem b_X9_begin_13 {p : Program} {l : Launch} {e : Env} {s : State} {m : MethodId} {args : Array Value} {below : List Frame} {meth : Method} {c : Code} {g : Ga} {A : Nat → Prop} (C : Cx l g A p s m args c cX9_begin 3 RX9 (rm_X9_begin) (0, 0)) (hr : meth.sig.returnType = none) (hk : meth.locks = false)   (z : St)   {res : St} (hf : f_X9_begin_13  z  = some res) : Zj p l e (rm_X9_begin) s m args below meth c g A 3 (0, 0) (QV g A below args s res) z 13 [] [] := by
  unfold f_X9_begin_13 at hf
  cases hf
  exact z_vret C hr hk dX9_begin_13
def f_X9_begin_14  (z : St) (o0 : Nat) (o1 : Nat) (x2 : Int32) : Option (St) :=
  ((f_X4_takesOf (zI z o0 2 x2) o1 x2).bind fun r1 => if inb x2 8 = true then (some (zI (zI (zI r1.1 o0 3 r1.2) o0 4 (((zI r1.1 o0 3 r1.2).1 o0 4) ||| ((1 : Int32) <<< (x2 &&& 31)))) (rf o0 0) (Int32.toNatClampNeg x2) ((zI (zI r1.1 o0 3 r1.2) o0 4 (((zI r1.1 o0 3 r1.2).1 o0 4) ||| ((1 : Int32) <<< (x2 &&& 31)))).1 o0 1))) else none)
theorem b_X9_begin_14 {p : Program} {l : Launch} {e : Env} {s : State} {m : MethodId} {args : Array Value} {below : List Frame} {meth : Method} {c : Code} {g : Ga} {A : Nat → Prop} (C : Cx l g A p s m args c cX9_begin 3 RX9 (rm_X9_begin) (0, 0)) (hr : meth.sig.returnType = none) (hk : meth.locks = false)   (z : St) (o0 : Nat) (o1 : Nat) (x2 : Int32) (ho0 : kd o0 = 9) (ho1 : kd o1 = 4) {res : St} (hf : f_X9_begin_14  z o0 o1 x2 = some res) : Zj p l e (rm_X9_begin) s m args below meth c g A 3 (0, 0) (QV g A below args s res) z 14 [(0, .ref (g.1 o0)), (1, .ref (g.1 o1)), (2, .int x2)] [] := by
  unfold f_X9_begin_14 at hf
  refine z_aload_n C dX9_begin_14 rfl 0 rfl ?_
  refine z_iload_n C dX9_begin_15 rfl 2 rfl ?_
  refine pf_X9_15 C dX9_begin_16 ho0 ?_
  refine z_aload_n C dX9_begin_19 rfl 0 rfl ?_
  refine z_aload_n C dX9_begin_20 rfl 1 rfl ?_
  refine z_iload_n C dX9_begin_21 rfl 2 rfl ?_
  obtain ⟨r1, hc2, hf⟩ := q_bd hf
  refine z_cVi C (st := [.ref (g.1 o0)]) (c_X4_takesOf ho1 hc2) mw_X4_takesOf ml_X9_44 ho1 (by decide) rfl dX9_begin_22 rfl rfl rfl ⟨Nat.le_of_ble_eq_true rfl, Nat.le_of_ble_eq_true rfl⟩ rfl (Nat.le_of_ble_eq_true rfl) ?_
  refine pf_X9_22 C dX9_begin_25 ho0 ?_
  refine z_aload_n C dX9_begin_28 rfl 0 rfl ?_
  refine z_dup C dX9_begin_29 rfl ?_
  refine gf_X9_25 C dX9_begin_30 ho0 ?_
  refine z_iconst C dX9_begin_33 (v := 1) (by decide) ?_
  refine z_iload_n C dX9_begin_34 rfl 2 rfl ?_
  refine z_ishl C dX9_begin_35 ?_
  refine z_ior C dX9_begin_36 ?_
  refine pf_X9_25 C dX9_begin_37 ho0 ?_
  refine z_aload_n C dX9_begin_40 rfl 0 rfl ?_
  refine gf_X9_9 C dX9_begin_41 ho0 ?_
  refine z_iload_n C dX9_begin_44 rfl 2 rfl ?_
  refine z_aload_n C dX9_begin_45 rfl 0 rfl ?_
  refine gf_X9_19 C dX9_begin_46 ho0 ?_
  obtain ⟨h3, hf⟩ := q_ck hf
  refine z_iast C (n := 8) dX9_begin_49 (rt_9_0 _ (kd_lt ho0 (by decide)) ho0) (by decide) h3 ?_
  cases hf
  exact z_vret C hr hk dX9_begin_50
def f_X9_begin_4  (z : St) (o0 : Nat) (o1 : Nat) (x2 : Int32) : Option (St) :=
  if x2 < 8 then f_X9_begin_14 z o0 o1 x2 else f_X9_begin_13 z
theorem b_X9_begin_4 {p : Program} {l : Launch} {e : Env} {s : State} {m : MethodId} {args : Array Value} {below : List Frame} {meth : Method} {c : Code} {g : Ga} {A : Nat → Prop} (C : Cx l g A p s m args c cX9_begin 3 RX9 (rm_X9_begin) (0, 0)) (hr : meth.sig.returnType = none) (hk : meth.locks = false)   (z : St) (o0 : Nat) (o1 : Nat) (x2 : Int32) (ho0 : kd o0 = 9) (ho1 : kd o1 = 4) {res : St} (hf : f_X9_begin_4  z o0 o1 x2 = some res) : Zj p l e (rm_X9_begin) s m args below meth c g A 3 (0, 0) (QV g A below args s res) z 4 [(0, .ref (g.1 o0)), (1, .ref (g.1 o1)), (2, .int x2)] [] := by
  unfold f_X9_begin_4 at hf
  refine z_iload_n C dX9_begin_4 rfl 2 rfl ?_
  refine z_aload_n C dX9_begin_5 rfl 0 rfl ?_
  refine gf_X9_9 C dX9_begin_6 ho0 ?_
  refine z_alenI C (n := 8) (v := 8) dX9_begin_9 (rt_9_0 _ (kd_lt ho0 (by decide)) ho0) (by decide) rfl ?_
  exact z_icmp_lt C dX9_begin_10 (by decide) (fun h => z_sub [0, 1, 2] rfl (b_X9_begin_14 C hr hk z o0 o1 x2 ho0 ho1 (q_t hf h))) (fun h => z_sub [] rfl (b_X9_begin_13 C hr hk z (q_f hf h)))
def f_X9_begin_0  (z : St) (o0 : Nat) (o1 : Nat) (x2 : Int32) : Option (St) :=
  if x2 < 0 then f_X9_begin_13 z else f_X9_begin_4 z o0 o1 x2
theorem b_X9_begin_0 {p : Program} {l : Launch} {e : Env} {s : State} {m : MethodId} {args : Array Value} {below : List Frame} {meth : Method} {c : Code} {g : Ga} {A : Nat → Prop} (C : Cx l g A p s m args c cX9_begin 3 RX9 (rm_X9_begin) (0, 0)) (hr : meth.sig.returnType = none) (hk : meth.locks = false)   (z : St) (o0 : Nat) (o1 : Nat) (x2 : Int32) (ho0 : kd o0 = 9) (ho1 : kd o1 = 4) {res : St} (hf : f_X9_begin_0  z o0 o1 x2 = some res) : Zj p l e (rm_X9_begin) s m args below meth c g A 3 (0, 0) (QV g A below args s res) z 0 [(0, .ref (g.1 o0)), (1, .ref (g.1 o1)), (2, .int x2)] [] := by
  unfold f_X9_begin_0 at hf
  refine z_iload_n C dX9_begin_0 rfl 2 rfl ?_
  exact z_if_lt C dX9_begin_1 (by decide) (fun h => z_sub [] rfl (b_X9_begin_13 C hr hk z (q_t hf h))) (fun h => z_sub [0, 1, 2] rfl (b_X9_begin_4 C hr hk z o0 o1 x2 ho0 ho1 (q_f hf h)))
def f_X9_begin (z : St) (o0 : Nat) (o1 : Nat) (x2 : Int32) : Option (St) := f_X9_begin_0 z o0 o1 x2
theorem c_X9_begin {l : Launch} {g : Ga} {A : Nat → Prop} {z : St} {o0 : Nat} {o1 : Nat} {x2 : Int32} (ho0 : kd o0 = 9) (ho1 : kd o1 = 4) {res : St} (hf : f_X9_begin z o0 o1 x2 = some res) : CV l g A yX9_begin cX9_begin 3 none rm_X9_begin [.ref (g.1 o0), .ref (g.1 o1), .int x2] z res :=
  e_CV (by decide) (Nat.le_of_ble_eq_true rfl) rfl (fun p e s m args below meth c C hr hk => z_sub [0, 1, 2] rfl (b_X9_begin_0 C hr hk z o0 o1 x2 ho0 ho1 hf))
abbrev rm_X9_passHour : Room := { frames := 2, cells := 0, slots := 0, locals := 45 }
def f_X9_passHour_43  (z : St) (o0 : Nat) : Option (St) :=
  some (zI z o0 6 ((z.1 o0 6) + 1))
theorem b_X9_passHour_43 {p : Program} {l : Launch} {e : Env} {s : State} {m : MethodId} {args : Array Value} {below : List Frame} {meth : Method} {c : Code} {g : Ga} {A : Nat → Prop} (C : Cx l g A p s m args c cX9_passHour 2 RX9 (rm_X9_passHour) (0, 0)) (hr : meth.sig.returnType = none) (hk : meth.locks = false)   (z : St) (o0 : Nat) (ho0 : kd o0 = 9) {res : St} (hf : f_X9_passHour_43  z o0 = some res) : Zj p l e (rm_X9_passHour) s m args below meth c g A 2 (0, 0) (QV g A below args s res) z 43 [(0, .ref (g.1 o0))] [] := by
  unfold f_X9_passHour_43 at hf
  refine z_aload_n C dX9_passHour_43 rfl 0 rfl ?_
  refine z_dup C dX9_passHour_44 rfl ?_
  refine gf_X9_31 C dX9_passHour_45 ho0 ?_
  refine z_iconst C dX9_passHour_48 (v := 1) (by decide) ?_
  refine z_iadd C dX9_passHour_49 ?_
  refine pf_X9_31 C dX9_passHour_50 ho0 ?_
  cases hf
  exact z_vret C hr hk dX9_passHour_53
def f_X9_passHour_91  (z : St)  : Option (St) :=
  some z
theorem b_X9_passHour_91 {p : Program} {l : Launch} {e : Env} {s : State} {m : MethodId} {args : Array Value} {below : List Frame} {meth : Method} {c : Code} {g : Ga} {A : Nat → Prop} (C : Cx l g A p s m args c cX9_passHour 2 RX9 (rm_X9_passHour) (0, 0)) (hr : meth.sig.returnType = none) (hk : meth.locks = false)   (z : St)   {res : St} (hf : f_X9_passHour_91  z  = some res) : Zj p l e (rm_X9_passHour) s m args below meth c g A 2 (0, 0) (QV g A below args s res) z 91 [] [] := by
  unfold f_X9_passHour_91 at hf
  cases hf
  exact z_vret C hr hk dX9_passHour_91
def f_X9_passHour_71  (z : St) (o0 : Nat) : Option (St) :=
  f_X9_passHour_91 (zI (zI z o0 5 ((z.1 o0 5) ||| ((1 : Int32) <<< ((z.1 o0 2) &&& 31)))) o0 2 ((-1)))
theorem b_X9_passHour_71 {p : Program} {l : Launch} {e : Env} {s : State} {m : MethodId} {args : Array Value} {below : List Frame} {meth : Method} {c : Code} {g : Ga} {A : Nat → Prop} (C : Cx l g A p s m args c cX9_passHour 2 RX9 (rm_X9_passHour) (0, 0)) (hr : meth.sig.returnType = none) (hk : meth.locks = false)   (z : St) (o0 : Nat) (ho0 : kd o0 = 9) {res : St} (hf : f_X9_passHour_71  z o0 = some res) : Zj p l e (rm_X9_passHour) s m args below meth c g A 2 (0, 0) (QV g A below args s res) z 71 [(0, .ref (g.1 o0))] [] := by
  unfold f_X9_passHour_71 at hf
  refine z_aload_n C dX9_passHour_71 rfl 0 rfl ?_
  refine z_dup C dX9_passHour_72 rfl ?_
  refine gf_X9_28 C dX9_passHour_73 ho0 ?_
  refine z_iconst C dX9_passHour_76 (v := 1) (by decide) ?_
  refine z_aload_n C dX9_passHour_77 rfl 0 rfl ?_
  refine gf_X9_15 C dX9_passHour_78 ho0 ?_
  refine z_ishl C dX9_passHour_81 ?_
  refine z_ior C dX9_passHour_82 ?_
  refine pf_X9_28 C dX9_passHour_83 ho0 ?_
  refine z_aload_n C dX9_passHour_86 rfl 0 rfl ?_
  refine z_iconst C dX9_passHour_87 (v := (-1)) (by decide) ?_
  refine pf_X9_15 C dX9_passHour_88 ho0 ?_
  exact z_sub [] rfl (b_X9_passHour_91 C hr hk (zI (zI z o0 5 ((z.1 o0 5) ||| ((1 : Int32) <<< ((z.1 o0 2) &&& 31)))) o0 2 ((-1))) hf)
def f_X9_passHour_54  (z : St) (o0 : Nat) : Option (St) :=
  if 0 < ((zI z o0 3 ((z.1 o0 3) - 1)).1 o0 3) then f_X9_passHour_91 (zI z o0 3 ((z.1 o0 3) - 1)) else f_X9_passHour_71 (zI z o0 3 ((z.1 o0 3) - 1)) o0
theorem b_X9_passHour_54 {p : Program} {l : Launch} {e : Env} {s : State} {m : MethodId} {args : Array Value} {below : List Frame} {meth : Method} {c : Code} {g : Ga} {A : Nat → Prop} (C : Cx l g A p s m args c cX9_passHour 2 RX9 (rm_X9_passHour) (0, 0)) (hr : meth.sig.returnType = none) (hk : meth.locks = false)   (z : St) (o0 : Nat) (ho0 : kd o0 = 9) {res : St} (hf : f_X9_passHour_54  z o0 = some res) : Zj p l e (rm_X9_passHour) s m args below meth c g A 2 (0, 0) (QV g A below args s res) z 54 [(0, .ref (g.1 o0))] [] := by
  unfold f_X9_passHour_54 at hf
  refine z_aload_n C dX9_passHour_54 rfl 0 rfl ?_
  refine z_dup C dX9_passHour_55 rfl ?_
  refine gf_X9_22 C dX9_passHour_56 ho0 ?_
  refine z_iconst C dX9_passHour_59 (v := 1) (by decide) ?_
  refine z_isub C dX9_passHour_60 ?_
  refine pf_X9_22 C dX9_passHour_61 ho0 ?_
  refine z_aload_n C dX9_passHour_64 rfl 0 rfl ?_
  refine gf_X9_22 C dX9_passHour_65 ho0 ?_
  exact z_if_gt C dX9_passHour_68 (by decide) (fun h => z_sub [] rfl (b_X9_passHour_91 C hr hk (zI z o0 3 ((z.1 o0 3) - 1)) (q_t hf h))) (fun h => z_sub [0] rfl (b_X9_passHour_71 C hr hk (zI z o0 3 ((z.1 o0 3) - 1)) o0 ho0 (q_f hf h)))
def f_X9_passHour_25  (z : St) (o0 : Nat) : Option (St) :=
  if ((zI z o0 1 ((z.1 o0 1) + 1)).1 o0 2) = ((-1)) then f_X9_passHour_43 (zI z o0 1 ((z.1 o0 1) + 1)) o0 else f_X9_passHour_54 (zI z o0 1 ((z.1 o0 1) + 1)) o0
theorem b_X9_passHour_25 {p : Program} {l : Launch} {e : Env} {s : State} {m : MethodId} {args : Array Value} {below : List Frame} {meth : Method} {c : Code} {g : Ga} {A : Nat → Prop} (C : Cx l g A p s m args c cX9_passHour 2 RX9 (rm_X9_passHour) (0, 0)) (hr : meth.sig.returnType = none) (hk : meth.locks = false)   (z : St) (o0 : Nat) (ho0 : kd o0 = 9) {res : St} (hf : f_X9_passHour_25  z o0 = some res) : Zj p l e (rm_X9_passHour) s m args below meth c g A 2 (0, 0) (QV g A below args s res) z 25 [(0, .ref (g.1 o0))] [] := by
  unfold f_X9_passHour_25 at hf
  refine z_aload_n C dX9_passHour_25 rfl 0 rfl ?_
  refine z_dup C dX9_passHour_26 rfl ?_
  refine gf_X9_19 C dX9_passHour_27 ho0 ?_
  refine z_iconst C dX9_passHour_30 (v := 1) (by decide) ?_
  refine z_iadd C dX9_passHour_31 ?_
  refine pf_X9_19 C dX9_passHour_32 ho0 ?_
  refine z_aload_n C dX9_passHour_35 rfl 0 rfl ?_
  refine gf_X9_15 C dX9_passHour_36 ho0 ?_
  refine z_iconst C dX9_passHour_39 (v := (-1)) (by decide) ?_
  exact z_icmp_ne C dX9_passHour_40 (by decide) (fun h => z_sub [0] rfl (b_X9_passHour_54 C hr hk (zI z o0 1 ((z.1 o0 1) + 1)) o0 ho0 (q_f hf h))) (fun h => z_sub [0] rfl (b_X9_passHour_43 C hr hk (zI z o0 1 ((z.1 o0 1) + 1)) o0 ho0 (q_t hf h)))
def f_X9_passHour_8  (z : St) (o0 : Nat) (o1 : Nat) : Option (St) :=
  ((f_X4_nextToBegin z o1 (z.1 o0 4) (z.1 o0 1)).bind fun r1 => ((f_X9_begin r1.1 o0 o1 r1.2).bind fun r3 => f_X9_passHour_25 r3 o0))
theorem b_X9_passHour_8 {p : Program} {l : Launch} {e : Env} {s : State} {m : MethodId} {args : Array Value} {below : List Frame} {meth : Method} {c : Code} {g : Ga} {A : Nat → Prop} (C : Cx l g A p s m args c cX9_passHour 2 RX9 (rm_X9_passHour) (0, 0)) (hr : meth.sig.returnType = none) (hk : meth.locks = false)   (z : St) (o0 : Nat) (o1 : Nat) (ho0 : kd o0 = 9) (ho1 : kd o1 = 4) {res : St} (hf : f_X9_passHour_8  z o0 o1 = some res) : Zj p l e (rm_X9_passHour) s m args below meth c g A 2 (0, 0) (QV g A below args s res) z 8 [(0, .ref (g.1 o0)), (1, .ref (g.1 o1))] [] := by
  unfold f_X9_passHour_8 at hf
  refine z_aload_n C dX9_passHour_8 rfl 0 rfl ?_
  refine z_aload_n C dX9_passHour_9 rfl 1 rfl ?_
  refine z_aload_n C dX9_passHour_10 rfl 1 rfl ?_
  refine z_aload_n C dX9_passHour_11 rfl 0 rfl ?_
  refine gf_X9_25 C dX9_passHour_12 ho0 ?_
  refine z_aload_n C dX9_passHour_15 rfl 0 rfl ?_
  refine gf_X9_19 C dX9_passHour_16 ho0 ?_
  obtain ⟨r1, hc2, hf⟩ := q_bd hf
  refine z_cVi C (st := [.ref (g.1 o1), .ref (g.1 o0)]) (c_X4_nextToBegin ho1 hc2) mw_X4_nextToBegin ml_X9_34 ho1 (by decide) rfl dX9_passHour_19 rfl rfl rfl ⟨Nat.le_of_ble_eq_true rfl, Nat.le_of_ble_eq_true rfl⟩ rfl (Nat.le_of_ble_eq_true rfl) ?_
  obtain ⟨r3, hc4, hf⟩ := q_bd hf
  refine z_cVv C (st := []) (c_X9_begin ho0 ho1 hc4) mw_X9_begin ml_X9_40 ho0 (by decide) rfl dX9_passHour_22 rfl rfl rfl ⟨Nat.le_of_ble_eq_true rfl, Nat.le_of_ble_eq_true rfl⟩ rfl (Nat.le_of_ble_eq_true rfl) ?_
  exact z_sub [0] rfl (b_X9_passHour_25 C hr hk r3 o0 ho0 hf)
def f_X9_passHour_0  (z : St) (o0 : Nat) (o1 : Nat) : Option (St) :=
  if (z.1 o0 2) = ((-1)) then f_X9_passHour_8 z o0 o1 else f_X9_passHour_25 z o0
theorem b_X9_passHour_0 {p : Program} {l : Launch} {e : Env} {s : State} {m : MethodId} {args : Array Value} {below : List Frame} {meth : Method} {c : Code} {g : Ga} {A : Nat → Prop} (C : Cx l g A p s m args c cX9_passHour 2 RX9 (rm_X9_passHour) (0, 0)) (hr : meth.sig.returnType = none) (hk : meth.locks = false)   (z : St) (o0 : Nat) (o1 : Nat) (ho0 : kd o0 = 9) (ho1 : kd o1 = 4) {res : St} (hf : f_X9_passHour_0  z o0 o1 = some res) : Zj p l e (rm_X9_passHour) s m args below meth c g A 2 (0, 0) (QV g A below args s res) z 0 [(0, .ref (g.1 o0)), (1, .ref (g.1 o1))] [] := by
  unfold f_X9_passHour_0 at hf
  refine z_aload_n C dX9_passHour_0 rfl 0 rfl ?_
  refine gf_X9_15 C dX9_passHour_1 ho0 ?_
  refine z_iconst C dX9_passHour_4 (v := (-1)) (by decide) ?_
  exact z_icmp_ne C dX9_passHour_5 (by decide) (fun h => z_sub [0] rfl (b_X9_passHour_25 C hr hk z o0 ho0 (q_f hf h))) (fun h => z_sub [0, 1] rfl (b_X9_passHour_8 C hr hk z o0 o1 ho0 ho1 (q_t hf h)))
def f_X9_passHour (z : St) (o0 : Nat) (o1 : Nat) : Option (St) := f_X9_passHour_0 z o0 o1
theorem c_X9_passHour {l : Launch} {g : Ga} {A : Nat → Prop} {z : St} {o0 : Nat} {o1 : Nat} (ho0 : kd o0 = 9) (ho1 : kd o1 = 4) {res : St} (hf : f_X9_passHour z o0 o1 = some res) : CV l g A yX9_passHour cX9_passHour 2 none rm_X9_passHour [.ref (g.1 o0), .ref (g.1 o1)] z res :=
  e_CV (by decide) (Nat.le_of_ble_eq_true rfl) rfl (fun p e s m args below meth c C hr hk => z_sub [0, 1] rfl (b_X9_passHour_0 C hr hk z o0 o1 ho0 ho1 hf))
