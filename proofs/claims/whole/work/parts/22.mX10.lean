abbrev rm_X10_go : Room := { frames := 3, cells := 0, slots := 0, locals := 66 }
def f_X10_go_11  (z : St)  : Option (St × Int32) :=
  some (z, (-2))
theorem b_X10_go_11 {p : Program} {l : Launch} {e : Env} {s : State} {m : MethodId} {args : Array Value} {below : List Frame} {meth : Method} {c : Code} {g : Ga} {A : Nat → Prop} (C : Cx l g A p s m args c cX10_go 3 RX10 (rm_X10_go) (0, 0)) (hr : meth.sig.returnType = (some .int)) (hk : meth.locks = false)   (z : St)   {res : St × Int32} (hf : f_X10_go_11  z  = some res) : Zj p l e (rm_X10_go) s m args below meth c g A 3 (0, 0) (QI g A below args s res) z 11 [] [] := by
  unfold f_X10_go_11 at hf
  refine z_bipush C dX10_go_11 (v := (-2)) (by decide) ?_
  cases hf
  exact z_iret C hr hk dX10_go_13
def f_X10_go_29  (z : St)  : Option (St × Int32) :=
  some (z, (-4))
theorem b_X10_go_29 {p : Program} {l : Launch} {e : Env} {s : State} {m : MethodId} {args : Array Value} {below : List Frame} {meth : Method} {c : Code} {g : Ga} {A : Nat → Prop} (C : Cx l g A p s m args c cX10_go 3 RX10 (rm_X10_go) (0, 0)) (hr : meth.sig.returnType = (some .int)) (hk : meth.locks = false)   (z : St)   {res : St × Int32} (hf : f_X10_go_29  z  = some res) : Zj p l e (rm_X10_go) s m args below meth c g A 3 (0, 0) (QI g A below args s res) z 29 [] [] := by
  unfold f_X10_go_29 at hf
  refine z_bipush C dX10_go_29 (v := (-4)) (by decide) ?_
  cases hf
  exact z_iret C hr hk dX10_go_31
def f_X10_go_39 (K34 : St → Nat → Int32 → Int32 → Option (St × Int32)) (z : St) (o0 : Nat) (x1 : Int32) (x2 : Int32) : Option (St × Int32) :=
  ((f_X9_passHour z (rf o0 12) (rf o0 4)).bind fun r1 => K34 r1 o0 x1 (x2 + 1))
theorem b_X10_go_39 {p : Program} {l : Launch} {e : Env} {s : State} {m : MethodId} {args : Array Value} {below : List Frame} {meth : Method} {c : Code} {g : Ga} {A : Nat → Prop} (C : Cx l g A p s m args c cX10_go 3 RX10 (rm_X10_go) (0, 0)) (hr : meth.sig.returnType = (some .int)) (hk : meth.locks = false) {K34 : St → Nat → Int32 → Int32 → Option (St × Int32)} (hK34 : ∀ (z : St) (o0 : Nat) (x1 : Int32) (x2 : Int32) (_ : kd o0 = 10) {res : St × Int32}, K34 z o0 x1 x2 = some res → Zj p l e (rm_X10_go) s m args below meth c g A 3 (0, 0) (QI g A below args s res) z 34 [(0, .ref (g.1 o0)), (1, .int x1), (2, .int x2)] []) (z : St) (o0 : Nat) (x1 : Int32) (x2 : Int32) (ho0 : kd o0 = 10) {res : St × Int32} (hf : f_X10_go_39 K34 z o0 x1 x2 = some res) : Zj p l e (rm_X10_go) s m args below meth c g A 3 (0, 0) (QI g A below args s res) z 39 [(0, .ref (g.1 o0)), (1, .int x1), (2, .int x2)] [] := by
  unfold f_X10_go_39 at hf
  refine z_aload_n C dX10_go_39 rfl 0 rfl ?_
  refine gf_X10_80 C dX10_go_40 ho0 ?_
  refine z_aload_n C dX10_go_43 rfl 0 rfl ?_
  refine gf_X10_32 C dX10_go_44 ho0 ?_
  obtain ⟨r1, hc2, hf⟩ := q_bd hf
  refine z_cVv C (st := []) (c_X9_passHour (rt_10_12 _ (kd_lt ho0 (by decide)) ho0) (rt_10_4 _ (kd_lt ho0 (by decide)) ho0) hc2) mw_X9_passHour ml_X10_292 (rt_10_12 _ (kd_lt ho0 (by decide)) ho0) (by decide) rfl dX10_go_47 rfl rfl rfl ⟨Nat.le_of_ble_eq_true rfl, Nat.le_of_ble_eq_true rfl⟩ rfl (Nat.le_of_ble_eq_true rfl) ?_
  refine z_iinc C (k := 2) (v := x2 + 1) (lv2 := [(2, .int (x2 + 1)), (0, .ref (g.1 o0)), (1, .int x1)]) dX10_go_50 rfl rfl (by decide) rfl ?_
  exact z_goto C dX10_go_53 (by decide) (z_sub [1, 2, 0] rfl (hK34 r1 o0 x1 (x2 + 1) ho0 hf))
def f_X10_go_56  (z : St) (o0 : Nat) : Option (St × Int32) :=
  some (z, z.1 (rf o0 12) 1)
theorem b_X10_go_56 {p : Program} {l : Launch} {e : Env} {s : State} {m : MethodId} {args : Array Value} {below : List Frame} {meth : Method} {c : Code} {g : Ga} {A : Nat → Prop} (C : Cx l g A p s m args c cX10_go 3 RX10 (rm_X10_go) (0, 0)) (hr : meth.sig.returnType = (some .int)) (hk : meth.locks = false)   (z : St) (o0 : Nat) (ho0 : kd o0 = 10) {res : St × Int32} (hf : f_X10_go_56  z o0 = some res) : Zj p l e (rm_X10_go) s m args below meth c g A 3 (0, 0) (QI g A below args s res) z 56 [(0, .ref (g.1 o0))] [] := by
  unfold f_X10_go_56 at hf
  refine z_aload_n C dX10_go_56 rfl 0 rfl ?_
  refine gf_X10_80 C dX10_go_57 ho0 ?_
  refine gf_X10_289 C dX10_go_60 (rt_10_12 _ (kd_lt ho0 (by decide)) ho0) ?_
  cases hf
  exact z_iret C hr hk dX10_go_63
def f_X10_go_34  : Nat → St → Nat → Int32 → Int32 → Option (St × Int32)
  | 0, _, _, _, _ => none
  | n + 1, z, o0, x1, x2 => if x1 ≤ x2 then f_X10_go_56 z o0 else f_X10_go_39 (f_X10_go_34 n) z o0 x1 x2
theorem b_X10_go_34 {p : Program} {l : Launch} {e : Env} {s : State} {m : MethodId} {args : Array Value} {below : List Frame} {meth : Method} {c : Code} {g : Ga} {A : Nat → Prop} (C : Cx l g A p s m args c cX10_go 3 RX10 (rm_X10_go) (0, 0)) (hr : meth.sig.returnType = (some .int)) (hk : meth.locks = false)   : ∀ (n : Nat) (z : St) (o0 : Nat) (x1 : Int32) (x2 : Int32) (_ : kd o0 = 10) {res : St × Int32} (_ : f_X10_go_34  n z o0 x1 x2 = some res), Zj p l e (rm_X10_go) s m args below meth c g A 3 (0, 0) (QI g A below args s res) z 34 [(0, .ref (g.1 o0)), (1, .int x1), (2, .int x2)] [] := by
  intro n
  induction n with
  | zero =>
    intro z o0 x1 x2 ho0 res hf
    cases hf
  | succ n ih =>
    intro z o0 x1 x2 ho0 res hf
    rw [f_X10_go_34] at hf
    refine z_iload_n C dX10_go_34 rfl 2 rfl ?_
    refine z_iload_n C dX10_go_35 rfl 1 rfl ?_
    exact z_icmp_ge C dX10_go_36 (by decide) (fun h => z_sub [0] rfl (b_X10_go_56 C hr hk z o0 ho0 (q_t hf h))) (fun h => z_sub [0, 1, 2] rfl (b_X10_go_39 C hr hk ih z o0 x1 x2 ho0 (q_f hf h)))
def f_X10_go_32  (z : St) (o0 : Nat) (x1 : Int32) : Option (St × Int32) :=
  f_X10_go_34 FU z o0 x1 0
theorem b_X10_go_32 {p : Program} {l : Launch} {e : Env} {s : State} {m : MethodId} {args : Array Value} {below : List Frame} {meth : Method} {c : Code} {g : Ga} {A : Nat → Prop} (C : Cx l g A p s m args c cX10_go 3 RX10 (rm_X10_go) (0, 0)) (hr : meth.sig.returnType = (some .int)) (hk : meth.locks = false)   (z : St) (o0 : Nat) (x1 : Int32) (ho0 : kd o0 = 10) {res : St × Int32} (hf : f_X10_go_32  z o0 x1 = some res) : Zj p l e (rm_X10_go) s m args below meth c g A 3 (0, 0) (QI g A below args s res) z 32 [(0, .ref (g.1 o0)), (1, .int x1)] [] := by
  unfold f_X10_go_32 at hf
  refine z_iconst C dX10_go_32 (v := 0) (by decide) ?_
  refine z_istore_n C (lv2 := [(2, .int 0), (0, .ref (g.1 o0)), (1, .int x1)]) dX10_go_33 rfl (by decide) rfl ?_
  exact z_sub [1, 2, 0] rfl (b_X10_go_34 C hr hk FU z o0 x1 0 ho0 hf)
def f_X10_go_14  (z : St) (o0 : Nat) (x1 : Int32) : Option (St × Int32) :=
  if ((z.1 (rf o0 12) 1) + x1) ≤ 999 then f_X10_go_32 z o0 x1 else f_X10_go_29 z
theorem b_X10_go_14 {p : Program} {l : Launch} {e : Env} {s : State} {m : MethodId} {args : Array Value} {below : List Frame} {meth : Method} {c : Code} {g : Ga} {A : Nat → Prop} (C : Cx l g A p s m args c cX10_go 3 RX10 (rm_X10_go) (0, 0)) (hr : meth.sig.returnType = (some .int)) (hk : meth.locks = false)   (z : St) (o0 : Nat) (x1 : Int32) (ho0 : kd o0 = 10) {res : St × Int32} (hf : f_X10_go_14  z o0 x1 = some res) : Zj p l e (rm_X10_go) s m args below meth c g A 3 (0, 0) (QI g A below args s res) z 14 [(0, .ref (g.1 o0)), (1, .int x1)] [] := by
  unfold f_X10_go_14 at hf
  refine z_aload_n C dX10_go_14 rfl 0 rfl ?_
  refine gf_X10_80 C dX10_go_15 ho0 ?_
  refine gf_X10_289 C dX10_go_18 (rt_10_12 _ (kd_lt ho0 (by decide)) ho0) ?_
  refine z_iload_n C dX10_go_21 rfl 1 rfl ?_
  refine z_iadd C dX10_go_22 ?_
  refine z_sipush C dX10_go_23 (v := 999) (by decide) ?_
  exact z_icmp_le C dX10_go_26 (by decide) (fun h => z_sub [0, 1] rfl (b_X10_go_32 C hr hk z o0 x1 ho0 (q_t hf h))) (fun h => z_sub [] rfl (b_X10_go_29 C hr hk z (q_f hf h)))
def f_X10_go_5  (z : St) (o0 : Nat) (x1 : Int32) : Option (St × Int32) :=
  if x1 ≤ 60 then f_X10_go_14 z o0 x1 else f_X10_go_11 z
theorem b_X10_go_5 {p : Program} {l : Launch} {e : Env} {s : State} {m : MethodId} {args : Array Value} {below : List Frame} {meth : Method} {c : Code} {g : Ga} {A : Nat → Prop} (C : Cx l g A p s m args c cX10_go 3 RX10 (rm_X10_go) (0, 0)) (hr : meth.sig.returnType = (some .int)) (hk : meth.locks = false)   (z : St) (o0 : Nat) (x1 : Int32) (ho0 : kd o0 = 10) {res : St × Int32} (hf : f_X10_go_5  z o0 x1 = some res) : Zj p l e (rm_X10_go) s m args below meth c g A 3 (0, 0) (QI g A below args s res) z 5 [(0, .ref (g.1 o0)), (1, .int x1)] [] := by
  unfold f_X10_go_5 at hf
  refine z_iload_n C dX10_go_5 rfl 1 rfl ?_
  refine z_bipush C dX10_go_6 (v := 60) (by decide) ?_
  exact z_icmp_le C dX10_go_8 (by decide) (fun h => z_sub [0, 1] rfl (b_X10_go_14 C hr hk z o0 x1 ho0 (q_t hf h))) (fun h => z_sub [] rfl (b_X10_go_11 C hr hk z (q_f hf h)))
def f_X10_go_0  (z : St) (o0 : Nat) (x1 : Int32) : Option (St × Int32) :=
  if x1 < 1 then f_X10_go_11 z else f_X10_go_5 z o0 x1
theorem b_X10_go_0 {p : Program} {l : Launch} {e : Env} {s : State} {m : MethodId} {args : Array Value} {below : List Frame} {meth : Method} {c : Code} {g : Ga} {A : Nat → Prop} (C : Cx l g A p s m args c cX10_go 3 RX10 (rm_X10_go) (0, 0)) (hr : meth.sig.returnType = (some .int)) (hk : meth.locks = false)   (z : St) (o0 : Nat) (x1 : Int32) (ho0 : kd o0 = 10) {res : St × Int32} (hf : f_X10_go_0  z o0 x1 = some res) : Zj p l e (rm_X10_go) s m args below meth c g A 3 (0, 0) (QI g A below args s res) z 0 [(0, .ref (g.1 o0)), (1, .int x1)] [] := by
  unfold f_X10_go_0 at hf
  refine z_iload_n C dX10_go_0 rfl 1 rfl ?_
  refine z_iconst C dX10_go_1 (v := 1) (by decide) ?_
  exact z_icmp_lt C dX10_go_2 (by decide) (fun h => z_sub [] rfl (b_X10_go_11 C hr hk z (q_t hf h))) (fun h => z_sub [0, 1] rfl (b_X10_go_5 C hr hk z o0 x1 ho0 (q_f hf h)))
def f_X10_go (z : St) (o0 : Nat) (x1 : Int32) : Option (St × Int32) := f_X10_go_0 z o0 x1
theorem c_X10_go {l : Launch} {g : Ga} {A : Nat → Prop} {z : St} {o0 : Nat} {x1 : Int32} (ho0 : kd o0 = 10) {res : St × Int32} (hf : f_X10_go z o0 x1 = some res) : CI l g A yX10_go cX10_go 3 (some .int) rm_X10_go [.ref (g.1 o0), .int x1] z res :=
  e_CI (by decide) (Nat.le_of_ble_eq_true rfl) rfl (fun p e s m args below meth c C hr hk => z_sub [0, 1] rfl (b_X10_go_0 C hr hk z o0 x1 ho0 hf))
abbrev rm_X10_bench : Room := { frames := 0, cells := 0, slots := 0, locals := 0 }
def f_X10_bench_32  (z : St) (o0 : Nat) : Option (St × Int32) :=
  some (z, z.1 (rf o0 12) 1)
theorem b_X10_bench_32 {p : Program} {l : Launch} {e : Env} {s : State} {m : MethodId} {args : Array Value} {below : List Frame} {meth : Method} {c : Code} {g : Ga} {A : Nat → Prop} (C : Cx l g A p s m args c cX10_bench 2 RX10 (rm_X10_bench) (0, 0)) (hr : meth.sig.returnType = (some .int)) (hk : meth.locks = false)   (z : St) (o0 : Nat) (ho0 : kd o0 = 10) {res : St × Int32} (hf : f_X10_bench_32  z o0 = some res) : Zj p l e (rm_X10_bench) s m args below meth c g A 2 (0, 0) (QI g A below args s res) z 32 [(0, .ref (g.1 o0))] [] := by
  unfold f_X10_bench_32 at hf
  refine z_aload_n C dX10_bench_32 rfl 0 rfl ?_
  refine gf_X10_80 C dX10_bench_33 ho0 ?_
  refine gf_X10_289 C dX10_bench_36 (rt_10_12 _ (kd_lt ho0 (by decide)) ho0) ?_
  cases hf
  exact z_iret C hr hk dX10_bench_39
def f_X10_bench_40  (z : St) (o0 : Nat) : Option (St × Int32) :=
  some (z, z.1 (rf o0 12) 2)
theorem b_X10_bench_40 {p : Program} {l : Launch} {e : Env} {s : State} {m : MethodId} {args : Array Value} {below : List Frame} {meth : Method} {c : Code} {g : Ga} {A : Nat → Prop} (C : Cx l g A p s m args c cX10_bench 2 RX10 (rm_X10_bench) (0, 0)) (hr : meth.sig.returnType = (some .int)) (hk : meth.locks = false)   (z : St) (o0 : Nat) (ho0 : kd o0 = 10) {res : St × Int32} (hf : f_X10_bench_40  z o0 = some res) : Zj p l e (rm_X10_bench) s m args below meth c g A 2 (0, 0) (QI g A below args s res) z 40 [(0, .ref (g.1 o0))] [] := by
  unfold f_X10_bench_40 at hf
  refine z_aload_n C dX10_bench_40 rfl 0 rfl ?_
  refine gf_X10_80 C dX10_bench_41 ho0 ?_
  refine gf_X10_295 C dX10_bench_44 (rt_10_12 _ (kd_lt ho0 (by decide)) ho0) ?_
  cases hf
  exact z_iret C hr hk dX10_bench_47
def f_X10_bench_48  (z : St) (o0 : Nat) : Option (St × Int32) :=
  some (z, z.1 (rf o0 12) 5)
theorem b_X10_bench_48 {p : Program} {l : Launch} {e : Env} {s : State} {m : MethodId} {args : Array Value} {below : List Frame} {meth : Method} {c : Code} {g : Ga} {A : Nat → Prop} (C : Cx l g A p s m args c cX10_bench 2 RX10 (rm_X10_bench) (0, 0)) (hr : meth.sig.returnType = (some .int)) (hk : meth.locks = false)   (z : St) (o0 : Nat) (ho0 : kd o0 = 10) {res : St × Int32} (hf : f_X10_bench_48  z o0 = some res) : Zj p l e (rm_X10_bench) s m args below meth c g A 2 (0, 0) (QI g A below args s res) z 48 [(0, .ref (g.1 o0))] [] := by
  unfold f_X10_bench_48 at hf
  refine z_aload_n C dX10_bench_48 rfl 0 rfl ?_
  refine gf_X10_80 C dX10_bench_49 ho0 ?_
  refine gf_X10_298 C dX10_bench_52 (rt_10_12 _ (kd_lt ho0 (by decide)) ho0) ?_
  cases hf
  exact z_iret C hr hk dX10_bench_55
def f_X10_bench_56  (z : St) (o0 : Nat) : Option (St × Int32) :=
  some (z, z.1 (rf o0 12) 6)
theorem b_X10_bench_56 {p : Program} {l : Launch} {e : Env} {s : State} {m : MethodId} {args : Array Value} {below : List Frame} {meth : Method} {c : Code} {g : Ga} {A : Nat → Prop} (C : Cx l g A p s m args c cX10_bench 2 RX10 (rm_X10_bench) (0, 0)) (hr : meth.sig.returnType = (some .int)) (hk : meth.locks = false)   (z : St) (o0 : Nat) (ho0 : kd o0 = 10) {res : St × Int32} (hf : f_X10_bench_56  z o0 = some res) : Zj p l e (rm_X10_bench) s m args below meth c g A 2 (0, 0) (QI g A below args s res) z 56 [(0, .ref (g.1 o0))] [] := by
  unfold f_X10_bench_56 at hf
  refine z_aload_n C dX10_bench_56 rfl 0 rfl ?_
  refine gf_X10_80 C dX10_bench_57 ho0 ?_
  refine gf_X10_301 C dX10_bench_60 (rt_10_12 _ (kd_lt ho0 (by decide)) ho0) ?_
  cases hf
  exact z_iret C hr hk dX10_bench_63
def f_X10_bench_64  (z : St)  : Option (St × Int32) :=
  some (z, (-2))
theorem b_X10_bench_64 {p : Program} {l : Launch} {e : Env} {s : State} {m : MethodId} {args : Array Value} {below : List Frame} {meth : Method} {c : Code} {g : Ga} {A : Nat → Prop} (C : Cx l g A p s m args c cX10_bench 2 RX10 (rm_X10_bench) (0, 0)) (hr : meth.sig.returnType = (some .int)) (hk : meth.locks = false)   (z : St)   {res : St × Int32} (hf : f_X10_bench_64  z  = some res) : Zj p l e (rm_X10_bench) s m args below meth c g A 2 (0, 0) (QI g A below args s res) z 64 [] [] := by
  unfold f_X10_bench_64 at hf
  refine z_bipush C dX10_bench_64 (v := (-2)) (by decide) ?_
  cases hf
  exact z_iret C hr hk dX10_bench_66
def f_X10_bench_0  (z : St) (o0 : Nat) (x1 : Int32) : Option (St × Int32) :=
  if x1 = 0 then f_X10_bench_32 z o0 else if x1 = 1 then f_X10_bench_40 z o0 else if x1 = 2 then f_X10_bench_48 z o0 else if x1 = 3 then f_X10_bench_56 z o0 else f_X10_bench_64 z
theorem b_X10_bench_0 {p : Program} {l : Launch} {e : Env} {s : State} {m : MethodId} {args : Array Value} {below : List Frame} {meth : Method} {c : Code} {g : Ga} {A : Nat → Prop} (C : Cx l g A p s m args c cX10_bench 2 RX10 (rm_X10_bench) (0, 0)) (hr : meth.sig.returnType = (some .int)) (hk : meth.locks = false)   (z : St) (o0 : Nat) (x1 : Int32) (ho0 : kd o0 = 10) {res : St × Int32} (hf : f_X10_bench_0  z o0 x1 = some res) : Zj p l e (rm_X10_bench) s m args below meth c g A 2 (0, 0) (QI g A below args s res) z 0 [(0, .ref (g.1 o0)), (1, .int x1)] [] := by
  unfold f_X10_bench_0 at hf
  refine z_iload_n C dX10_bench_0 rfl 1 rfl ?_
  by_cases h1 : x1 = 0
  · exact z_tblK C dX10_bench_1 (k := 0) h1 (by decide) (by decide) (off := 31) (by decide) (by decide) (z_sub [0] rfl (b_X10_bench_32 C hr hk z o0 ho0 (q_t hf h1)))
  replace hf := q_f hf h1
  by_cases h2 : x1 = 1
  · exact z_tblK C dX10_bench_1 (k := 1) h2 (by decide) (by decide) (off := 39) (by decide) (by decide) (z_sub [0] rfl (b_X10_bench_40 C hr hk z o0 ho0 (q_t hf h2)))
  replace hf := q_f hf h2
  by_cases h3 : x1 = 2
  · exact z_tblK C dX10_bench_1 (k := 2) h3 (by decide) (by decide) (off := 47) (by decide) (by decide) (z_sub [0] rfl (b_X10_bench_48 C hr hk z o0 ho0 (q_t hf h3)))
  replace hf := q_f hf h3
  by_cases h4 : x1 = 3
  · exact z_tblK C dX10_bench_1 (k := 3) h4 (by decide) (by decide) (off := 55) (by decide) (by decide) (z_sub [0] rfl (b_X10_bench_56 C hr hk z o0 ho0 (q_t hf h4)))
  replace hf := q_f hf h4
  exact z_tblOut C dX10_bench_1 (tbl_out (lo := 0) (hi := 3) (fun k q1 q2 => by
    rcases (show k = 0 ∨ k = 1 ∨ k = 2 ∨ k = 3 by omega) with rfl | rfl | rfl | rfl
    · exact fun e => h1 (e.symm.trans (by decide))
    · exact fun e => h2 (e.symm.trans (by decide))
    · exact fun e => h3 (e.symm.trans (by decide))
    · exact fun e => h4 (e.symm.trans (by decide)))) (by decide) (z_sub [] rfl (b_X10_bench_64 C hr hk z hf))
def f_X10_bench (z : St) (o0 : Nat) (x1 : Int32) : Option (St × Int32) := f_X10_bench_0 z o0 x1
theorem c_X10_bench {l : Launch} {g : Ga} {A : Nat → Prop} {z : St} {o0 : Nat} {x1 : Int32} (ho0 : kd o0 = 10) {res : St × Int32} (hf : f_X10_bench z o0 x1 = some res) : CI l g A yX10_bench cX10_bench 2 (some .int) rm_X10_bench [.ref (g.1 o0), .int x1] z res :=
  e_CI (by decide) (Nat.le_of_ble_eq_true rfl) rfl (fun p e s m args below meth c C hr hk => z_sub [0, 1] rfl (b_X10_bench_0 C hr hk z o0 x1 ho0 hf))
abbrev rm_X10_began : Room := { frames := 1, cells := 0, slots := 0, locals := 21 }
def f_X10_began_11  (z : St)  : Option (St × Int32) :=
  some (z, (-2))
theorem b_X10_began_11 {p : Program} {l : Launch} {e : Env} {s : State} {m : MethodId} {args : Array Value} {below : List Frame} {meth : Method} {c : Code} {g : Ga} {A : Nat → Prop} (C : Cx l g A p s m args c cX10_began 2 RX10 (rm_X10_began) (0, 0)) (hr : meth.sig.returnType = (some .int)) (hk : meth.locks = false)   (z : St)   {res : St × Int32} (hf : f_X10_began_11  z  = some res) : Zj p l e (rm_X10_began) s m args below meth c g A 2 (0, 0) (QI g A below args s res) z 11 [] [] := by
  unfold f_X10_began_11 at hf
  refine z_bipush C dX10_began_11 (v := (-2)) (by decide) ?_
  cases hf
  exact z_iret C hr hk dX10_began_13
def f_X10_began_14  (z : St) (o0 : Nat) (x1 : Int32) : Option (St × Int32) :=
  ((f_X9_hourOf z (rf o0 12) x1).bind fun r1 => some (r1.1, r1.2))
theorem b_X10_began_14 {p : Program} {l : Launch} {e : Env} {s : State} {m : MethodId} {args : Array Value} {below : List Frame} {meth : Method} {c : Code} {g : Ga} {A : Nat → Prop} (C : Cx l g A p s m args c cX10_began 2 RX10 (rm_X10_began) (0, 0)) (hr : meth.sig.returnType = (some .int)) (hk : meth.locks = false)   (z : St) (o0 : Nat) (x1 : Int32) (ho0 : kd o0 = 10) {res : St × Int32} (hf : f_X10_began_14  z o0 x1 = some res) : Zj p l e (rm_X10_began) s m args below meth c g A 2 (0, 0) (QI g A below args s res) z 14 [(0, .ref (g.1 o0)), (1, .int x1)] [] := by
  unfold f_X10_began_14 at hf
  refine z_aload_n C dX10_began_14 rfl 0 rfl ?_
  refine gf_X10_80 C dX10_began_15 ho0 ?_
  refine z_iload_n C dX10_began_18 rfl 1 rfl ?_
  obtain ⟨r1, hc2, hf⟩ := q_bd hf
  refine z_cVi C (st := []) (c_X9_hourOf (rt_10_12 _ (kd_lt ho0 (by decide)) ho0) hc2) mw_X9_hourOf ml_X10_302 (rt_10_12 _ (kd_lt ho0 (by decide)) ho0) (by decide) rfl dX10_began_19 rfl rfl rfl ⟨Nat.le_of_ble_eq_true rfl, Nat.le_of_ble_eq_true rfl⟩ rfl (Nat.le_of_ble_eq_true rfl) ?_
  cases hf
  exact z_iret C hr hk dX10_began_22
def f_X10_began_0  (z : St) (o0 : Nat) (x1 : Int32) : Option (St × Int32) :=
  ((f_X2_holds z (rf o0 0) x1).bind fun r1 => if r1.2 = 0 then f_X10_began_11 r1.1 else f_X10_began_14 r1.1 o0 x1)
theorem b_X10_began_0 {p : Program} {l : Launch} {e : Env} {s : State} {m : MethodId} {args : Array Value} {below : List Frame} {meth : Method} {c : Code} {g : Ga} {A : Nat → Prop} (C : Cx l g A p s m args c cX10_began 2 RX10 (rm_X10_began) (0, 0)) (hr : meth.sig.returnType = (some .int)) (hk : meth.locks = false)   (z : St) (o0 : Nat) (x1 : Int32) (ho0 : kd o0 = 10) {res : St × Int32} (hf : f_X10_began_0  z o0 x1 = some res) : Zj p l e (rm_X10_began) s m args below meth c g A 2 (0, 0) (QI g A below args s res) z 0 [(0, .ref (g.1 o0)), (1, .int x1)] [] := by
  unfold f_X10_began_0 at hf
  refine z_aload_n C dX10_began_0 rfl 0 rfl ?_
  refine gf_X10_10 C dX10_began_1 ho0 ?_
  refine z_iload_n C dX10_began_4 rfl 1 rfl ?_
  obtain ⟨r1, hc2, hf⟩ := q_bd hf
  refine z_cVi C (st := []) (c_X2_holds (rt_10_0 _ (kd_lt ho0 (by decide)) ho0) hc2) mw_X2_holds ml_X10_129 (rt_10_0 _ (kd_lt ho0 (by decide)) ho0) (by decide) rfl dX10_began_5 rfl rfl rfl ⟨Nat.le_of_ble_eq_true rfl, Nat.le_of_ble_eq_true rfl⟩ rfl (Nat.le_of_ble_eq_true rfl) ?_
  exact z_if_ne C dX10_began_8 (by decide) (fun h => z_sub [0, 1] rfl (b_X10_began_14 C hr hk r1.1 o0 x1 ho0 (q_f hf h))) (fun h => z_sub [] rfl (b_X10_began_11 C hr hk r1.1 (q_t hf h)))
def f_X10_began (z : St) (o0 : Nat) (x1 : Int32) : Option (St × Int32) := f_X10_began_0 z o0 x1
theorem c_X10_began {l : Launch} {g : Ga} {A : Nat → Prop} {z : St} {o0 : Nat} {x1 : Int32} (ho0 : kd o0 = 10) {res : St × Int32} (hf : f_X10_began z o0 x1 = some res) : CI l g A yX10_began cX10_began 2 (some .int) rm_X10_began [.ref (g.1 o0), .int x1] z res :=
  e_CI (by decide) (Nat.le_of_ble_eq_true rfl) rfl (fun p e s m args below meth c C hr hk => z_sub [0, 1] rfl (b_X10_began_0 C hr hk z o0 x1 ho0 hf))
abbrev rm_X10_image : Room := { frames := 5, cells := 0, slots := 0, locals := 112 }
def f_X10_image_0  (z : St) (o0 : Nat) : Option (St × Int32) :=
  ((f_X2_becomeAs z (rf o0 1) (rf o0 0)).bind fun r1 => some (zI r1 o0 14 1, (zI r1 o0 14 1).1 (rf o0 1) 1))
theorem b_X10_image_0 {p : Program} {l : Launch} {e : Env} {s : State} {m : MethodId} {args : Array Value} {below : List Frame} {meth : Method} {c : Code} {g : Ga} {A : Nat → Prop} (C : Cx l g A p s m args c cX10_image 1 RX10 (rm_X10_image) (0, 0)) (hr : meth.sig.returnType = (some .int)) (hk : meth.locks = false)   (z : St) (o0 : Nat) (ho0 : kd o0 = 10) {res : St × Int32} (hf : f_X10_image_0  z o0 = some res) : Zj p l e (rm_X10_image) s m args below meth c g A 1 (0, 0) (QI g A below args s res) z 0 [(0, .ref (g.1 o0))] [] := by
  unfold f_X10_image_0 at hf
  refine z_aload_n C dX10_image_0 rfl 0 rfl ?_
  refine gf_X10_16 C dX10_image_1 ho0 ?_
  refine z_aload_n C dX10_image_4 rfl 0 rfl ?_
  refine gf_X10_10 C dX10_image_5 ho0 ?_
  obtain ⟨r1, hc2, hf⟩ := q_bd hf
  refine z_cVv C (st := []) (c_X2_becomeAs (rt_10_1 _ (kd_lt ho0 (by decide)) ho0) (rt_10_0 _ (kd_lt ho0 (by decide)) ho0) hc2) mw_X2_becomeAs ml_X10_305 (rt_10_1 _ (kd_lt ho0 (by decide)) ho0) (by decide) rfl dX10_image_8 rfl rfl rfl ⟨Nat.le_of_ble_eq_true rfl, Nat.le_of_ble_eq_true rfl⟩ rfl (Nat.le_of_ble_eq_true rfl) ?_
  refine z_aload_n C dX10_image_11 rfl 0 rfl ?_
  refine z_iconst C dX10_image_12 (v := 1) (by decide) ?_
  refine pf_X10_307 C dX10_image_13 ho0 rfl rfl ?_
  refine z_aload_n C dX10_image_16 rfl 0 rfl ?_
  refine gf_X10_16 C dX10_image_17 ho0 ?_
  refine gf_X10_113 C dX10_image_20 (rt_10_1 _ (kd_lt ho0 (by decide)) ho0) ?_
  cases hf
  exact z_iret C hr hk dX10_image_23
def f_X10_image (z : St) (o0 : Nat) : Option (St × Int32) := f_X10_image_0 z o0
theorem c_X10_image {l : Launch} {g : Ga} {A : Nat → Prop} {z : St} {o0 : Nat} (ho0 : kd o0 = 10) {res : St × Int32} (hf : f_X10_image z o0 = some res) : CI l g A yX10_image cX10_image 1 (some .int) rm_X10_image [.ref (g.1 o0)] z res :=
  e_CI (by decide) (Nat.le_of_ble_eq_true rfl) rfl (fun p e s m args below meth c C hr hk => z_sub [0] rfl (b_X10_image_0 C hr hk z o0 ho0 hf))
abbrev rm_X10_back : Room := { frames := 6, cells := 0, slots := 0, locals := 132 }
def f_X10_back_7  (z : St)  : Option (St × Int32) :=
  some (z, (-3))
theorem b_X10_back_7 {p : Program} {l : Launch} {e : Env} {s : State} {m : MethodId} {args : Array Value} {below : List Frame} {meth : Method} {c : Code} {g : Ga} {A : Nat → Prop} (C : Cx l g A p s m args c cX10_back 1 RX10 (rm_X10_back) (0, 0)) (hr : meth.sig.returnType = (some .int)) (hk : meth.locks = false)   (z : St)   {res : St × Int32} (hf : f_X10_back_7  z  = some res) : Zj p l e (rm_X10_back) s m args below meth c g A 1 (0, 0) (QI g A below args s res) z 7 [] [] := by
  unfold f_X10_back_7 at hf
  refine z_bipush C dX10_back_7 (v := (-3)) (by decide) ?_
  cases hf
  exact z_iret C hr hk dX10_back_9
def f_X10_back_10  (z : St) (o0 : Nat) : Option (St × Int32) :=
  ((f_X2_becomeAs z (rf o0 0) (rf o0 1)).bind fun r1 => ((f_X10_tellAnew r1 o0).bind fun r3 => some (r3, r3.1 (rf o0 0) 1)))
theorem b_X10_back_10 {p : Program} {l : Launch} {e : Env} {s : State} {m : MethodId} {args : Array Value} {below : List Frame} {meth : Method} {c : Code} {g : Ga} {A : Nat → Prop} (C : Cx l g A p s m args c cX10_back 1 RX10 (rm_X10_back) (0, 0)) (hr : meth.sig.returnType = (some .int)) (hk : meth.locks = false)   (z : St) (o0 : Nat) (ho0 : kd o0 = 10) {res : St × Int32} (hf : f_X10_back_10  z o0 = some res) : Zj p l e (rm_X10_back) s m args below meth c g A 1 (0, 0) (QI g A below args s res) z 10 [(0, .ref (g.1 o0))] [] := by
  unfold f_X10_back_10 at hf
  refine z_aload_n C dX10_back_10 rfl 0 rfl ?_
  refine gf_X10_10 C dX10_back_11 ho0 ?_
  refine z_aload_n C dX10_back_14 rfl 0 rfl ?_
  refine gf_X10_16 C dX10_back_15 ho0 ?_
  obtain ⟨r1, hc2, hf⟩ := q_bd hf
  refine z_cVv C (st := []) (c_X2_becomeAs (rt_10_0 _ (kd_lt ho0 (by decide)) ho0) (rt_10_1 _ (kd_lt ho0 (by decide)) ho0) hc2) mw_X2_becomeAs ml_X10_305 (rt_10_0 _ (kd_lt ho0 (by decide)) ho0) (by decide) rfl dX10_back_18 rfl rfl rfl ⟨Nat.le_of_ble_eq_true rfl, Nat.le_of_ble_eq_true rfl⟩ rfl (Nat.le_of_ble_eq_true rfl) ?_
  refine z_aload_n C dX10_back_21 rfl 0 rfl ?_
  obtain ⟨r3, hc4, hf⟩ := q_bd hf
  refine z_cVv C (st := []) (c_X10_tellAnew ho0 hc4) mw_X10_tellAnew ml_X10_119 ho0 (by decide) rfl dX10_back_22 rfl rfl rfl ⟨Nat.le_of_ble_eq_true rfl, Nat.le_of_ble_eq_true rfl⟩ rfl (Nat.le_of_ble_eq_true rfl) ?_
  refine z_aload_n C dX10_back_25 rfl 0 rfl ?_
  refine gf_X10_10 C dX10_back_26 ho0 ?_
  refine gf_X10_113 C dX10_back_29 (rt_10_0 _ (kd_lt ho0 (by decide)) ho0) ?_
  cases hf
  exact z_iret C hr hk dX10_back_32
def f_X10_back_0  (z : St) (o0 : Nat) : Option (St × Int32) :=
  if (z.1 o0 14) = 0 then f_X10_back_7 z else f_X10_back_10 z o0
theorem b_X10_back_0 {p : Program} {l : Launch} {e : Env} {s : State} {m : MethodId} {args : Array Value} {below : List Frame} {meth : Method} {c : Code} {g : Ga} {A : Nat → Prop} (C : Cx l g A p s m args c cX10_back 1 RX10 (rm_X10_back) (0, 0)) (hr : meth.sig.returnType = (some .int)) (hk : meth.locks = false)   (z : St) (o0 : Nat) (ho0 : kd o0 = 10) {res : St × Int32} (hf : f_X10_back_0  z o0 = some res) : Zj p l e (rm_X10_back) s m args below meth c g A 1 (0, 0) (QI g A below args s res) z 0 [(0, .ref (g.1 o0))] [] := by
  unfold f_X10_back_0 at hf
  refine z_aload_n C dX10_back_0 rfl 0 rfl ?_
  refine gf_X10_307 C dX10_back_1 ho0 ?_
  exact z_if_ne C dX10_back_4 (by decide) (fun h => z_sub [0] rfl (b_X10_back_10 C hr hk z o0 ho0 (q_f hf h))) (fun h => z_sub [] rfl (b_X10_back_7 C hr hk z (q_t hf h)))
def f_X10_back (z : St) (o0 : Nat) : Option (St × Int32) := f_X10_back_0 z o0
theorem c_X10_back {l : Launch} {g : Ga} {A : Nat → Prop} {z : St} {o0 : Nat} (ho0 : kd o0 = 10) {res : St × Int32} (hf : f_X10_back z o0 = some res) : CI l g A yX10_back cX10_back 1 (some .int) rm_X10_back [.ref (g.1 o0)] z res :=
  e_CI (by decide) (Nat.le_of_ble_eq_true rfl) rfl (fun p e s m args below meth c C hr hk => z_sub [0] rfl (b_X10_back_0 C hr hk z o0 ho0 hf))
abbrev rm_X10_count : Room := { frames := 2, cells := 0, slots := 0, locals := 43 }
def f_X10_count_28  (z : St) (o0 : Nat) : Option (St × Int32) :=
  some (z, z.1 (rf o0 0) 1)
theorem b_X10_count_28 {p : Program} {l : Launch} {e : Env} {s : State} {m : MethodId} {args : Array Value} {below : List Frame} {meth : Method} {c : Code} {g : Ga} {A : Nat → Prop} (C : Cx l g A p s m args c cX10_count 2 RX10 (rm_X10_count) (0, 0)) (hr : meth.sig.returnType = (some .int)) (hk : meth.locks = false)   (z : St) (o0 : Nat) (ho0 : kd o0 = 10) {res : St × Int32} (hf : f_X10_count_28  z o0 = some res) : Zj p l e (rm_X10_count) s m args below meth c g A 2 (0, 0) (QI g A below args s res) z 28 [(0, .ref (g.1 o0))] [] := by
  unfold f_X10_count_28 at hf
  refine z_aload_n C dX10_count_28 rfl 0 rfl ?_
  refine gf_X10_10 C dX10_count_29 ho0 ?_
  refine gf_X10_113 C dX10_count_32 (rt_10_0 _ (kd_lt ho0 (by decide)) ho0) ?_
  cases hf
  exact z_iret C hr hk dX10_count_35
def f_X10_count_36  (z : St) (o0 : Nat) : Option (St × Int32) :=
  ((f_X4_takesOfAll z (rf o0 4)).bind fun r1 => some (r1.1, r1.2))
theorem b_X10_count_36 {p : Program} {l : Launch} {e : Env} {s : State} {m : MethodId} {args : Array Value} {below : List Frame} {meth : Method} {c : Code} {g : Ga} {A : Nat → Prop} (C : Cx l g A p s m args c cX10_count 2 RX10 (rm_X10_count) (0, 0)) (hr : meth.sig.returnType = (some .int)) (hk : meth.locks = false)   (z : St) (o0 : Nat) (ho0 : kd o0 = 10) {res : St × Int32} (hf : f_X10_count_36  z o0 = some res) : Zj p l e (rm_X10_count) s m args below meth c g A 2 (0, 0) (QI g A below args s res) z 36 [(0, .ref (g.1 o0))] [] := by
  unfold f_X10_count_36 at hf
  refine z_aload_n C dX10_count_36 rfl 0 rfl ?_
  refine gf_X10_32 C dX10_count_37 ho0 ?_
  obtain ⟨r1, hc2, hf⟩ := q_bd hf
  refine z_cVi C (st := []) (c_X4_takesOfAll (rt_10_4 _ (kd_lt ho0 (by decide)) ho0) hc2) mw_X4_takesOfAll ml_X10_311 (rt_10_4 _ (kd_lt ho0 (by decide)) ho0) (by decide) rfl dX10_count_40 rfl rfl rfl ⟨Nat.le_of_ble_eq_true rfl, Nat.le_of_ble_eq_true rfl⟩ rfl (Nat.le_of_ble_eq_true rfl) ?_
  cases hf
  exact z_iret C hr hk dX10_count_43
def f_X10_count_44  (z : St) (o0 : Nat) : Option (St × Int32) :=
  some (z, z.1 (rf o0 3) 1)
theorem b_X10_count_44 {p : Program} {l : Launch} {e : Env} {s : State} {m : MethodId} {args : Array Value} {below : List Frame} {meth : Method} {c : Code} {g : Ga} {A : Nat → Prop} (C : Cx l g A p s m args c cX10_count 2 RX10 (rm_X10_count) (0, 0)) (hr : meth.sig.returnType = (some .int)) (hk : meth.locks = false)   (z : St) (o0 : Nat) (ho0 : kd o0 = 10) {res : St × Int32} (hf : f_X10_count_44  z o0 = some res) : Zj p l e (rm_X10_count) s m args below meth c g A 2 (0, 0) (QI g A below args s res) z 44 [(0, .ref (g.1 o0))] [] := by
  unfold f_X10_count_44 at hf
  refine z_aload_n C dX10_count_44 rfl 0 rfl ?_
  refine gf_X10_25 C dX10_count_45 ho0 ?_
  refine gf_X10_102 C dX10_count_48 (rt_10_3 _ (kd_lt ho0 (by decide)) ho0) ?_
  cases hf
  exact z_iret C hr hk dX10_count_51
def f_X10_count_52  (z : St)  : Option (St × Int32) :=
  some (z, (-2))
theorem b_X10_count_52 {p : Program} {l : Launch} {e : Env} {s : State} {m : MethodId} {args : Array Value} {below : List Frame} {meth : Method} {c : Code} {g : Ga} {A : Nat → Prop} (C : Cx l g A p s m args c cX10_count 2 RX10 (rm_X10_count) (0, 0)) (hr : meth.sig.returnType = (some .int)) (hk : meth.locks = false)   (z : St)   {res : St × Int32} (hf : f_X10_count_52  z  = some res) : Zj p l e (rm_X10_count) s m args below meth c g A 2 (0, 0) (QI g A below args s res) z 52 [] [] := by
  unfold f_X10_count_52 at hf
  refine z_bipush C dX10_count_52 (v := (-2)) (by decide) ?_
  cases hf
  exact z_iret C hr hk dX10_count_54
def f_X10_count_0  (z : St) (o0 : Nat) (x1 : Int32) : Option (St × Int32) :=
  if x1 = 0 then f_X10_count_28 z o0 else if x1 = 1 then f_X10_count_36 z o0 else if x1 = 2 then f_X10_count_44 z o0 else f_X10_count_52 z
theorem b_X10_count_0 {p : Program} {l : Launch} {e : Env} {s : State} {m : MethodId} {args : Array Value} {below : List Frame} {meth : Method} {c : Code} {g : Ga} {A : Nat → Prop} (C : Cx l g A p s m args c cX10_count 2 RX10 (rm_X10_count) (0, 0)) (hr : meth.sig.returnType = (some .int)) (hk : meth.locks = false)   (z : St) (o0 : Nat) (x1 : Int32) (ho0 : kd o0 = 10) {res : St × Int32} (hf : f_X10_count_0  z o0 x1 = some res) : Zj p l e (rm_X10_count) s m args below meth c g A 2 (0, 0) (QI g A below args s res) z 0 [(0, .ref (g.1 o0)), (1, .int x1)] [] := by
  unfold f_X10_count_0 at hf
  refine z_iload_n C dX10_count_0 rfl 1 rfl ?_
  by_cases h1 : x1 = 0
  · exact z_tblK C dX10_count_1 (k := 0) h1 (by decide) (by decide) (off := 27) (by decide) (by decide) (z_sub [0] rfl (b_X10_count_28 C hr hk z o0 ho0 (q_t hf h1)))
  replace hf := q_f hf h1
  by_cases h2 : x1 = 1
  · exact z_tblK C dX10_count_1 (k := 1) h2 (by decide) (by decide) (off := 35) (by decide) (by decide) (z_sub [0] rfl (b_X10_count_36 C hr hk z o0 ho0 (q_t hf h2)))
  replace hf := q_f hf h2
  by_cases h3 : x1 = 2
  · exact z_tblK C dX10_count_1 (k := 2) h3 (by decide) (by decide) (off := 43) (by decide) (by decide) (z_sub [0] rfl (b_X10_count_44 C hr hk z o0 ho0 (q_t hf h3)))
  replace hf := q_f hf h3
  exact z_tblOut C dX10_count_1 (tbl_out (lo := 0) (hi := 2) (fun k q1 q2 => by
    rcases (show k = 0 ∨ k = 1 ∨ k = 2 by omega) with rfl | rfl | rfl
    · exact fun e => h1 (e.symm.trans (by decide))
    · exact fun e => h2 (e.symm.trans (by decide))
    · exact fun e => h3 (e.symm.trans (by decide)))) (by decide) (z_sub [] rfl (b_X10_count_52 C hr hk z hf))
def f_X10_count (z : St) (o0 : Nat) (x1 : Int32) : Option (St × Int32) := f_X10_count_0 z o0 x1
theorem c_X10_count {l : Launch} {g : Ga} {A : Nat → Prop} {z : St} {o0 : Nat} {x1 : Int32} (ho0 : kd o0 = 10) {res : St × Int32} (hf : f_X10_count z o0 x1 = some res) : CI l g A yX10_count cX10_count 2 (some .int) rm_X10_count [.ref (g.1 o0), .int x1] z res :=
  e_CI (by decide) (Nat.le_of_ble_eq_true rfl) rfl (fun p e s m args below meth c C hr hk => z_sub [0, 1] rfl (b_X10_count_0 C hr hk z o0 x1 ho0 hf))
abbrev rm_X10_sheet : Room := { frames := 2, cells := 0, slots := 0, locals := 46 }
def f_X10_sheet_18  (z : St)  : Option (St × Int32) :=
  some (z, (-2))
theorem b_X10_sheet_18 {p : Program} {l : Launch} {e : Env} {s : State} {m : MethodId} {args : Array Value} {below : List Frame} {meth : Method} {c : Code} {g : Ga} {A : Nat → Prop} (C : Cx l g A p s m args c cX10_sheet 4 RX10 (rm_X10_sheet) (0, 0)) (hr : meth.sig.returnType = (some .int)) (hk : meth.locks = false)   (z : St)   {res : St × Int32} (hf : f_X10_sheet_18  z  = some res) : Zj p l e (rm_X10_sheet) s m args below meth c g A 4 (0, 0) (QI g A below args s res) z 18 [] [] := by
  unfold f_X10_sheet_18 at hf
  refine z_bipush C dX10_sheet_18 (v := (-2)) (by decide) ?_
  cases hf
  exact z_iret C hr hk dX10_sheet_20
def f_X10_sheet_26  (z : St) (o0 : Nat) (x1 : Int32) : Option (St × Int32) :=
  if inb x1 4 = true then (((f_X7_become z (rf (rf o0 13) (Int32.toNatClampNeg x1)) ((-1)) 0).bind fun r2 => some (r2, 1))) else none
theorem b_X10_sheet_26 {p : Program} {l : Launch} {e : Env} {s : State} {m : MethodId} {args : Array Value} {below : List Frame} {meth : Method} {c : Code} {g : Ga} {A : Nat → Prop} (C : Cx l g A p s m args c cX10_sheet 4 RX10 (rm_X10_sheet) (0, 0)) (hr : meth.sig.returnType = (some .int)) (hk : meth.locks = false)   (z : St) (o0 : Nat) (x1 : Int32) (ho0 : kd o0 = 10) {res : St × Int32} (hf : f_X10_sheet_26  z o0 x1 = some res) : Zj p l e (rm_X10_sheet) s m args below meth c g A 4 (0, 0) (QI g A below args s res) z 26 [(0, .ref (g.1 o0)), (1, .int x1)] [] := by
  unfold f_X10_sheet_26 at hf
  refine z_aload_n C dX10_sheet_26 rfl 0 rfl ?_
  refine gf_X10_86 C dX10_sheet_27 ho0 ?_
  refine z_iload_n C dX10_sheet_30 rfl 1 rfl ?_
  obtain ⟨h1, hf⟩ := q_ck hf
  refine z_aldS C dX10_sheet_31 (rt_10_13 _ (kd_lt ho0 (by decide)) ho0) h1 ?_
  refine z_iconst C dX10_sheet_32 (v := (-1)) (by decide) ?_
  refine z_iconst C dX10_sheet_33 (v := 0) (by decide) ?_
  obtain ⟨r2, hc3, hf⟩ := q_bd hf
  refine z_cVv C (st := []) (c_X7_become (rt_50 _ (kd_lt (rt_10_13 _ (kd_lt ho0 (by decide)) ho0) (by decide)) (rt_10_13 _ (kd_lt ho0 (by decide)) ho0) _ (inb_lt h1)) hc3) mw_X7_become ml_X10_278 (rt_50 _ (kd_lt (rt_10_13 _ (kd_lt ho0 (by decide)) ho0) (by decide)) (rt_10_13 _ (kd_lt ho0 (by decide)) ho0) _ (inb_lt h1)) (by decide) rfl dX10_sheet_34 rfl rfl rfl ⟨Nat.le_of_ble_eq_true rfl, Nat.le_of_ble_eq_true rfl⟩ rfl (Nat.le_of_ble_eq_true rfl) ?_
  refine z_iconst C dX10_sheet_37 (v := 1) (by decide) ?_
  cases hf
  exact z_iret C hr hk dX10_sheet_38
def f_X10_sheet_45  (z : St)  : Option (St × Int32) :=
  some (z, (-2))
theorem b_X10_sheet_45 {p : Program} {l : Launch} {e : Env} {s : State} {m : MethodId} {args : Array Value} {below : List Frame} {meth : Method} {c : Code} {g : Ga} {A : Nat → Prop} (C : Cx l g A p s m args c cX10_sheet 4 RX10 (rm_X10_sheet) (0, 0)) (hr : meth.sig.returnType = (some .int)) (hk : meth.locks = false)   (z : St)   {res : St × Int32} (hf : f_X10_sheet_45  z  = some res) : Zj p l e (rm_X10_sheet) s m args below meth c g A 4 (0, 0) (QI g A below args s res) z 45 [] [] := by
  unfold f_X10_sheet_45 at hf
  refine z_bipush C dX10_sheet_45 (v := (-2)) (by decide) ?_
  cases hf
  exact z_iret C hr hk dX10_sheet_47
def f_X10_sheet_52  (z : St)  : Option (St × Int32) :=
  some (z, (-14))
theorem b_X10_sheet_52 {p : Program} {l : Launch} {e : Env} {s : State} {m : MethodId} {args : Array Value} {below : List Frame} {meth : Method} {c : Code} {g : Ga} {A : Nat → Prop} (C : Cx l g A p s m args c cX10_sheet 4 RX10 (rm_X10_sheet) (0, 0)) (hr : meth.sig.returnType = (some .int)) (hk : meth.locks = false)   (z : St)   {res : St × Int32} (hf : f_X10_sheet_52  z  = some res) : Zj p l e (rm_X10_sheet) s m args below meth c g A 4 (0, 0) (QI g A below args s res) z 52 [] [] := by
  unfold f_X10_sheet_52 at hf
  refine z_bipush C dX10_sheet_52 (v := (-14)) (by decide) ?_
  cases hf
  exact z_iret C hr hk dX10_sheet_54
def f_X10_sheet_55  (z : St) (o0 : Nat) (x1 : Int32) (x2 : Int32) (x3 : Int32) : Option (St × Int32) :=
  if inb x1 4 = true then (((f_X7_become z (rf (rf o0 13) (Int32.toNatClampNeg x1)) x2 x3).bind fun r2 => some (r2, 1))) else none
theorem b_X10_sheet_55 {p : Program} {l : Launch} {e : Env} {s : State} {m : MethodId} {args : Array Value} {below : List Frame} {meth : Method} {c : Code} {g : Ga} {A : Nat → Prop} (C : Cx l g A p s m args c cX10_sheet 4 RX10 (rm_X10_sheet) (0, 0)) (hr : meth.sig.returnType = (some .int)) (hk : meth.locks = false)   (z : St) (o0 : Nat) (x1 : Int32) (x2 : Int32) (x3 : Int32) (ho0 : kd o0 = 10) {res : St × Int32} (hf : f_X10_sheet_55  z o0 x1 x2 x3 = some res) : Zj p l e (rm_X10_sheet) s m args below meth c g A 4 (0, 0) (QI g A below args s res) z 55 [(0, .ref (g.1 o0)), (1, .int x1), (2, .int x2), (3, .int x3)] [] := by
  unfold f_X10_sheet_55 at hf
  refine z_aload_n C dX10_sheet_55 rfl 0 rfl ?_
  refine gf_X10_86 C dX10_sheet_56 ho0 ?_
  refine z_iload_n C dX10_sheet_59 rfl 1 rfl ?_
  obtain ⟨h1, hf⟩ := q_ck hf
  refine z_aldS C dX10_sheet_60 (rt_10_13 _ (kd_lt ho0 (by decide)) ho0) h1 ?_
  refine z_iload_n C dX10_sheet_61 rfl 2 rfl ?_
  refine z_iload_n C dX10_sheet_62 rfl 3 rfl ?_
  obtain ⟨r2, hc3, hf⟩ := q_bd hf
  refine z_cVv C (st := []) (c_X7_become (rt_50 _ (kd_lt (rt_10_13 _ (kd_lt ho0 (by decide)) ho0) (by decide)) (rt_10_13 _ (kd_lt ho0 (by decide)) ho0) _ (inb_lt h1)) hc3) mw_X7_become ml_X10_278 (rt_50 _ (kd_lt (rt_10_13 _ (kd_lt ho0 (by decide)) ho0) (by decide)) (rt_10_13 _ (kd_lt ho0 (by decide)) ho0) _ (inb_lt h1)) (by decide) rfl dX10_sheet_63 rfl rfl rfl ⟨Nat.le_of_ble_eq_true rfl, Nat.le_of_ble_eq_true rfl⟩ rfl (Nat.le_of_ble_eq_true rfl) ?_
  refine z_iconst C dX10_sheet_66 (v := 1) (by decide) ?_
  cases hf
  exact z_iret C hr hk dX10_sheet_67
def f_X10_sheet_48  (z : St) (o0 : Nat) (x1 : Int32) (x2 : Int32) (x3 : Int32) : Option (St × Int32) :=
  if 0 ≤ x3 then f_X10_sheet_55 z o0 x1 x2 x3 else f_X10_sheet_52 z
theorem b_X10_sheet_48 {p : Program} {l : Launch} {e : Env} {s : State} {m : MethodId} {args : Array Value} {below : List Frame} {meth : Method} {c : Code} {g : Ga} {A : Nat → Prop} (C : Cx l g A p s m args c cX10_sheet 4 RX10 (rm_X10_sheet) (0, 0)) (hr : meth.sig.returnType = (some .int)) (hk : meth.locks = false)   (z : St) (o0 : Nat) (x1 : Int32) (x2 : Int32) (x3 : Int32) (ho0 : kd o0 = 10) {res : St × Int32} (hf : f_X10_sheet_48  z o0 x1 x2 x3 = some res) : Zj p l e (rm_X10_sheet) s m args below meth c g A 4 (0, 0) (QI g A below args s res) z 48 [(0, .ref (g.1 o0)), (1, .int x1), (2, .int x2), (3, .int x3)] [] := by
  unfold f_X10_sheet_48 at hf
  refine z_iload_n C dX10_sheet_48 rfl 3 rfl ?_
  exact z_if_ge C dX10_sheet_49 (by decide) (fun h => z_sub [0, 1, 2, 3] rfl (b_X10_sheet_55 C hr hk z o0 x1 x2 x3 ho0 (q_t hf h))) (fun h => z_sub [] rfl (b_X10_sheet_52 C hr hk z (q_f hf h)))
def f_X10_sheet_39  (z : St) (o0 : Nat) (x1 : Int32) (x2 : Int32) (x3 : Int32) : Option (St × Int32) :=
  if x3 ≤ 40 then f_X10_sheet_48 z o0 x1 x2 x3 else f_X10_sheet_45 z
theorem b_X10_sheet_39 {p : Program} {l : Launch} {e : Env} {s : State} {m : MethodId} {args : Array Value} {below : List Frame} {meth : Method} {c : Code} {g : Ga} {A : Nat → Prop} (C : Cx l g A p s m args c cX10_sheet 4 RX10 (rm_X10_sheet) (0, 0)) (hr : meth.sig.returnType = (some .int)) (hk : meth.locks = false)   (z : St) (o0 : Nat) (x1 : Int32) (x2 : Int32) (x3 : Int32) (ho0 : kd o0 = 10) {res : St × Int32} (hf : f_X10_sheet_39  z o0 x1 x2 x3 = some res) : Zj p l e (rm_X10_sheet) s m args below meth c g A 4 (0, 0) (QI g A below args s res) z 39 [(0, .ref (g.1 o0)), (1, .int x1), (2, .int x2), (3, .int x3)] [] := by
  unfold f_X10_sheet_39 at hf
  refine z_iload_n C dX10_sheet_39 rfl 3 rfl ?_
  refine z_bipush C dX10_sheet_40 (v := 40) (by decide) ?_
  exact z_icmp_le C dX10_sheet_42 (by decide) (fun h => z_sub [0, 1, 2, 3] rfl (b_X10_sheet_48 C hr hk z o0 x1 x2 x3 ho0 (q_t hf h))) (fun h => z_sub [] rfl (b_X10_sheet_45 C hr hk z (q_f hf h)))
def f_X10_sheet_21  (z : St) (o0 : Nat) (x1 : Int32) (x2 : Int32) (x3 : Int32) : Option (St × Int32) :=
  if x2 = ((-1)) then f_X10_sheet_26 z o0 x1 else f_X10_sheet_39 z o0 x1 x2 x3
theorem b_X10_sheet_21 {p : Program} {l : Launch} {e : Env} {s : State} {m : MethodId} {args : Array Value} {below : List Frame} {meth : Method} {c : Code} {g : Ga} {A : Nat → Prop} (C : Cx l g A p s m args c cX10_sheet 4 RX10 (rm_X10_sheet) (0, 0)) (hr : meth.sig.returnType = (some .int)) (hk : meth.locks = false)   (z : St) (o0 : Nat) (x1 : Int32) (x2 : Int32) (x3 : Int32) (ho0 : kd o0 = 10) {res : St × Int32} (hf : f_X10_sheet_21  z o0 x1 x2 x3 = some res) : Zj p l e (rm_X10_sheet) s m args below meth c g A 4 (0, 0) (QI g A below args s res) z 21 [(0, .ref (g.1 o0)), (1, .int x1), (2, .int x2), (3, .int x3)] [] := by
  unfold f_X10_sheet_21 at hf
  refine z_iload_n C dX10_sheet_21 rfl 2 rfl ?_
  refine z_iconst C dX10_sheet_22 (v := (-1)) (by decide) ?_
  exact z_icmp_ne C dX10_sheet_23 (by decide) (fun h => z_sub [0, 1, 2, 3] rfl (b_X10_sheet_39 C hr hk z o0 x1 x2 x3 ho0 (q_f hf h))) (fun h => z_sub [0, 1] rfl (b_X10_sheet_26 C hr hk z o0 x1 ho0 (q_t hf h)))
def f_X10_sheet_13  (z : St) (o0 : Nat) (x1 : Int32) (x2 : Int32) (x3 : Int32) : Option (St × Int32) :=
  if x2 ≤ 1 then f_X10_sheet_21 z o0 x1 x2 x3 else f_X10_sheet_18 z
theorem b_X10_sheet_13 {p : Program} {l : Launch} {e : Env} {s : State} {m : MethodId} {args : Array Value} {below : List Frame} {meth : Method} {c : Code} {g : Ga} {A : Nat → Prop} (C : Cx l g A p s m args c cX10_sheet 4 RX10 (rm_X10_sheet) (0, 0)) (hr : meth.sig.returnType = (some .int)) (hk : meth.locks = false)   (z : St) (o0 : Nat) (x1 : Int32) (x2 : Int32) (x3 : Int32) (ho0 : kd o0 = 10) {res : St × Int32} (hf : f_X10_sheet_13  z o0 x1 x2 x3 = some res) : Zj p l e (rm_X10_sheet) s m args below meth c g A 4 (0, 0) (QI g A below args s res) z 13 [(0, .ref (g.1 o0)), (1, .int x1), (2, .int x2), (3, .int x3)] [] := by
  unfold f_X10_sheet_13 at hf
  refine z_iload_n C dX10_sheet_13 rfl 2 rfl ?_
  refine z_iconst C dX10_sheet_14 (v := 1) (by decide) ?_
  exact z_icmp_le C dX10_sheet_15 (by decide) (fun h => z_sub [0, 1, 2, 3] rfl (b_X10_sheet_21 C hr hk z o0 x1 x2 x3 ho0 (q_t hf h))) (fun h => z_sub [] rfl (b_X10_sheet_18 C hr hk z (q_f hf h)))
def f_X10_sheet_8  (z : St) (o0 : Nat) (x1 : Int32) (x2 : Int32) (x3 : Int32) : Option (St × Int32) :=
  if x2 < ((-1)) then f_X10_sheet_18 z else f_X10_sheet_13 z o0 x1 x2 x3
theorem b_X10_sheet_8 {p : Program} {l : Launch} {e : Env} {s : State} {m : MethodId} {args : Array Value} {below : List Frame} {meth : Method} {c : Code} {g : Ga} {A : Nat → Prop} (C : Cx l g A p s m args c cX10_sheet 4 RX10 (rm_X10_sheet) (0, 0)) (hr : meth.sig.returnType = (some .int)) (hk : meth.locks = false)   (z : St) (o0 : Nat) (x1 : Int32) (x2 : Int32) (x3 : Int32) (ho0 : kd o0 = 10) {res : St × Int32} (hf : f_X10_sheet_8  z o0 x1 x2 x3 = some res) : Zj p l e (rm_X10_sheet) s m args below meth c g A 4 (0, 0) (QI g A below args s res) z 8 [(0, .ref (g.1 o0)), (1, .int x1), (2, .int x2), (3, .int x3)] [] := by
  unfold f_X10_sheet_8 at hf
  refine z_iload_n C dX10_sheet_8 rfl 2 rfl ?_
  refine z_iconst C dX10_sheet_9 (v := (-1)) (by decide) ?_
  exact z_icmp_lt C dX10_sheet_10 (by decide) (fun h => z_sub [] rfl (b_X10_sheet_18 C hr hk z (q_t hf h))) (fun h => z_sub [0, 1, 2, 3] rfl (b_X10_sheet_13 C hr hk z o0 x1 x2 x3 ho0 (q_f hf h)))
def f_X10_sheet_0  (z : St) (o0 : Nat) (x1 : Int32) (x2 : Int32) (x3 : Int32) : Option (St × Int32) :=
  ((f_X10_isSheet z o0 x1).bind fun r1 => if r1.2 = 0 then f_X10_sheet_18 r1.1 else f_X10_sheet_8 r1.1 o0 x1 x2 x3)
theorem b_X10_sheet_0 {p : Program} {l : Launch} {e : Env} {s : State} {m : MethodId} {args : Array Value} {below : List Frame} {meth : Method} {c : Code} {g : Ga} {A : Nat → Prop} (C : Cx l g A p s m args c cX10_sheet 4 RX10 (rm_X10_sheet) (0, 0)) (hr : meth.sig.returnType = (some .int)) (hk : meth.locks = false)   (z : St) (o0 : Nat) (x1 : Int32) (x2 : Int32) (x3 : Int32) (ho0 : kd o0 = 10) {res : St × Int32} (hf : f_X10_sheet_0  z o0 x1 x2 x3 = some res) : Zj p l e (rm_X10_sheet) s m args below meth c g A 4 (0, 0) (QI g A below args s res) z 0 [(0, .ref (g.1 o0)), (1, .int x1), (2, .int x2), (3, .int x3)] [] := by
  unfold f_X10_sheet_0 at hf
  refine z_aload_n C dX10_sheet_0 rfl 0 rfl ?_
  refine z_iload_n C dX10_sheet_1 rfl 1 rfl ?_
  obtain ⟨r1, hc2, hf⟩ := q_bd hf
  refine z_cVi C (st := []) (c_X10_isSheet ho0 hc2) mw_X10_isSheet ml_X10_254 ho0 (by decide) rfl dX10_sheet_2 rfl rfl rfl ⟨Nat.le_of_ble_eq_true rfl, Nat.le_of_ble_eq_true rfl⟩ rfl (Nat.le_of_ble_eq_true rfl) ?_
  exact z_if_eq C dX10_sheet_5 (by decide) (fun h => z_sub [] rfl (b_X10_sheet_18 C hr hk r1.1 (q_t hf h))) (fun h => z_sub [0, 1, 2, 3] rfl (b_X10_sheet_8 C hr hk r1.1 o0 x1 x2 x3 ho0 (q_f hf h)))
def f_X10_sheet (z : St) (o0 : Nat) (x1 : Int32) (x2 : Int32) (x3 : Int32) : Option (St × Int32) := f_X10_sheet_0 z o0 x1 x2 x3
theorem c_X10_sheet {l : Launch} {g : Ga} {A : Nat → Prop} {z : St} {o0 : Nat} {x1 : Int32} {x2 : Int32} {x3 : Int32} (ho0 : kd o0 = 10) {res : St × Int32} (hf : f_X10_sheet z o0 x1 x2 x3 = some res) : CI l g A yX10_sheet cX10_sheet 4 (some .int) rm_X10_sheet [.ref (g.1 o0), .int x1, .int x2, .int x3] z res :=
  e_CI (by decide) (Nat.le_of_ble_eq_true rfl) rfl (fun p e s m args below meth c C hr hk => z_sub [0, 1, 2, 3] rfl (b_X10_sheet_0 C hr hk z o0 x1 x2 x3 ho0 hf))
abbrev rm_X10_put : Room := { frames := 2, cells := 0, slots := 0, locals := 44 }
def f_X10_put_8  (z : St)  : Option (St × Int32) :=
  some (z, (-2))
theorem b_X10_put_8 {p : Program} {l : Launch} {e : Env} {s : State} {m : MethodId} {args : Array Value} {below : List Frame} {meth : Method} {c : Code} {g : Ga} {A : Nat → Prop} (C : Cx l g A p s m args c cX10_put 5 RX10 (rm_X10_put) (0, 0)) (hr : meth.sig.returnType = (some .int)) (hk : meth.locks = false)   (z : St)   {res : St × Int32} (hf : f_X10_put_8  z  = some res) : Zj p l e (rm_X10_put) s m args below meth c g A 5 (0, 0) (QI g A below args s res) z 8 [] [] := by
  unfold f_X10_put_8 at hf
  refine z_bipush C dX10_put_8 (v := (-2)) (by decide) ?_
  cases hf
  exact z_iret C hr hk dX10_put_10
def f_X10_put_23  (z : St)  : Option (St × Int32) :=
  some (z, (-11))
theorem b_X10_put_23 {p : Program} {l : Launch} {e : Env} {s : State} {m : MethodId} {args : Array Value} {below : List Frame} {meth : Method} {c : Code} {g : Ga} {A : Nat → Prop} (C : Cx l g A p s m args c cX10_put 5 RX10 (rm_X10_put) (0, 0)) (hr : meth.sig.returnType = (some .int)) (hk : meth.locks = false)   (z : St)   {res : St × Int32} (hf : f_X10_put_23  z  = some res) : Zj p l e (rm_X10_put) s m args below meth c g A 5 (0, 0) (QI g A below args s res) z 23 [] [] := by
  unfold f_X10_put_23 at hf
  refine z_bipush C dX10_put_23 (v := (-11)) (by decide) ?_
  cases hf
  exact z_iret C hr hk dX10_put_25
def f_X10_put_39  (z : St)  : Option (St × Int32) :=
  some (z, (-12))
theorem b_X10_put_39 {p : Program} {l : Launch} {e : Env} {s : State} {m : MethodId} {args : Array Value} {below : List Frame} {meth : Method} {c : Code} {g : Ga} {A : Nat → Prop} (C : Cx l g A p s m args c cX10_put 5 RX10 (rm_X10_put) (0, 0)) (hr : meth.sig.returnType = (some .int)) (hk : meth.locks = false)   (z : St)   {res : St × Int32} (hf : f_X10_put_39  z  = some res) : Zj p l e (rm_X10_put) s m args below meth c g A 5 (0, 0) (QI g A below args s res) z 39 [] [] := by
  unfold f_X10_put_39 at hf
  refine z_bipush C dX10_put_39 (v := (-12)) (by decide) ?_
  cases hf
  exact z_iret C hr hk dX10_put_41
def f_X10_put_42  (z : St) (o0 : Nat) (x1 : Int32) (x2 : Int32) (y3 : Int64) : Option (St × Int32) :=
  if inb x1 4 = true then (((f_X7_write z (rf (rf o0 13) (Int32.toNatClampNeg x1)) x2 y3).bind fun r2 => some (r2, 1))) else none
theorem b_X10_put_42 {p : Program} {l : Launch} {e : Env} {s : State} {m : MethodId} {args : Array Value} {below : List Frame} {meth : Method} {c : Code} {g : Ga} {A : Nat → Prop} (C : Cx l g A p s m args c cX10_put 5 RX10 (rm_X10_put) (0, 0)) (hr : meth.sig.returnType = (some .int)) (hk : meth.locks = false)   (z : St) (o0 : Nat) (x1 : Int32) (x2 : Int32) (y3 : Int64) (ho0 : kd o0 = 10) {res : St × Int32} (hf : f_X10_put_42  z o0 x1 x2 y3 = some res) : Zj p l e (rm_X10_put) s m args below meth c g A 5 (0, 0) (QI g A below args s res) z 42 [(0, .ref (g.1 o0)), (1, .int x1), (2, .int x2), (3, .long y3)] [] := by
  unfold f_X10_put_42 at hf
  refine z_aload_n C dX10_put_42 rfl 0 rfl ?_
  refine gf_X10_86 C dX10_put_43 ho0 ?_
  refine z_iload_n C dX10_put_46 rfl 1 rfl ?_
  obtain ⟨h1, hf⟩ := q_ck hf
  refine z_aldS C dX10_put_47 (rt_10_13 _ (kd_lt ho0 (by decide)) ho0) h1 ?_
  refine z_iload_n C dX10_put_48 rfl 2 rfl ?_
  refine z_lload_n C dX10_put_49 rfl 3 rfl ?_
  obtain ⟨r2, hc3, hf⟩ := q_bd hf
  refine z_cVv C (st := []) (c_X7_write (rt_50 _ (kd_lt (rt_10_13 _ (kd_lt ho0 (by decide)) ho0) (by decide)) (rt_10_13 _ (kd_lt ho0 (by decide)) ho0) _ (inb_lt h1)) hc3) mw_X7_write ml_X10_282 (rt_50 _ (kd_lt (rt_10_13 _ (kd_lt ho0 (by decide)) ho0) (by decide)) (rt_10_13 _ (kd_lt ho0 (by decide)) ho0) _ (inb_lt h1)) (by decide) rfl dX10_put_50 rfl rfl rfl ⟨Nat.le_of_ble_eq_true rfl, Nat.le_of_ble_eq_true rfl⟩ rfl (Nat.le_of_ble_eq_true rfl) ?_
  refine z_iconst C dX10_put_53 (v := 1) (by decide) ?_
  cases hf
  exact z_iret C hr hk dX10_put_54
def f_X10_put_26  (z : St) (o0 : Nat) (x1 : Int32) (x2 : Int32) (y3 : Int64) : Option (St × Int32) :=
  if inb x1 4 = true then (((f_X7_holds z (rf (rf o0 13) (Int32.toNatClampNeg x1)) x2).bind fun r2 => if r2.2 = 0 then f_X10_put_39 r2.1 else f_X10_put_42 r2.1 o0 x1 x2 y3)) else none
theorem b_X10_put_26 {p : Program} {l : Launch} {e : Env} {s : State} {m : MethodId} {args : Array Value} {below : List Frame} {meth : Method} {c : Code} {g : Ga} {A : Nat → Prop} (C : Cx l g A p s m args c cX10_put 5 RX10 (rm_X10_put) (0, 0)) (hr : meth.sig.returnType = (some .int)) (hk : meth.locks = false)   (z : St) (o0 : Nat) (x1 : Int32) (x2 : Int32) (y3 : Int64) (ho0 : kd o0 = 10) {res : St × Int32} (hf : f_X10_put_26  z o0 x1 x2 y3 = some res) : Zj p l e (rm_X10_put) s m args below meth c g A 5 (0, 0) (QI g A below args s res) z 26 [(0, .ref (g.1 o0)), (1, .int x1), (2, .int x2), (3, .long y3)] [] := by
  unfold f_X10_put_26 at hf
  refine z_aload_n C dX10_put_26 rfl 0 rfl ?_
  refine gf_X10_86 C dX10_put_27 ho0 ?_
  refine z_iload_n C dX10_put_30 rfl 1 rfl ?_
  obtain ⟨h1, hf⟩ := q_ck hf
  refine z_aldS C dX10_put_31 (rt_10_13 _ (kd_lt ho0 (by decide)) ho0) h1 ?_
  refine z_iload_n C dX10_put_32 rfl 2 rfl ?_
  obtain ⟨r2, hc3, hf⟩ := q_bd hf
  refine z_cVi C (st := []) (c_X7_holds (rt_50 _ (kd_lt (rt_10_13 _ (kd_lt ho0 (by decide)) ho0) (by decide)) (rt_10_13 _ (kd_lt ho0 (by decide)) ho0) _ (inb_lt h1)) hc3) mw_X7_holds ml_X10_314 (rt_50 _ (kd_lt (rt_10_13 _ (kd_lt ho0 (by decide)) ho0) (by decide)) (rt_10_13 _ (kd_lt ho0 (by decide)) ho0) _ (inb_lt h1)) (by decide) rfl dX10_put_33 rfl rfl rfl ⟨Nat.le_of_ble_eq_true rfl, Nat.le_of_ble_eq_true rfl⟩ rfl (Nat.le_of_ble_eq_true rfl) ?_
  exact z_if_ne C dX10_put_36 (by decide) (fun h => z_sub [0, 1, 2, 3] rfl (b_X10_put_42 C hr hk r2.1 o0 x1 x2 y3 ho0 (q_f hf h))) (fun h => z_sub [] rfl (b_X10_put_39 C hr hk r2.1 (q_t hf h)))
def f_X10_put_11  (z : St) (o0 : Nat) (x1 : Int32) (x2 : Int32) (y3 : Int64) : Option (St × Int32) :=
  if inb x1 4 = true then (((f_X7_isMissing z (rf (rf o0 13) (Int32.toNatClampNeg x1))).bind fun r2 => if r2.2 = 0 then f_X10_put_26 r2.1 o0 x1 x2 y3 else f_X10_put_23 r2.1)) else none
theorem b_X10_put_11 {p : Program} {l : Launch} {e : Env} {s : State} {m : MethodId} {args : Array Value} {below : List Frame} {meth : Method} {c : Code} {g : Ga} {A : Nat → Prop} (C : Cx l g A p s m args c cX10_put 5 RX10 (rm_X10_put) (0, 0)) (hr : meth.sig.returnType = (some .int)) (hk : meth.locks = false)   (z : St) (o0 : Nat) (x1 : Int32) (x2 : Int32) (y3 : Int64) (ho0 : kd o0 = 10) {res : St × Int32} (hf : f_X10_put_11  z o0 x1 x2 y3 = some res) : Zj p l e (rm_X10_put) s m args below meth c g A 5 (0, 0) (QI g A below args s res) z 11 [(0, .ref (g.1 o0)), (1, .int x1), (2, .int x2), (3, .long y3)] [] := by
  unfold f_X10_put_11 at hf
  refine z_aload_n C dX10_put_11 rfl 0 rfl ?_
  refine gf_X10_86 C dX10_put_12 ho0 ?_
  refine z_iload_n C dX10_put_15 rfl 1 rfl ?_
  obtain ⟨h1, hf⟩ := q_ck hf
  refine z_aldS C dX10_put_16 (rt_10_13 _ (kd_lt ho0 (by decide)) ho0) h1 ?_
  obtain ⟨r2, hc3, hf⟩ := q_bd hf
  refine z_cVi C (st := []) (c_X7_isMissing (rt_50 _ (kd_lt (rt_10_13 _ (kd_lt ho0 (by decide)) ho0) (by decide)) (rt_10_13 _ (kd_lt ho0 (by decide)) ho0) _ (inb_lt h1)) hc3) mw_X7_isMissing ml_X10_259 (rt_50 _ (kd_lt (rt_10_13 _ (kd_lt ho0 (by decide)) ho0) (by decide)) (rt_10_13 _ (kd_lt ho0 (by decide)) ho0) _ (inb_lt h1)) (by decide) rfl dX10_put_17 rfl rfl rfl ⟨Nat.le_of_ble_eq_true rfl, Nat.le_of_ble_eq_true rfl⟩ rfl (Nat.le_of_ble_eq_true rfl) ?_
  exact z_if_eq C dX10_put_20 (by decide) (fun h => z_sub [0, 1, 2, 3] rfl (b_X10_put_26 C hr hk r2.1 o0 x1 x2 y3 ho0 (q_t hf h))) (fun h => z_sub [] rfl (b_X10_put_23 C hr hk r2.1 (q_f hf h)))
def f_X10_put_0  (z : St) (o0 : Nat) (x1 : Int32) (x2 : Int32) (y3 : Int64) : Option (St × Int32) :=
  ((f_X10_isSheet z o0 x1).bind fun r1 => if r1.2 = 0 then f_X10_put_8 r1.1 else f_X10_put_11 r1.1 o0 x1 x2 y3)
theorem b_X10_put_0 {p : Program} {l : Launch} {e : Env} {s : State} {m : MethodId} {args : Array Value} {below : List Frame} {meth : Method} {c : Code} {g : Ga} {A : Nat → Prop} (C : Cx l g A p s m args c cX10_put 5 RX10 (rm_X10_put) (0, 0)) (hr : meth.sig.returnType = (some .int)) (hk : meth.locks = false)   (z : St) (o0 : Nat) (x1 : Int32) (x2 : Int32) (y3 : Int64) (ho0 : kd o0 = 10) {res : St × Int32} (hf : f_X10_put_0  z o0 x1 x2 y3 = some res) : Zj p l e (rm_X10_put) s m args below meth c g A 5 (0, 0) (QI g A below args s res) z 0 [(0, .ref (g.1 o0)), (1, .int x1), (2, .int x2), (3, .long y3)] [] := by
  unfold f_X10_put_0 at hf
  refine z_aload_n C dX10_put_0 rfl 0 rfl ?_
  refine z_iload_n C dX10_put_1 rfl 1 rfl ?_
  obtain ⟨r1, hc2, hf⟩ := q_bd hf
  refine z_cVi C (st := []) (c_X10_isSheet ho0 hc2) mw_X10_isSheet ml_X10_254 ho0 (by decide) rfl dX10_put_2 rfl rfl rfl ⟨Nat.le_of_ble_eq_true rfl, Nat.le_of_ble_eq_true rfl⟩ rfl (Nat.le_of_ble_eq_true rfl) ?_
  exact z_if_ne C dX10_put_5 (by decide) (fun h => z_sub [0, 1, 2, 3] rfl (b_X10_put_11 C hr hk r1.1 o0 x1 x2 y3 ho0 (q_f hf h))) (fun h => z_sub [] rfl (b_X10_put_8 C hr hk r1.1 (q_t hf h)))
def f_X10_put (z : St) (o0 : Nat) (x1 : Int32) (x2 : Int32) (y3 : Int64) : Option (St × Int32) := f_X10_put_0 z o0 x1 x2 y3
theorem c_X10_put {l : Launch} {g : Ga} {A : Nat → Prop} {z : St} {o0 : Nat} {x1 : Int32} {x2 : Int32} {y3 : Int64} (ho0 : kd o0 = 10) {res : St × Int32} (hf : f_X10_put z o0 x1 x2 y3 = some res) : CI l g A yX10_put cX10_put 5 (some .int) rm_X10_put [.ref (g.1 o0), .int x1, .int x2, .long y3] z res :=
  e_CI (by decide) (Nat.le_of_ble_eq_true rfl) rfl (fun p e s m args below meth c C hr hk => z_sub [0, 1, 2, 3] rfl (b_X10_put_0 C hr hk z o0 x1 x2 y3 ho0 hf))
abbrev rm_X10_item : Room := { frames := 2, cells := 0, slots := 0, locals := 42 }
def f_X10_item_21  (z : St)  : Option (St × Int64) :=
  some (z, (-4611686018427387904))
theorem b_X10_item_21 {p : Program} {l : Launch} {e : Env} {s : State} {m : MethodId} {args : Array Value} {below : List Frame} {meth : Method} {c : Code} {g : Ga} {A : Nat → Prop} (C : Cx l g A p s m args c cX10_item 3 RX10 (rm_X10_item) (0, 0)) (hr : meth.sig.returnType = (some .long)) (hk : meth.locks = false)   (z : St)   {res : St × Int64} (hf : f_X10_item_21  z  = some res) : Zj p l e (rm_X10_item) s m args below meth c g A 3 (0, 0) (QJ g A below args s res) z 21 [] [] := by
  unfold f_X10_item_21 at hf
  refine z_ldc2 C dX10_item_21 kc_X10_315 ?_
  cases hf
  exact z_lret C hr hk dX10_item_24
def f_X10_item_25  (z : St) (o0 : Nat) (x1 : Int32) (x2 : Int32) : Option (St × Int64) :=
  if inb x1 4 = true then (((f_X7_read z (rf (rf o0 13) (Int32.toNatClampNeg x1)) x2).bind fun r2 => some (r2.1, r2.2))) else none
theorem b_X10_item_25 {p : Program} {l : Launch} {e : Env} {s : State} {m : MethodId} {args : Array Value} {below : List Frame} {meth : Method} {c : Code} {g : Ga} {A : Nat → Prop} (C : Cx l g A p s m args c cX10_item 3 RX10 (rm_X10_item) (0, 0)) (hr : meth.sig.returnType = (some .long)) (hk : meth.locks = false)   (z : St) (o0 : Nat) (x1 : Int32) (x2 : Int32) (ho0 : kd o0 = 10) {res : St × Int64} (hf : f_X10_item_25  z o0 x1 x2 = some res) : Zj p l e (rm_X10_item) s m args below meth c g A 3 (0, 0) (QJ g A below args s res) z 25 [(0, .ref (g.1 o0)), (1, .int x1), (2, .int x2)] [] := by
  unfold f_X10_item_25 at hf
  refine z_aload_n C dX10_item_25 rfl 0 rfl ?_
  refine gf_X10_86 C dX10_item_26 ho0 ?_
  refine z_iload_n C dX10_item_29 rfl 1 rfl ?_
  obtain ⟨h1, hf⟩ := q_ck hf
  refine z_aldS C dX10_item_30 (rt_10_13 _ (kd_lt ho0 (by decide)) ho0) h1 ?_
  refine z_iload_n C dX10_item_31 rfl 2 rfl ?_
  obtain ⟨r2, hc3, hf⟩ := q_bd hf
  refine z_cVl C (st := []) (c_X7_read (rt_50 _ (kd_lt (rt_10_13 _ (kd_lt ho0 (by decide)) ho0) (by decide)) (rt_10_13 _ (kd_lt ho0 (by decide)) ho0) _ (inb_lt h1)) hc3) mw_X7_read ml_X10_317 (rt_50 _ (kd_lt (rt_10_13 _ (kd_lt ho0 (by decide)) ho0) (by decide)) (rt_10_13 _ (kd_lt ho0 (by decide)) ho0) _ (inb_lt h1)) (by decide) rfl dX10_item_32 rfl rfl rfl ⟨Nat.le_of_ble_eq_true rfl, Nat.le_of_ble_eq_true rfl⟩ rfl (Nat.le_of_ble_eq_true rfl) ?_
  cases hf
  exact z_lret C hr hk dX10_item_35
def f_X10_item_8  (z : St) (o0 : Nat) (x1 : Int32) (x2 : Int32) : Option (St × Int64) :=
  if inb x1 4 = true then (((f_X7_holds z (rf (rf o0 13) (Int32.toNatClampNeg x1)) x2).bind fun r2 => if r2.2 = 0 then f_X10_item_21 r2.1 else f_X10_item_25 r2.1 o0 x1 x2)) else none
theorem b_X10_item_8 {p : Program} {l : Launch} {e : Env} {s : State} {m : MethodId} {args : Array Value} {below : List Frame} {meth : Method} {c : Code} {g : Ga} {A : Nat → Prop} (C : Cx l g A p s m args c cX10_item 3 RX10 (rm_X10_item) (0, 0)) (hr : meth.sig.returnType = (some .long)) (hk : meth.locks = false)   (z : St) (o0 : Nat) (x1 : Int32) (x2 : Int32) (ho0 : kd o0 = 10) {res : St × Int64} (hf : f_X10_item_8  z o0 x1 x2 = some res) : Zj p l e (rm_X10_item) s m args below meth c g A 3 (0, 0) (QJ g A below args s res) z 8 [(0, .ref (g.1 o0)), (1, .int x1), (2, .int x2)] [] := by
  unfold f_X10_item_8 at hf
  refine z_aload_n C dX10_item_8 rfl 0 rfl ?_
  refine gf_X10_86 C dX10_item_9 ho0 ?_
  refine z_iload_n C dX10_item_12 rfl 1 rfl ?_
  obtain ⟨h1, hf⟩ := q_ck hf
  refine z_aldS C dX10_item_13 (rt_10_13 _ (kd_lt ho0 (by decide)) ho0) h1 ?_
  refine z_iload_n C dX10_item_14 rfl 2 rfl ?_
  obtain ⟨r2, hc3, hf⟩ := q_bd hf
  refine z_cVi C (st := []) (c_X7_holds (rt_50 _ (kd_lt (rt_10_13 _ (kd_lt ho0 (by decide)) ho0) (by decide)) (rt_10_13 _ (kd_lt ho0 (by decide)) ho0) _ (inb_lt h1)) hc3) mw_X7_holds ml_X10_314 (rt_50 _ (kd_lt (rt_10_13 _ (kd_lt ho0 (by decide)) ho0) (by decide)) (rt_10_13 _ (kd_lt ho0 (by decide)) ho0) _ (inb_lt h1)) (by decide) rfl dX10_item_15 rfl rfl rfl ⟨Nat.le_of_ble_eq_true rfl, Nat.le_of_ble_eq_true rfl⟩ rfl (Nat.le_of_ble_eq_true rfl) ?_
  exact z_if_ne C dX10_item_18 (by decide) (fun h => z_sub [0, 1, 2] rfl (b_X10_item_25 C hr hk r2.1 o0 x1 x2 ho0 (q_f hf h))) (fun h => z_sub [] rfl (b_X10_item_21 C hr hk r2.1 (q_t hf h)))
def f_X10_item_0  (z : St) (o0 : Nat) (x1 : Int32) (x2 : Int32) : Option (St × Int64) :=
  ((f_X10_isSheet z o0 x1).bind fun r1 => if r1.2 = 0 then f_X10_item_21 r1.1 else f_X10_item_8 r1.1 o0 x1 x2)
theorem b_X10_item_0 {p : Program} {l : Launch} {e : Env} {s : State} {m : MethodId} {args : Array Value} {below : List Frame} {meth : Method} {c : Code} {g : Ga} {A : Nat → Prop} (C : Cx l g A p s m args c cX10_item 3 RX10 (rm_X10_item) (0, 0)) (hr : meth.sig.returnType = (some .long)) (hk : meth.locks = false)   (z : St) (o0 : Nat) (x1 : Int32) (x2 : Int32) (ho0 : kd o0 = 10) {res : St × Int64} (hf : f_X10_item_0  z o0 x1 x2 = some res) : Zj p l e (rm_X10_item) s m args below meth c g A 3 (0, 0) (QJ g A below args s res) z 0 [(0, .ref (g.1 o0)), (1, .int x1), (2, .int x2)] [] := by
  unfold f_X10_item_0 at hf
  refine z_aload_n C dX10_item_0 rfl 0 rfl ?_
  refine z_iload_n C dX10_item_1 rfl 1 rfl ?_
  obtain ⟨r1, hc2, hf⟩ := q_bd hf
  refine z_cVi C (st := []) (c_X10_isSheet ho0 hc2) mw_X10_isSheet ml_X10_254 ho0 (by decide) rfl dX10_item_2 rfl rfl rfl ⟨Nat.le_of_ble_eq_true rfl, Nat.le_of_ble_eq_true rfl⟩ rfl (Nat.le_of_ble_eq_true rfl) ?_
  exact z_if_eq C dX10_item_5 (by decide) (fun h => z_sub [] rfl (b_X10_item_21 C hr hk r1.1 (q_t hf h))) (fun h => z_sub [0, 1, 2] rfl (b_X10_item_8 C hr hk r1.1 o0 x1 x2 ho0 (q_f hf h)))
def f_X10_item (z : St) (o0 : Nat) (x1 : Int32) (x2 : Int32) : Option (St × Int64) := f_X10_item_0 z o0 x1 x2
theorem c_X10_item {l : Launch} {g : Ga} {A : Nat → Prop} {z : St} {o0 : Nat} {x1 : Int32} {x2 : Int32} (ho0 : kd o0 = 10) {res : St × Int64} (hf : f_X10_item z o0 x1 x2 = some res) : CJ l g A yX10_item cX10_item 3 (some .long) rm_X10_item [.ref (g.1 o0), .int x1, .int x2] z res :=
  e_CJ (by decide) (Nat.le_of_ble_eq_true rfl) rfl (fun p e s m args below meth c C hr hk => z_sub [0, 1, 2] rfl (b_X10_item_0 C hr hk z o0 x1 x2 ho0 hf))
abbrev rm_X10_copy : Room := { frames := 2, cells := 0, slots := 0, locals := 88 }
def f_X10_copy_16  (z : St)  : Option (St × Int32) :=
  some (z, (-2))
theorem b_X10_copy_16 {p : Program} {l : Launch} {e : Env} {s : State} {m : MethodId} {args : Array Value} {below : List Frame} {meth : Method} {c : Code} {g : Ga} {A : Nat → Prop} (C : Cx l g A p s m args c cX10_copy 8 RX10 (rm_X10_copy) (0, 0)) (hr : meth.sig.returnType = (some .int)) (hk : meth.locks = false)   (z : St)   {res : St × Int32} (hf : f_X10_copy_16  z  = some res) : Zj p l e (rm_X10_copy) s m args below meth c g A 8 (0, 0) (QI g A below args s res) z 16 [] [] := by
  unfold f_X10_copy_16 at hf
  refine z_bipush C dX10_copy_16 (v := (-2)) (by decide) ?_
  cases hf
  exact z_iret C hr hk dX10_copy_18
def f_X10_copy_51  (z : St)  : Option (St × Int32) :=
  some (z, (-11))
theorem b_X10_copy_51 {p : Program} {l : Launch} {e : Env} {s : State} {m : MethodId} {args : Array Value} {below : List Frame} {meth : Method} {c : Code} {g : Ga} {A : Nat → Prop} (C : Cx l g A p s m args c cX10_copy 8 RX10 (rm_X10_copy) (0, 0)) (hr : meth.sig.returnType = (some .int)) (hk : meth.locks = false)   (z : St)   {res : St × Int32} (hf : f_X10_copy_51  z  = some res) : Zj p l e (rm_X10_copy) s m args below meth c g A 8 (0, 0) (QI g A below args s res) z 51 [] [] := by
  unfold f_X10_copy_51 at hf
  refine z_bipush C dX10_copy_51 (v := (-11)) (by decide) ?_
  cases hf
  exact z_iret C hr hk dX10_copy_53
def f_X10_copy_67  (z : St)  : Option (St × Int32) :=
  some (z, (-13))
theorem b_X10_copy_67 {p : Program} {l : Launch} {e : Env} {s : State} {m : MethodId} {args : Array Value} {below : List Frame} {meth : Method} {c : Code} {g : Ga} {A : Nat → Prop} (C : Cx l g A p s m args c cX10_copy 8 RX10 (rm_X10_copy) (0, 0)) (hr : meth.sig.returnType = (some .int)) (hk : meth.locks = false)   (z : St)   {res : St × Int32} (hf : f_X10_copy_67  z  = some res) : Zj p l e (rm_X10_copy) s m args below meth c g A 8 (0, 0) (QI g A below args s res) z 67 [] [] := by
  unfold f_X10_copy_67 at hf
  refine z_bipush C dX10_copy_67 (v := (-13)) (by decide) ?_
  cases hf
  exact z_iret C hr hk dX10_copy_69
def f_X10_copy_93  (z : St)  : Option (St × Int32) :=
  some (z, (-12))
theorem b_X10_copy_93 {p : Program} {l : Launch} {e : Env} {s : State} {m : MethodId} {args : Array Value} {below : List Frame} {meth : Method} {c : Code} {g : Ga} {A : Nat → Prop} (C : Cx l g A p s m args c cX10_copy 8 RX10 (rm_X10_copy) (0, 0)) (hr : meth.sig.returnType = (some .int)) (hk : meth.locks = false)   (z : St)   {res : St × Int32} (hf : f_X10_copy_93  z  = some res) : Zj p l e (rm_X10_copy) s m args below meth c g A 8 (0, 0) (QI g A below args s res) z 93 [] [] := by
  unfold f_X10_copy_93 at hf
  refine z_bipush C dX10_copy_93 (v := (-12)) (by decide) ?_
  cases hf
  exact z_iret C hr hk dX10_copy_95
def f_X10_copy_96  (z : St) (x2 : Int32) (x4 : Int32) (x5 : Int32) (o6 : Nat) (o7 : Nat) : Option (St × Int32) :=
  ((f_X7_takeOver z o7 o6 x2 x4 x5).bind fun r1 => some (r1, x5))
theorem b_X10_copy_96 {p : Program} {l : Launch} {e : Env} {s : State} {m : MethodId} {args : Array Value} {below : List Frame} {meth : Method} {c : Code} {g : Ga} {A : Nat → Prop} (C : Cx l g A p s m args c cX10_copy 8 RX10 (rm_X10_copy) (0, 0)) (hr : meth.sig.returnType = (some .int)) (hk : meth.locks = false)   (z : St) (x2 : Int32) (x4 : Int32) (x5 : Int32) (o6 : Nat) (o7 : Nat) (ho6 : kd o6 = 7) (ho7 : kd o7 = 7) {res : St × Int32} (hf : f_X10_copy_96  z x2 x4 x5 o6 o7 = some res) : Zj p l e (rm_X10_copy) s m args below meth c g A 8 (0, 0) (QI g A below args s res) z 96 [(2, .int x2), (4, .int x4), (5, .int x5), (6, .ref (g.1 o6)), (7, .ref (g.1 o7))] [] := by
  unfold f_X10_copy_96 at hf
  refine z_aload C dX10_copy_96 4 rfl ?_
  refine z_aload C dX10_copy_98 3 rfl ?_
  refine z_iload_n C dX10_copy_100 rfl 0 rfl ?_
  refine z_iload C dX10_copy_101 1 rfl ?_
  refine z_iload C dX10_copy_103 2 rfl ?_
  obtain ⟨r1, hc2, hf⟩ := q_bd hf
  refine z_cVv C (st := []) (c_X7_takeOver ho7 ho6 hc2) mw_X7_takeOver ml_X10_327 ho7 (by decide) rfl dX10_copy_105 rfl rfl rfl ⟨Nat.le_of_ble_eq_true rfl, Nat.le_of_ble_eq_true rfl⟩ rfl (Nat.le_of_ble_eq_true rfl) ?_
  refine z_iload C dX10_copy_108 2 rfl ?_
  cases hf
  exact z_iret C hr hk dX10_copy_110
def f_X10_copy_81  (z : St) (x2 : Int32) (x4 : Int32) (x5 : Int32) (o6 : Nat) (o7 : Nat) : Option (St × Int32) :=
  ((f_X7_holdsRow z o7 x4 x5).bind fun r1 => if r1.2 = 0 then f_X10_copy_93 r1.1 else f_X10_copy_96 r1.1 x2 x4 x5 o6 o7)
theorem b_X10_copy_81 {p : Program} {l : Launch} {e : Env} {s : State} {m : MethodId} {args : Array Value} {below : List Frame} {meth : Method} {c : Code} {g : Ga} {A : Nat → Prop} (C : Cx l g A p s m args c cX10_copy 8 RX10 (rm_X10_copy) (0, 0)) (hr : meth.sig.returnType = (some .int)) (hk : meth.locks = false)   (z : St) (x2 : Int32) (x4 : Int32) (x5 : Int32) (o6 : Nat) (o7 : Nat) (ho6 : kd o6 = 7) (ho7 : kd o7 = 7) {res : St × Int32} (hf : f_X10_copy_81  z x2 x4 x5 o6 o7 = some res) : Zj p l e (rm_X10_copy) s m args below meth c g A 8 (0, 0) (QI g A below args s res) z 81 [(2, .int x2), (4, .int x4), (5, .int x5), (6, .ref (g.1 o6)), (7, .ref (g.1 o7))] [] := by
  unfold f_X10_copy_81 at hf
  refine z_aload C dX10_copy_81 4 rfl ?_
  refine z_iload C dX10_copy_83 1 rfl ?_
  refine z_iload C dX10_copy_85 2 rfl ?_
  obtain ⟨r1, hc2, hf⟩ := q_bd hf
  refine z_cVi C (st := []) (c_X7_holdsRow ho7 hc2) mw_X7_holdsRow ml_X10_324 ho7 (by decide) rfl dX10_copy_87 rfl rfl rfl ⟨Nat.le_of_ble_eq_true rfl, Nat.le_of_ble_eq_true rfl⟩ rfl (Nat.le_of_ble_eq_true rfl) ?_
  exact z_if_ne C dX10_copy_90 (by decide) (fun h => z_sub [0, 1, 2, 3, 4] rfl (b_X10_copy_96 C hr hk r1.1 x2 x4 x5 o6 o7 ho6 ho7 (q_f hf h))) (fun h => z_sub [] rfl (b_X10_copy_93 C hr hk r1.1 (q_t hf h)))
def f_X10_copy_70  (z : St) (x2 : Int32) (x4 : Int32) (x5 : Int32) (o6 : Nat) (o7 : Nat) : Option (St × Int32) :=
  ((f_X7_holdsRow z o6 x2 x5).bind fun r1 => if r1.2 = 0 then f_X10_copy_93 r1.1 else f_X10_copy_81 r1.1 x2 x4 x5 o6 o7)
theorem b_X10_copy_70 {p : Program} {l : Launch} {e : Env} {s : State} {m : MethodId} {args : Array Value} {below : List Frame} {meth : Method} {c : Code} {g : Ga} {A : Nat → Prop} (C : Cx l g A p s m args c cX10_copy 8 RX10 (rm_X10_copy) (0, 0)) (hr : meth.sig.returnType = (some .int)) (hk : meth.locks = false)   (z : St) (x2 : Int32) (x4 : Int32) (x5 : Int32) (o6 : Nat) (o7 : Nat) (ho6 : kd o6 = 7) (ho7 : kd o7 = 7) {res : St × Int32} (hf : f_X10_copy_70  z x2 x4 x5 o6 o7 = some res) : Zj p l e (rm_X10_copy) s m args below meth c g A 8 (0, 0) (QI g A below args s res) z 70 [(2, .int x2), (4, .int x4), (5, .int x5), (6, .ref (g.1 o6)), (7, .ref (g.1 o7))] [] := by
  unfold f_X10_copy_70 at hf
  refine z_aload C dX10_copy_70 3 rfl ?_
  refine z_iload_n C dX10_copy_72 rfl 0 rfl ?_
  refine z_iload C dX10_copy_73 2 rfl ?_
  obtain ⟨r1, hc2, hf⟩ := q_bd hf
  refine z_cVi C (st := []) (c_X7_holdsRow ho6 hc2) mw_X7_holdsRow ml_X10_324 ho6 (by decide) rfl dX10_copy_75 rfl rfl rfl ⟨Nat.le_of_ble_eq_true rfl, Nat.le_of_ble_eq_true rfl⟩ rfl (Nat.le_of_ble_eq_true rfl) ?_
  exact z_if_eq C dX10_copy_78 (by decide) (fun h => z_sub [] rfl (b_X10_copy_93 C hr hk r1.1 (q_t hf h))) (fun h => z_sub [0, 1, 2, 3, 4] rfl (b_X10_copy_81 C hr hk r1.1 x2 x4 x5 o6 o7 ho6 ho7 (q_f hf h)))
def f_X10_copy_54  (z : St) (x2 : Int32) (x4 : Int32) (x5 : Int32) (o6 : Nat) (o7 : Nat) : Option (St × Int32) :=
  if (z.1 o6 1) = (z.1 o7 1) then f_X10_copy_70 z x2 x4 x5 o6 o7 else f_X10_copy_67 z
theorem b_X10_copy_54 {p : Program} {l : Launch} {e : Env} {s : State} {m : MethodId} {args : Array Value} {below : List Frame} {meth : Method} {c : Code} {g : Ga} {A : Nat → Prop} (C : Cx l g A p s m args c cX10_copy 8 RX10 (rm_X10_copy) (0, 0)) (hr : meth.sig.returnType = (some .int)) (hk : meth.locks = false)   (z : St) (x2 : Int32) (x4 : Int32) (x5 : Int32) (o6 : Nat) (o7 : Nat) (ho6 : kd o6 = 7) (ho7 : kd o7 = 7) {res : St × Int32} (hf : f_X10_copy_54  z x2 x4 x5 o6 o7 = some res) : Zj p l e (rm_X10_copy) s m args below meth c g A 8 (0, 0) (QI g A below args s res) z 54 [(2, .int x2), (4, .int x4), (5, .int x5), (6, .ref (g.1 o6)), (7, .ref (g.1 o7))] [] := by
  unfold f_X10_copy_54 at hf
  refine z_aload C dX10_copy_54 3 rfl ?_
  refine gf_X10_321 C dX10_copy_56 ho6 ?_
  refine z_aload C dX10_copy_59 4 rfl ?_
  refine gf_X10_321 C dX10_copy_61 ho7 ?_
  exact z_icmp_eq C dX10_copy_64 (by decide) (fun h => z_sub [0, 1, 2, 3, 4] rfl (b_X10_copy_70 C hr hk z x2 x4 x5 o6 o7 ho6 ho7 (q_t hf h))) (fun h => z_sub [] rfl (b_X10_copy_67 C hr hk z (q_f hf h)))
def f_X10_copy_43  (z : St) (x2 : Int32) (x4 : Int32) (x5 : Int32) (o6 : Nat) (o7 : Nat) : Option (St × Int32) :=
  ((f_X7_isMissing z o7).bind fun r1 => if r1.2 = 0 then f_X10_copy_54 r1.1 x2 x4 x5 o6 o7 else f_X10_copy_51 r1.1)
theorem b_X10_copy_43 {p : Program} {l : Launch} {e : Env} {s : State} {m : MethodId} {args : Array Value} {below : List Frame} {meth : Method} {c : Code} {g : Ga} {A : Nat → Prop} (C : Cx l g A p s m args c cX10_copy 8 RX10 (rm_X10_copy) (0, 0)) (hr : meth.sig.returnType = (some .int)) (hk : meth.locks = false)   (z : St) (x2 : Int32) (x4 : Int32) (x5 : Int32) (o6 : Nat) (o7 : Nat) (ho6 : kd o6 = 7) (ho7 : kd o7 = 7) {res : St × Int32} (hf : f_X10_copy_43  z x2 x4 x5 o6 o7 = some res) : Zj p l e (rm_X10_copy) s m args below meth c g A 8 (0, 0) (QI g A below args s res) z 43 [(2, .int x2), (4, .int x4), (5, .int x5), (6, .ref (g.1 o6)), (7, .ref (g.1 o7))] [] := by
  unfold f_X10_copy_43 at hf
  refine z_aload C dX10_copy_43 4 rfl ?_
  obtain ⟨r1, hc2, hf⟩ := q_bd hf
  refine z_cVi C (st := []) (c_X7_isMissing ho7 hc2) mw_X7_isMissing ml_X10_259 ho7 (by decide) rfl dX10_copy_45 rfl rfl rfl ⟨Nat.le_of_ble_eq_true rfl, Nat.le_of_ble_eq_true rfl⟩ rfl (Nat.le_of_ble_eq_true rfl) ?_
  exact z_if_eq C dX10_copy_48 (by decide) (fun h => z_sub [0, 1, 2, 3, 4] rfl (b_X10_copy_54 C hr hk r1.1 x2 x4 x5 o6 o7 ho6 ho7 (q_t hf h))) (fun h => z_sub [] rfl (b_X10_copy_51 C hr hk r1.1 (q_f hf h)))
def f_X10_copy_19  (z : St) (o0 : Nat) (x1 : Int32) (x2 : Int32) (x3 : Int32) (x4 : Int32) (x5 : Int32) : Option (St × Int32) :=
  if inb x1 4 = true then (if inb x3 4 = true then (((f_X7_isMissing z (rf (rf o0 13) (Int32.toNatClampNeg x1))).bind fun r3 => if r3.2 = 0 then f_X10_copy_43 r3.1 x2 x4 x5 (rf (rf o0 13) (Int32.toNatClampNeg x1)) (rf (rf o0 13) (Int32.toNatClampNeg x3)) else f_X10_copy_51 r3.1)) else none) else none
theorem b_X10_copy_19 {p : Program} {l : Launch} {e : Env} {s : State} {m : MethodId} {args : Array Value} {below : List Frame} {meth : Method} {c : Code} {g : Ga} {A : Nat → Prop} (C : Cx l g A p s m args c cX10_copy 8 RX10 (rm_X10_copy) (0, 0)) (hr : meth.sig.returnType = (some .int)) (hk : meth.locks = false)   (z : St) (o0 : Nat) (x1 : Int32) (x2 : Int32) (x3 : Int32) (x4 : Int32) (x5 : Int32) (ho0 : kd o0 = 10) {res : St × Int32} (hf : f_X10_copy_19  z o0 x1 x2 x3 x4 x5 = some res) : Zj p l e (rm_X10_copy) s m args below meth c g A 8 (0, 0) (QI g A below args s res) z 19 [(0, .ref (g.1 o0)), (1, .int x1), (2, .int x2), (3, .int x3), (4, .int x4), (5, .int x5)] [] := by
  unfold f_X10_copy_19 at hf
  refine z_aload_n C dX10_copy_19 rfl 0 rfl ?_
  refine gf_X10_86 C dX10_copy_20 ho0 ?_
  refine z_iload_n C dX10_copy_23 rfl 1 rfl ?_
  obtain ⟨h1, hf⟩ := q_ck hf
  refine z_aldS C dX10_copy_24 (rt_10_13 _ (kd_lt ho0 (by decide)) ho0) h1 ?_
  refine z_astore C (lv2 := [(6, .ref (g.1 (rf (rf o0 13) (Int32.toNatClampNeg x1)))), (0, .ref (g.1 o0)), (1, .int x1), (2, .int x2), (3, .int x3), (4, .int x4), (5, .int x5)]) dX10_copy_25 (by decide) rfl ?_
  refine z_aload_n C dX10_copy_27 rfl 1 rfl ?_
  refine gf_X10_86 C dX10_copy_28 ho0 ?_
  refine z_iload_n C dX10_copy_31 rfl 4 rfl ?_
  obtain ⟨h2, hf⟩ := q_ck hf
  refine z_aldS C dX10_copy_32 (rt_10_13 _ (kd_lt ho0 (by decide)) ho0) h2 ?_
  refine z_astore C (lv2 := [(7, .ref (g.1 (rf (rf o0 13) (Int32.toNatClampNeg x3)))), (6, .ref (g.1 (rf (rf o0 13) (Int32.toNatClampNeg x1)))), (0, .ref (g.1 o0)), (1, .int x1), (2, .int x2), (3, .int x3), (4, .int x4), (5, .int x5)]) dX10_copy_33 (by decide) rfl ?_
  refine z_aload C dX10_copy_35 1 rfl ?_
  obtain ⟨r3, hc4, hf⟩ := q_bd hf
  refine z_cVi C (st := []) (c_X7_isMissing (rt_50 _ (kd_lt (rt_10_13 _ (kd_lt ho0 (by decide)) ho0) (by decide)) (rt_10_13 _ (kd_lt ho0 (by decide)) ho0) _ (inb_lt h1)) hc4) mw_X7_isMissing ml_X10_259 (rt_50 _ (kd_lt (rt_10_13 _ (kd_lt ho0 (by decide)) ho0) (by decide)) (rt_10_13 _ (kd_lt ho0 (by decide)) ho0) _ (inb_lt h1)) (by decide) rfl dX10_copy_37 rfl rfl rfl ⟨Nat.le_of_ble_eq_true rfl, Nat.le_of_ble_eq_true rfl⟩ rfl (Nat.le_of_ble_eq_true rfl) ?_
  exact z_if_ne C dX10_copy_40 (by decide) (fun h => z_sub [] rfl (b_X10_copy_51 C hr hk r3.1 (q_f hf h))) (fun h => z_sub [4, 6, 7, 1, 0] rfl (b_X10_copy_43 C hr hk r3.1 x2 x4 x5 (rf (rf o0 13) (Int32.toNatClampNeg x1)) (rf (rf o0 13) (Int32.toNatClampNeg x3)) (rt_50 _ (kd_lt (rt_10_13 _ (kd_lt ho0 (by decide)) ho0) (by decide)) (rt_10_13 _ (kd_lt ho0 (by decide)) ho0) _ (inb_lt h1)) (rt_50 _ (kd_lt (rt_10_13 _ (kd_lt ho0 (by decide)) ho0) (by decide)) (rt_10_13 _ (kd_lt ho0 (by decide)) ho0) _ (inb_lt h2)) (q_t hf h)))
def f_X10_copy_8  (z : St) (o0 : Nat) (x1 : Int32) (x2 : Int32) (x3 : Int32) (x4 : Int32) (x5 : Int32) : Option (St × Int32) :=
  ((f_X10_isSheet z o0 x3).bind fun r1 => if r1.2 = 0 then f_X10_copy_16 r1.1 else f_X10_copy_19 r1.1 o0 x1 x2 x3 x4 x5)
theorem b_X10_copy_8 {p : Program} {l : Launch} {e : Env} {s : State} {m : MethodId} {args : Array Value} {below : List Frame} {meth : Method} {c : Code} {g : Ga} {A : Nat → Prop} (C : Cx l g A p s m args c cX10_copy 8 RX10 (rm_X10_copy) (0, 0)) (hr : meth.sig.returnType = (some .int)) (hk : meth.locks = false)   (z : St) (o0 : Nat) (x1 : Int32) (x2 : Int32) (x3 : Int32) (x4 : Int32) (x5 : Int32) (ho0 : kd o0 = 10) {res : St × Int32} (hf : f_X10_copy_8  z o0 x1 x2 x3 x4 x5 = some res) : Zj p l e (rm_X10_copy) s m args below meth c g A 8 (0, 0) (QI g A below args s res) z 8 [(0, .ref (g.1 o0)), (1, .int x1), (2, .int x2), (3, .int x3), (4, .int x4), (5, .int x5)] [] := by
  unfold f_X10_copy_8 at hf
  refine z_aload_n C dX10_copy_8 rfl 0 rfl ?_
  refine z_iload_n C dX10_copy_9 rfl 3 rfl ?_
  obtain ⟨r1, hc2, hf⟩ := q_bd hf
  refine z_cVi C (st := []) (c_X10_isSheet ho0 hc2) mw_X10_isSheet ml_X10_254 ho0 (by decide) rfl dX10_copy_10 rfl rfl rfl ⟨Nat.le_of_ble_eq_true rfl, Nat.le_of_ble_eq_true rfl⟩ rfl (Nat.le_of_ble_eq_true rfl) ?_
  exact z_if_ne C dX10_copy_13 (by decide) (fun h => z_sub [0, 1, 2, 3, 4, 5] rfl (b_X10_copy_19 C hr hk r1.1 o0 x1 x2 x3 x4 x5 ho0 (q_f hf h))) (fun h => z_sub [] rfl (b_X10_copy_16 C hr hk r1.1 (q_t hf h)))
def f_X10_copy_0  (z : St) (o0 : Nat) (x1 : Int32) (x2 : Int32) (x3 : Int32) (x4 : Int32) (x5 : Int32) : Option (St × Int32) :=
  ((f_X10_isSheet z o0 x1).bind fun r1 => if r1.2 = 0 then f_X10_copy_16 r1.1 else f_X10_copy_8 r1.1 o0 x1 x2 x3 x4 x5)
theorem b_X10_copy_0 {p : Program} {l : Launch} {e : Env} {s : State} {m : MethodId} {args : Array Value} {below : List Frame} {meth : Method} {c : Code} {g : Ga} {A : Nat → Prop} (C : Cx l g A p s m args c cX10_copy 8 RX10 (rm_X10_copy) (0, 0)) (hr : meth.sig.returnType = (some .int)) (hk : meth.locks = false)   (z : St) (o0 : Nat) (x1 : Int32) (x2 : Int32) (x3 : Int32) (x4 : Int32) (x5 : Int32) (ho0 : kd o0 = 10) {res : St × Int32} (hf : f_X10_copy_0  z o0 x1 x2 x3 x4 x5 = some res) : Zj p l e (rm_X10_copy) s m args below meth c g A 8 (0, 0) (QI g A below args s res) z 0 [(0, .ref (g.1 o0)), (1, .int x1), (2, .int x2), (3, .int x3), (4, .int x4), (5, .int x5)] [] := by
  unfold f_X10_copy_0 at hf
  refine z_aload_n C dX10_copy_0 rfl 0 rfl ?_
  refine z_iload_n C dX10_copy_1 rfl 1 rfl ?_
  obtain ⟨r1, hc2, hf⟩ := q_bd hf
  refine z_cVi C (st := []) (c_X10_isSheet ho0 hc2) mw_X10_isSheet ml_X10_254 ho0 (by decide) rfl dX10_copy_2 rfl rfl rfl ⟨Nat.le_of_ble_eq_true rfl, Nat.le_of_ble_eq_true rfl⟩ rfl (Nat.le_of_ble_eq_true rfl) ?_
  exact z_if_eq C dX10_copy_5 (by decide) (fun h => z_sub [] rfl (b_X10_copy_16 C hr hk r1.1 (q_t hf h))) (fun h => z_sub [0, 1, 2, 3, 4, 5] rfl (b_X10_copy_8 C hr hk r1.1 o0 x1 x2 x3 x4 x5 ho0 (q_f hf h)))
def f_X10_copy (z : St) (o0 : Nat) (x1 : Int32) (x2 : Int32) (x3 : Int32) (x4 : Int32) (x5 : Int32) : Option (St × Int32) := f_X10_copy_0 z o0 x1 x2 x3 x4 x5
theorem c_X10_copy {l : Launch} {g : Ga} {A : Nat → Prop} {z : St} {o0 : Nat} {x1 : Int32} {x2 : Int32} {x3 : Int32} {x4 : Int32} {x5 : Int32} (ho0 : kd o0 = 10) {res : St × Int32} (hf : f_X10_copy z o0 x1 x2 x3 x4 x5 = some res) : CI l g A yX10_copy cX10_copy 8 (some .int) rm_X10_copy [.ref (g.1 o0), .int x1, .int x2, .int x3, .int x4, .int x5] z res :=
  e_CI (by decide) (Nat.le_of_ble_eq_true rfl) rfl (fun p e s m args below meth c C hr hk => z_sub [0, 1, 2, 3, 4, 5] rfl (b_X10_copy_0 C hr hk z o0 x1 x2 x3 x4 x5 ho0 hf))
