abbrev rm_X4_readFrom : Room := { frames := 4, cells := 0, slots := 0, locals := 90 }
def f_X4_readFrom_21 (K7 : St → Nat → Nat → Int32 → Option (St)) (z : St) (o0 : Nat) (o1 : Nat) (x2 : Int32) : Option (St) :=
  ((f_X2_comesOf z o1 x2).bind fun r1 => if inb x2 8 = true then (((f_X2_takesOf (zI r1.1 (rf o0 0) (Int32.toNatClampNeg x2) r1.2) o1 x2).bind fun r4 => if inb x2 8 = true then (((f_X2_coolsOf (zI r4.1 (rf o0 1) (Int32.toNatClampNeg x2) r4.2) o1 x2).bind fun r7 => if inb x2 8 = true then (K7 (zI (zI r7.1 (rf o0 2) (Int32.toNatClampNeg x2) r7.2) o0 3 (((zI r7.1 (rf o0 2) (Int32.toNatClampNeg x2) r7.2).1 o0 3) + 1)) o0 o1 (x2 + 1)) else none)) else none)) else none)
theorem b_X4_readFrom_21 {p : Program} {l : Launch} {e : Env} {s : State} {m : MethodId} {args : Array Value} {below : List Frame} {meth : Method} {c : Code} {g : Ga} {A : Nat → Prop} (C : Cx l g A p s m args c cX4_readFrom 3 RX4 (rm_X4_readFrom) (0, 0)) (hr : meth.sig.returnType = none) (hk : meth.locks = false) {K7 : St → Nat → Nat → Int32 → Option (St)} (hK7 : ∀ (z : St) (o0 : Nat) (o1 : Nat) (x2 : Int32) (_ : kd o0 = 4) (_ : kd o1 = 2) {res : St}, K7 z o0 o1 x2 = some res → Zj p l e (rm_X4_readFrom) s m args below meth c g A 3 (0, 0) (QV g A below args s res) z 7 [(0, .ref (g.1 o0)), (1, .ref (g.1 o1)), (2, .int x2)] []) (z : St) (o0 : Nat) (o1 : Nat) (x2 : Int32) (ho0 : kd o0 = 4) (ho1 : kd o1 = 2) {res : St} (hf : f_X4_readFrom_21 K7 z o0 o1 x2 = some res) : Zj p l e (rm_X4_readFrom) s m args below meth c g A 3 (0, 0) (QV g A below args s res) z 21 [(0, .ref (g.1 o0)), (1, .ref (g.1 o1)), (2, .int x2)] [] := by
  unfold f_X4_readFrom_21 at hf
  refine z_aload_n C dX4_readFrom_21 rfl 0 rfl ?_
  refine gf_X4_9 C dX4_readFrom_22 ho0 ?_
  refine z_iload_n C dX4_readFrom_25 rfl 2 rfl ?_
  refine z_aload_n C dX4_readFrom_26 rfl 1 rfl ?_
  refine z_iload_n C dX4_readFrom_27 rfl 2 rfl ?_
  obtain ⟨r1, hc2, hf⟩ := q_bd hf
  refine z_cVi C (st := [.int x2, .ref (g.1 (rf o0 0))]) (c_X2_comesOf ho1 hc2) mw_X2_comesOf ml_X4_28 ho1 (by decide) rfl dX4_readFrom_28 rfl rfl rfl ⟨Nat.le_of_ble_eq_true rfl, Nat.le_of_ble_eq_true rfl⟩ rfl (Nat.le_of_ble_eq_true rfl) ?_
  obtain ⟨h3, hf⟩ := q_ck hf
  refine z_iast C (n := 8) dX4_readFrom_31 (rt_4_0 _ (kd_lt ho0 (by decide)) ho0) (by decide) h3 ?_
  refine z_aload_n C dX4_readFrom_32 rfl 0 rfl ?_
  refine gf_X4_15 C dX4_readFrom_33 ho0 ?_
  refine z_iload_n C dX4_readFrom_36 rfl 2 rfl ?_
  refine z_aload_n C dX4_readFrom_37 rfl 1 rfl ?_
  refine z_iload_n C dX4_readFrom_38 rfl 2 rfl ?_
  obtain ⟨r4, hc5, hf⟩ := q_bd hf
  refine z_cVi C (st := [.int x2, .ref (g.1 (rf o0 1))]) (c_X2_takesOf ho1 hc5) mw_X2_takesOf ml_X4_32 ho1 (by decide) rfl dX4_readFrom_39 rfl rfl rfl ⟨Nat.le_of_ble_eq_true rfl, Nat.le_of_ble_eq_true rfl⟩ rfl (Nat.le_of_ble_eq_true rfl) ?_
  obtain ⟨h6, hf⟩ := q_ck hf
  refine z_iast C (n := 8) dX4_readFrom_42 (rt_4_1 _ (kd_lt ho0 (by decide)) ho0) (by decide) h6 ?_
  refine z_aload_n C dX4_readFrom_43 rfl 0 rfl ?_
  refine gf_X4_18 C dX4_readFrom_44 ho0 ?_
  refine z_iload_n C dX4_readFrom_47 rfl 2 rfl ?_
  refine z_aload_n C dX4_readFrom_48 rfl 1 rfl ?_
  refine z_iload_n C dX4_readFrom_49 rfl 2 rfl ?_
  obtain ⟨r7, hc8, hf⟩ := q_bd hf
  refine z_cVi C (st := [.int x2, .ref (g.1 (rf o0 2))]) (c_X2_coolsOf ho1 hc8) mw_X2_coolsOf ml_X4_35 ho1 (by decide) rfl dX4_readFrom_50 rfl rfl rfl ⟨Nat.le_of_ble_eq_true rfl, Nat.le_of_ble_eq_true rfl⟩ rfl (Nat.le_of_ble_eq_true rfl) ?_
  obtain ⟨h9, hf⟩ := q_ck hf
  refine z_iast C (n := 8) dX4_readFrom_53 (rt_4_2 _ (kd_lt ho0 (by decide)) ho0) (by decide) h9 ?_
  refine z_aload_n C dX4_readFrom_54 rfl 0 rfl ?_
  refine z_dup C dX4_readFrom_55 rfl ?_
  refine gf_X4_21 C dX4_readFrom_56 ho0 ?_
  refine z_iconst C dX4_readFrom_59 (v := 1) (by decide) ?_
  refine z_iadd C dX4_readFrom_60 ?_
  refine pf_X4_21 C dX4_readFrom_61 ho0 ?_
  refine z_iinc C (k := 2) (v := x2 + 1) (lv2 := [(2, .int (x2 + 1)), (0, .ref (g.1 o0)), (1, .ref (g.1 o1))]) dX4_readFrom_64 rfl rfl (by decide) rfl ?_
  exact z_goto C dX4_readFrom_67 (by decide) (z_sub [1, 2, 0] rfl (hK7 (zI (zI r7.1 (rf o0 2) (Int32.toNatClampNeg x2) r7.2) o0 3 (((zI r7.1 (rf o0 2) (Int32.toNatClampNeg x2) r7.2).1 o0 3) + 1)) o0 o1 (x2 + 1) ho0 ho1 hf))
def f_X4_readFrom_70  (z : St)  : Option (St) :=
  some z
theorem b_X4_readFrom_70 {p : Program} {l : Launch} {e : Env} {s : State} {m : MethodId} {args : Array Value} {below : List Frame} {meth : Method} {c : Code} {g : Ga} {A : Nat → Prop} (C : Cx l g A p s m args c cX4_readFrom 3 RX4 (rm_X4_readFrom) (0, 0)) (hr : meth.sig.returnType = none) (hk : meth.locks = false)   (z : St)   {res : St} (hf : f_X4_readFrom_70  z  = some res) : Zj p l e (rm_X4_readFrom) s m args below meth c g A 3 (0, 0) (QV g A below args s res) z 70 [] [] := by
  unfold f_X4_readFrom_70 at hf
  cases hf
  exact z_vret C hr hk dX4_readFrom_70
def f_X4_readFrom_15 (K7 : St → Nat → Nat → Int32 → Option (St)) (z : St) (o0 : Nat) (o1 : Nat) (x2 : Int32) : Option (St) :=
  if 8 ≤ x2 then f_X4_readFrom_70 z else f_X4_readFrom_21 K7 z o0 o1 x2
theorem b_X4_readFrom_15 {p : Program} {l : Launch} {e : Env} {s : State} {m : MethodId} {args : Array Value} {below : List Frame} {meth : Method} {c : Code} {g : Ga} {A : Nat → Prop} (C : Cx l g A p s m args c cX4_readFrom 3 RX4 (rm_X4_readFrom) (0, 0)) (hr : meth.sig.returnType = none) (hk : meth.locks = false) {K7 : St → Nat → Nat → Int32 → Option (St)} (hK7 : ∀ (z : St) (o0 : Nat) (o1 : Nat) (x2 : Int32) (_ : kd o0 = 4) (_ : kd o1 = 2) {res : St}, K7 z o0 o1 x2 = some res → Zj p l e (rm_X4_readFrom) s m args below meth c g A 3 (0, 0) (QV g A below args s res) z 7 [(0, .ref (g.1 o0)), (1, .ref (g.1 o1)), (2, .int x2)] []) (z : St) (o0 : Nat) (o1 : Nat) (x2 : Int32) (ho0 : kd o0 = 4) (ho1 : kd o1 = 2) {res : St} (hf : f_X4_readFrom_15 K7 z o0 o1 x2 = some res) : Zj p l e (rm_X4_readFrom) s m args below meth c g A 3 (0, 0) (QV g A below args s res) z 15 [(0, .ref (g.1 o0)), (1, .ref (g.1 o1)), (2, .int x2)] [] := by
  unfold f_X4_readFrom_15 at hf
  refine z_iload_n C dX4_readFrom_15 rfl 2 rfl ?_
  refine z_bipush C dX4_readFrom_16 (v := 8) (by decide) ?_
  exact z_icmp_ge C dX4_readFrom_18 (by decide) (fun h => z_sub [] rfl (b_X4_readFrom_70 C hr hk z (q_t hf h))) (fun h => z_sub [0, 1, 2] rfl (b_X4_readFrom_21 C hr hk hK7 z o0 o1 x2 ho0 ho1 (q_f hf h)))
def f_X4_readFrom_7  : Nat → St → Nat → Nat → Int32 → Option (St)
  | 0, _, _, _, _ => none
  | n + 1, z, o0, o1, x2 => if (z.1 o1 1) ≤ x2 then f_X4_readFrom_70 z else f_X4_readFrom_15 (f_X4_readFrom_7 n) z o0 o1 x2
theorem b_X4_readFrom_7 {p : Program} {l : Launch} {e : Env} {s : State} {m : MethodId} {args : Array Value} {below : List Frame} {meth : Method} {c : Code} {g : Ga} {A : Nat → Prop} (C : Cx l g A p s m args c cX4_readFrom 3 RX4 (rm_X4_readFrom) (0, 0)) (hr : meth.sig.returnType = none) (hk : meth.locks = false)   : ∀ (n : Nat) (z : St) (o0 : Nat) (o1 : Nat) (x2 : Int32) (_ : kd o0 = 4) (_ : kd o1 = 2) {res : St} (_ : f_X4_readFrom_7  n z o0 o1 x2 = some res), Zj p l e (rm_X4_readFrom) s m args below meth c g A 3 (0, 0) (QV g A below args s res) z 7 [(0, .ref (g.1 o0)), (1, .ref (g.1 o1)), (2, .int x2)] [] := by
  intro n
  induction n with
  | zero =>
    intro z o0 o1 x2 ho0 ho1 res hf
    cases hf
  | succ n ih =>
    intro z o0 o1 x2 ho0 ho1 res hf
    rw [f_X4_readFrom_7] at hf
    refine z_iload_n C dX4_readFrom_7 rfl 2 rfl ?_
    refine z_aload_n C dX4_readFrom_8 rfl 1 rfl ?_
    refine gf_X4_25 C dX4_readFrom_9 ho1 ?_
    exact z_icmp_ge C dX4_readFrom_12 (by decide) (fun h => z_sub [] rfl (b_X4_readFrom_70 C hr hk z (q_t hf h))) (fun h => z_sub [0, 1, 2] rfl (b_X4_readFrom_15 C hr hk ih z o0 o1 x2 ho0 ho1 (q_f hf h)))
def f_X4_readFrom_0  (z : St) (o0 : Nat) (o1 : Nat) : Option (St) :=
  f_X4_readFrom_7 FU (zI z o0 3 0) o0 o1 0
theorem b_X4_readFrom_0 {p : Program} {l : Launch} {e : Env} {s : State} {m : MethodId} {args : Array Value} {below : List Frame} {meth : Method} {c : Code} {g : Ga} {A : Nat → Prop} (C : Cx l g A p s m args c cX4_readFrom 3 RX4 (rm_X4_readFrom) (0, 0)) (hr : meth.sig.returnType = none) (hk : meth.locks = false)   (z : St) (o0 : Nat) (o1 : Nat) (ho0 : kd o0 = 4) (ho1 : kd o1 = 2) {res : St} (hf : f_X4_readFrom_0  z o0 o1 = some res) : Zj p l e (rm_X4_readFrom) s m args below meth c g A 3 (0, 0) (QV g A below args s res) z 0 [(0, .ref (g.1 o0)), (1, .ref (g.1 o1))] [] := by
  unfold f_X4_readFrom_0 at hf
  refine z_aload_n C dX4_readFrom_0 rfl 0 rfl ?_
  refine z_iconst C dX4_readFrom_1 (v := 0) (by decide) ?_
  refine pf_X4_21 C dX4_readFrom_2 ho0 ?_
  refine z_iconst C dX4_readFrom_5 (v := 0) (by decide) ?_
  refine z_istore_n C (lv2 := [(2, .int 0), (0, .ref (g.1 o0)), (1, .ref (g.1 o1))]) dX4_readFrom_6 rfl (by decide) rfl ?_
  exact z_sub [1, 2, 0] rfl (b_X4_readFrom_7 C hr hk FU (zI z o0 3 0) o0 o1 0 ho0 ho1 hf)
def f_X4_readFrom (z : St) (o0 : Nat) (o1 : Nat) : Option (St) := f_X4_readFrom_0 z o0 o1
theorem c_X4_readFrom {l : Launch} {g : Ga} {A : Nat → Prop} {z : St} {o0 : Nat} {o1 : Nat} (ho0 : kd o0 = 4) (ho1 : kd o1 = 2) {res : St} (hf : f_X4_readFrom z o0 o1 = some res) : CV l g A yX4_readFrom cX4_readFrom 3 none rm_X4_readFrom [.ref (g.1 o0), .ref (g.1 o1)] z res :=
  e_CV (by decide) (Nat.le_of_ble_eq_true rfl) rfl (fun p e s m args below meth c C hr hk => z_sub [0, 1] rfl (b_X4_readFrom_0 C hr hk z o0 o1 ho0 ho1 hf))
abbrev rm_X4_becomeAs : Room := { frames := 0, cells := 0, slots := 0, locals := 0 }
def f_X4_becomeAs_21 (K7 : St → Nat → Nat → Int32 → Option (St)) (z : St) (o0 : Nat) (o1 : Nat) (x2 : Int32) : Option (St) :=
  if inb x2 8 = true then (if inb x2 8 = true then (if inb x2 8 = true then (if inb x2 8 = true then (if inb x2 8 = true then (if inb x2 8 = true then (K7 (zI (zI (zI (zI z (rf o0 0) (Int32.toNatClampNeg x2) (z.1 (rf o1 0) (Int32.toNatClampNeg x2))) (rf o0 1) (Int32.toNatClampNeg x2) ((zI z (rf o0 0) (Int32.toNatClampNeg x2) (z.1 (rf o1 0) (Int32.toNatClampNeg x2))).1 (rf o1 1) (Int32.toNatClampNeg x2))) (rf o0 2) (Int32.toNatClampNeg x2) ((zI (zI z (rf o0 0) (Int32.toNatClampNeg x2) (z.1 (rf o1 0) (Int32.toNatClampNeg x2))) (rf o0 1) (Int32.toNatClampNeg x2) ((zI z (rf o0 0) (Int32.toNatClampNeg x2) (z.1 (rf o1 0) (Int32.toNatClampNeg x2))).1 (rf o1 1) (Int32.toNatClampNeg x2))).1 (rf o1 2) (Int32.toNatClampNeg x2))) o0 3 (((zI (zI (zI z (rf o0 0) (Int32.toNatClampNeg x2) (z.1 (rf o1 0) (Int32.toNatClampNeg x2))) (rf o0 1) (Int32.toNatClampNeg x2) ((zI z (rf o0 0) (Int32.toNatClampNeg x2) (z.1 (rf o1 0) (Int32.toNatClampNeg x2))).1 (rf o1 1) (Int32.toNatClampNeg x2))) (rf o0 2) (Int32.toNatClampNeg x2) ((zI (zI z (rf o0 0) (Int32.toNatClampNeg x2) (z.1 (rf o1 0) (Int32.toNatClampNeg x2))) (rf o0 1) (Int32.toNatClampNeg x2) ((zI z (rf o0 0) (Int32.toNatClampNeg x2) (z.1 (rf o1 0) (Int32.toNatClampNeg x2))).1 (rf o1 1) (Int32.toNatClampNeg x2))).1 (rf o1 2) (Int32.toNatClampNeg x2))).1 o0 3) + 1)) o0 o1 (x2 + 1)) else none) else none) else none) else none) else none) else none
theorem b_X4_becomeAs_21 {p : Program} {l : Launch} {e : Env} {s : State} {m : MethodId} {args : Array Value} {below : List Frame} {meth : Method} {c : Code} {g : Ga} {A : Nat → Prop} (C : Cx l g A p s m args c cX4_becomeAs 3 RX4 (rm_X4_becomeAs) (0, 0)) (hr : meth.sig.returnType = none) (hk : meth.locks = false) {K7 : St → Nat → Nat → Int32 → Option (St)} (hK7 : ∀ (z : St) (o0 : Nat) (o1 : Nat) (x2 : Int32) (_ : kd o0 = 4) (_ : kd o1 = 4) {res : St}, K7 z o0 o1 x2 = some res → Zj p l e (rm_X4_becomeAs) s m args below meth c g A 3 (0, 0) (QV g A below args s res) z 7 [(0, .ref (g.1 o0)), (1, .ref (g.1 o1)), (2, .int x2)] []) (z : St) (o0 : Nat) (o1 : Nat) (x2 : Int32) (ho0 : kd o0 = 4) (ho1 : kd o1 = 4) {res : St} (hf : f_X4_becomeAs_21 K7 z o0 o1 x2 = some res) : Zj p l e (rm_X4_becomeAs) s m args below meth c g A 3 (0, 0) (QV g A below args s res) z 21 [(0, .ref (g.1 o0)), (1, .ref (g.1 o1)), (2, .int x2)] [] := by
  unfold f_X4_becomeAs_21 at hf
  refine z_aload_n C dX4_becomeAs_21 rfl 0 rfl ?_
  refine gf_X4_9 C dX4_becomeAs_22 ho0 ?_
  refine z_iload_n C dX4_becomeAs_25 rfl 2 rfl ?_
  refine z_aload_n C dX4_becomeAs_26 rfl 1 rfl ?_
  refine gf_X4_9 C dX4_becomeAs_27 ho1 ?_
  refine z_iload_n C dX4_becomeAs_30 rfl 2 rfl ?_
  obtain ⟨h1, hf⟩ := q_ck hf
  refine z_iald C (n := 8) dX4_becomeAs_31 (rt_4_0 _ (kd_lt ho1 (by decide)) ho1) (by decide) h1 ?_
  obtain ⟨h2, hf⟩ := q_ck hf
  refine z_iast C (n := 8) dX4_becomeAs_32 (rt_4_0 _ (kd_lt ho0 (by decide)) ho0) (by decide) h2 ?_
  refine z_aload_n C dX4_becomeAs_33 rfl 0 rfl ?_
  refine gf_X4_15 C dX4_becomeAs_34 ho0 ?_
  refine z_iload_n C dX4_becomeAs_37 rfl 2 rfl ?_
  refine z_aload_n C dX4_becomeAs_38 rfl 1 rfl ?_
  refine gf_X4_15 C dX4_becomeAs_39 ho1 ?_
  refine z_iload_n C dX4_becomeAs_42 rfl 2 rfl ?_
  obtain ⟨h3, hf⟩ := q_ck hf
  refine z_iald C (n := 8) dX4_becomeAs_43 (rt_4_1 _ (kd_lt ho1 (by decide)) ho1) (by decide) h3 ?_
  obtain ⟨h4, hf⟩ := q_ck hf
  refine z_iast C (n := 8) dX4_becomeAs_44 (rt_4_1 _ (kd_lt ho0 (by decide)) ho0) (by decide) h4 ?_
  refine z_aload_n C dX4_becomeAs_45 rfl 0 rfl ?_
  refine gf_X4_18 C dX4_becomeAs_46 ho0 ?_
  refine z_iload_n C dX4_becomeAs_49 rfl 2 rfl ?_
  refine z_aload_n C dX4_becomeAs_50 rfl 1 rfl ?_
  refine gf_X4_18 C dX4_becomeAs_51 ho1 ?_
  refine z_iload_n C dX4_becomeAs_54 rfl 2 rfl ?_
  obtain ⟨h5, hf⟩ := q_ck hf
  refine z_iald C (n := 8) dX4_becomeAs_55 (rt_4_2 _ (kd_lt ho1 (by decide)) ho1) (by decide) h5 ?_
  obtain ⟨h6, hf⟩ := q_ck hf
  refine z_iast C (n := 8) dX4_becomeAs_56 (rt_4_2 _ (kd_lt ho0 (by decide)) ho0) (by decide) h6 ?_
  refine z_aload_n C dX4_becomeAs_57 rfl 0 rfl ?_
  refine z_dup C dX4_becomeAs_58 rfl ?_
  refine gf_X4_21 C dX4_becomeAs_59 ho0 ?_
  refine z_iconst C dX4_becomeAs_62 (v := 1) (by decide) ?_
  refine z_iadd C dX4_becomeAs_63 ?_
  refine pf_X4_21 C dX4_becomeAs_64 ho0 ?_
  refine z_iinc C (k := 2) (v := x2 + 1) (lv2 := [(2, .int (x2 + 1)), (0, .ref (g.1 o0)), (1, .ref (g.1 o1))]) dX4_becomeAs_67 rfl rfl (by decide) rfl ?_
  exact z_goto C dX4_becomeAs_70 (by decide) (z_sub [1, 2, 0] rfl (hK7 (zI (zI (zI (zI z (rf o0 0) (Int32.toNatClampNeg x2) (z.1 (rf o1 0) (Int32.toNatClampNeg x2))) (rf o0 1) (Int32.toNatClampNeg x2) ((zI z (rf o0 0) (Int32.toNatClampNeg x2) (z.1 (rf o1 0) (Int32.toNatClampNeg x2))).1 (rf o1 1) (Int32.toNatClampNeg x2))) (rf o0 2) (Int32.toNatClampNeg x2) ((zI (zI z (rf o0 0) (Int32.toNatClampNeg x2) (z.1 (rf o1 0) (Int32.toNatClampNeg x2))) (rf o0 1) (Int32.toNatClampNeg x2) ((zI z (rf o0 0) (Int32.toNatClampNeg x2) (z.1 (rf o1 0) (Int32.toNatClampNeg x2))).1 (rf o1 1) (Int32.toNatClampNeg x2))).1 (rf o1 2) (Int32.toNatClampNeg x2))) o0 3 (((zI (zI (zI z (rf o0 0) (Int32.toNatClampNeg x2) (z.1 (rf o1 0) (Int32.toNatClampNeg x2))) (rf o0 1) (Int32.toNatClampNeg x2) ((zI z (rf o0 0) (Int32.toNatClampNeg x2) (z.1 (rf o1 0) (Int32.toNatClampNeg x2))).1 (rf o1 1) (Int32.toNatClampNeg x2))) (rf o0 2) (Int32.toNatClampNeg x2) ((zI (zI z (rf o0 0) (Int32.toNatClampNeg x2) (z.1 (rf o1 0) (Int32.toNatClampNeg x2))) (rf o0 1) (Int32.toNatClampNeg x2) ((zI z (rf o0 0) (Int32.toNatClampNeg x2) (z.1 (rf o1 0) (Int32.toNatClampNeg x2))).1 (rf o1 1) (Int32.toNatClampNeg x2))).1 (rf o1 2) (Int32.toNatClampNeg x2))).1 o0 3) + 1)) o0 o1 (x2 + 1) ho0 ho1 hf))
def f_X4_becomeAs_73  (z : St)  : Option (St) :=
  some z
theorem b_X4_becomeAs_73 {p : Program} {l : Launch} {e : Env} {s : State} {m : MethodId} {args : Array Value} {below : List Frame} {meth : Method} {c : Code} {g : Ga} {A : Nat → Prop} (C : Cx l g A p s m args c cX4_becomeAs 3 RX4 (rm_X4_becomeAs) (0, 0)) (hr : meth.sig.returnType = none) (hk : meth.locks = false)   (z : St)   {res : St} (hf : f_X4_becomeAs_73  z  = some res) : Zj p l e (rm_X4_becomeAs) s m args below meth c g A 3 (0, 0) (QV g A below args s res) z 73 [] [] := by
  unfold f_X4_becomeAs_73 at hf
  cases hf
  exact z_vret C hr hk dX4_becomeAs_73
def f_X4_becomeAs_15 (K7 : St → Nat → Nat → Int32 → Option (St)) (z : St) (o0 : Nat) (o1 : Nat) (x2 : Int32) : Option (St) :=
  if 8 ≤ x2 then f_X4_becomeAs_73 z else f_X4_becomeAs_21 K7 z o0 o1 x2
theorem b_X4_becomeAs_15 {p : Program} {l : Launch} {e : Env} {s : State} {m : MethodId} {args : Array Value} {below : List Frame} {meth : Method} {c : Code} {g : Ga} {A : Nat → Prop} (C : Cx l g A p s m args c cX4_becomeAs 3 RX4 (rm_X4_becomeAs) (0, 0)) (hr : meth.sig.returnType = none) (hk : meth.locks = false) {K7 : St → Nat → Nat → Int32 → Option (St)} (hK7 : ∀ (z : St) (o0 : Nat) (o1 : Nat) (x2 : Int32) (_ : kd o0 = 4) (_ : kd o1 = 4) {res : St}, K7 z o0 o1 x2 = some res → Zj p l e (rm_X4_becomeAs) s m args below meth c g A 3 (0, 0) (QV g A below args s res) z 7 [(0, .ref (g.1 o0)), (1, .ref (g.1 o1)), (2, .int x2)] []) (z : St) (o0 : Nat) (o1 : Nat) (x2 : Int32) (ho0 : kd o0 = 4) (ho1 : kd o1 = 4) {res : St} (hf : f_X4_becomeAs_15 K7 z o0 o1 x2 = some res) : Zj p l e (rm_X4_becomeAs) s m args below meth c g A 3 (0, 0) (QV g A below args s res) z 15 [(0, .ref (g.1 o0)), (1, .ref (g.1 o1)), (2, .int x2)] [] := by
  unfold f_X4_becomeAs_15 at hf
  refine z_iload_n C dX4_becomeAs_15 rfl 2 rfl ?_
  refine z_bipush C dX4_becomeAs_16 (v := 8) (by decide) ?_
  exact z_icmp_ge C dX4_becomeAs_18 (by decide) (fun h => z_sub [] rfl (b_X4_becomeAs_73 C hr hk z (q_t hf h))) (fun h => z_sub [0, 1, 2] rfl (b_X4_becomeAs_21 C hr hk hK7 z o0 o1 x2 ho0 ho1 (q_f hf h)))
def f_X4_becomeAs_7  : Nat → St → Nat → Nat → Int32 → Option (St)
  | 0, _, _, _, _ => none
  | n + 1, z, o0, o1, x2 => if (z.1 o1 3) ≤ x2 then f_X4_becomeAs_73 z else f_X4_becomeAs_15 (f_X4_becomeAs_7 n) z o0 o1 x2
theorem b_X4_becomeAs_7 {p : Program} {l : Launch} {e : Env} {s : State} {m : MethodId} {args : Array Value} {below : List Frame} {meth : Method} {c : Code} {g : Ga} {A : Nat → Prop} (C : Cx l g A p s m args c cX4_becomeAs 3 RX4 (rm_X4_becomeAs) (0, 0)) (hr : meth.sig.returnType = none) (hk : meth.locks = false)   : ∀ (n : Nat) (z : St) (o0 : Nat) (o1 : Nat) (x2 : Int32) (_ : kd o0 = 4) (_ : kd o1 = 4) {res : St} (_ : f_X4_becomeAs_7  n z o0 o1 x2 = some res), Zj p l e (rm_X4_becomeAs) s m args below meth c g A 3 (0, 0) (QV g A below args s res) z 7 [(0, .ref (g.1 o0)), (1, .ref (g.1 o1)), (2, .int x2)] [] := by
  intro n
  induction n with
  | zero =>
    intro z o0 o1 x2 ho0 ho1 res hf
    cases hf
  | succ n ih =>
    intro z o0 o1 x2 ho0 ho1 res hf
    rw [f_X4_becomeAs_7] at hf
    refine z_iload_n C dX4_becomeAs_7 rfl 2 rfl ?_
    refine z_aload_n C dX4_becomeAs_8 rfl 1 rfl ?_
    refine gf_X4_21 C dX4_becomeAs_9 ho1 ?_
    exact z_icmp_ge C dX4_becomeAs_12 (by decide) (fun h => z_sub [] rfl (b_X4_becomeAs_73 C hr hk z (q_t hf h))) (fun h => z_sub [0, 1, 2] rfl (b_X4_becomeAs_15 C hr hk ih z o0 o1 x2 ho0 ho1 (q_f hf h)))
def f_X4_becomeAs_0  (z : St) (o0 : Nat) (o1 : Nat) : Option (St) :=
  f_X4_becomeAs_7 FU (zI z o0 3 0) o0 o1 0
theorem b_X4_becomeAs_0 {p : Program} {l : Launch} {e : Env} {s : State} {m : MethodId} {args : Array Value} {below : List Frame} {meth : Method} {c : Code} {g : Ga} {A : Nat → Prop} (C : Cx l g A p s m args c cX4_becomeAs 3 RX4 (rm_X4_becomeAs) (0, 0)) (hr : meth.sig.returnType = none) (hk : meth.locks = false)   (z : St) (o0 : Nat) (o1 : Nat) (ho0 : kd o0 = 4) (ho1 : kd o1 = 4) {res : St} (hf : f_X4_becomeAs_0  z o0 o1 = some res) : Zj p l e (rm_X4_becomeAs) s m args below meth c g A 3 (0, 0) (QV g A below args s res) z 0 [(0, .ref (g.1 o0)), (1, .ref (g.1 o1))] [] := by
  unfold f_X4_becomeAs_0 at hf
  refine z_aload_n C dX4_becomeAs_0 rfl 0 rfl ?_
  refine z_iconst C dX4_becomeAs_1 (v := 0) (by decide) ?_
  refine pf_X4_21 C dX4_becomeAs_2 ho0 ?_
  refine z_iconst C dX4_becomeAs_5 (v := 0) (by decide) ?_
  refine z_istore_n C (lv2 := [(2, .int 0), (0, .ref (g.1 o0)), (1, .ref (g.1 o1))]) dX4_becomeAs_6 rfl (by decide) rfl ?_
  exact z_sub [1, 2, 0] rfl (b_X4_becomeAs_7 C hr hk FU (zI z o0 3 0) o0 o1 0 ho0 ho1 hf)
def f_X4_becomeAs (z : St) (o0 : Nat) (o1 : Nat) : Option (St) := f_X4_becomeAs_0 z o0 o1
theorem c_X4_becomeAs {l : Launch} {g : Ga} {A : Nat → Prop} {z : St} {o0 : Nat} {o1 : Nat} (ho0 : kd o0 = 4) (ho1 : kd o1 = 4) {res : St} (hf : f_X4_becomeAs z o0 o1 = some res) : CV l g A yX4_becomeAs cX4_becomeAs 3 none rm_X4_becomeAs [.ref (g.1 o0), .ref (g.1 o1)] z res :=
  e_CV (by decide) (Nat.le_of_ble_eq_true rfl) rfl (fun p e s m args below meth c C hr hk => z_sub [0, 1] rfl (b_X4_becomeAs_0 C hr hk z o0 o1 ho0 ho1 hf))
abbrev rm_X4_holds : Room := { frames := 0, cells := 0, slots := 0, locals := 0 }
def f_X4_holds_23  (z : St) (s0 : Int32) : Option (St × Int32) :=
  if zb s0 = true then some (z, s0) else none
theorem b_X4_holds_23 {p : Program} {l : Launch} {e : Env} {s : State} {m : MethodId} {args : Array Value} {below : List Frame} {meth : Method} {c : Code} {g : Ga} {A : Nat → Prop} (C : Cx l g A p s m args c cX4_holds 2 RX4 (rm_X4_holds) (0, 0)) (hr : meth.sig.returnType = (some .boolean)) (hk : meth.locks = false)   (z : St) (s0 : Int32)  {res : St × Int32} (hf : f_X4_holds_23  z s0 = some res) : Zj p l e (rm_X4_holds) s m args below meth c g A 2 (0, 0) (QI g A below args s res) z 23 [] [.int s0] := by
  unfold f_X4_holds_23 at hf
  obtain ⟨h1, hf⟩ := q_ck hf
  cases hf
  exact z_zret C hr hk h1 dX4_holds_23
def f_X4_holds_18  (z : St)  : Option (St × Int32) :=
  f_X4_holds_23 z 1
theorem b_X4_holds_18 {p : Program} {l : Launch} {e : Env} {s : State} {m : MethodId} {args : Array Value} {below : List Frame} {meth : Method} {c : Code} {g : Ga} {A : Nat → Prop} (C : Cx l g A p s m args c cX4_holds 2 RX4 (rm_X4_holds) (0, 0)) (hr : meth.sig.returnType = (some .boolean)) (hk : meth.locks = false)   (z : St)   {res : St × Int32} (hf : f_X4_holds_18  z  = some res) : Zj p l e (rm_X4_holds) s m args below meth c g A 2 (0, 0) (QI g A below args s res) z 18 [] [] := by
  unfold f_X4_holds_18 at hf
  refine z_iconst C dX4_holds_18 (v := 1) (by decide) ?_
  exact z_goto C dX4_holds_19 (by decide) (z_sub [] rfl (b_X4_holds_23 C hr hk z 1 hf))
def f_X4_holds_22  (z : St)  : Option (St × Int32) :=
  f_X4_holds_23 z 0
theorem b_X4_holds_22 {p : Program} {l : Launch} {e : Env} {s : State} {m : MethodId} {args : Array Value} {below : List Frame} {meth : Method} {c : Code} {g : Ga} {A : Nat → Prop} (C : Cx l g A p s m args c cX4_holds 2 RX4 (rm_X4_holds) (0, 0)) (hr : meth.sig.returnType = (some .boolean)) (hk : meth.locks = false)   (z : St)   {res : St × Int32} (hf : f_X4_holds_22  z  = some res) : Zj p l e (rm_X4_holds) s m args below meth c g A 2 (0, 0) (QI g A below args s res) z 22 [] [] := by
  unfold f_X4_holds_22 at hf
  refine z_iconst C dX4_holds_22 (v := 0) (by decide) ?_
  exact z_sub [] rfl (b_X4_holds_23 C hr hk z 0 hf)
def f_X4_holds_12  (z : St) (x1 : Int32) : Option (St × Int32) :=
  if 8 ≤ x1 then f_X4_holds_22 z else f_X4_holds_18 z
theorem b_X4_holds_12 {p : Program} {l : Launch} {e : Env} {s : State} {m : MethodId} {args : Array Value} {below : List Frame} {meth : Method} {c : Code} {g : Ga} {A : Nat → Prop} (C : Cx l g A p s m args c cX4_holds 2 RX4 (rm_X4_holds) (0, 0)) (hr : meth.sig.returnType = (some .boolean)) (hk : meth.locks = false)   (z : St) (x1 : Int32)  {res : St × Int32} (hf : f_X4_holds_12  z x1 = some res) : Zj p l e (rm_X4_holds) s m args below meth c g A 2 (0, 0) (QI g A below args s res) z 12 [(1, .int x1)] [] := by
  unfold f_X4_holds_12 at hf
  refine z_iload_n C dX4_holds_12 rfl 0 rfl ?_
  refine z_bipush C dX4_holds_13 (v := 8) (by decide) ?_
  exact z_icmp_ge C dX4_holds_15 (by decide) (fun h => z_sub [] rfl (b_X4_holds_22 C hr hk z (q_t hf h))) (fun h => z_sub [] rfl (b_X4_holds_18 C hr hk z (q_f hf h)))
def f_X4_holds_4  (z : St) (o0 : Nat) (x1 : Int32) : Option (St × Int32) :=
  if (z.1 o0 3) ≤ x1 then f_X4_holds_22 z else f_X4_holds_12 z x1
theorem b_X4_holds_4 {p : Program} {l : Launch} {e : Env} {s : State} {m : MethodId} {args : Array Value} {below : List Frame} {meth : Method} {c : Code} {g : Ga} {A : Nat → Prop} (C : Cx l g A p s m args c cX4_holds 2 RX4 (rm_X4_holds) (0, 0)) (hr : meth.sig.returnType = (some .boolean)) (hk : meth.locks = false)   (z : St) (o0 : Nat) (x1 : Int32) (ho0 : kd o0 = 4) {res : St × Int32} (hf : f_X4_holds_4  z o0 x1 = some res) : Zj p l e (rm_X4_holds) s m args below meth c g A 2 (0, 0) (QI g A below args s res) z 4 [(0, .ref (g.1 o0)), (1, .int x1)] [] := by
  unfold f_X4_holds_4 at hf
  refine z_iload_n C dX4_holds_4 rfl 1 rfl ?_
  refine z_aload_n C dX4_holds_5 rfl 0 rfl ?_
  refine gf_X4_21 C dX4_holds_6 ho0 ?_
  exact z_icmp_ge C dX4_holds_9 (by decide) (fun h => z_sub [] rfl (b_X4_holds_22 C hr hk z (q_t hf h))) (fun h => z_sub [1] rfl (b_X4_holds_12 C hr hk z x1 (q_f hf h)))
def f_X4_holds_0  (z : St) (o0 : Nat) (x1 : Int32) : Option (St × Int32) :=
  if x1 < 0 then f_X4_holds_22 z else f_X4_holds_4 z o0 x1
theorem b_X4_holds_0 {p : Program} {l : Launch} {e : Env} {s : State} {m : MethodId} {args : Array Value} {below : List Frame} {meth : Method} {c : Code} {g : Ga} {A : Nat → Prop} (C : Cx l g A p s m args c cX4_holds 2 RX4 (rm_X4_holds) (0, 0)) (hr : meth.sig.returnType = (some .boolean)) (hk : meth.locks = false)   (z : St) (o0 : Nat) (x1 : Int32) (ho0 : kd o0 = 4) {res : St × Int32} (hf : f_X4_holds_0  z o0 x1 = some res) : Zj p l e (rm_X4_holds) s m args below meth c g A 2 (0, 0) (QI g A below args s res) z 0 [(0, .ref (g.1 o0)), (1, .int x1)] [] := by
  unfold f_X4_holds_0 at hf
  refine z_iload_n C dX4_holds_0 rfl 1 rfl ?_
  exact z_if_lt C dX4_holds_1 (by decide) (fun h => z_sub [] rfl (b_X4_holds_22 C hr hk z (q_t hf h))) (fun h => z_sub [0, 1] rfl (b_X4_holds_4 C hr hk z o0 x1 ho0 (q_f hf h)))
def f_X4_holds (z : St) (o0 : Nat) (x1 : Int32) : Option (St × Int32) := f_X4_holds_0 z o0 x1
theorem c_X4_holds {l : Launch} {g : Ga} {A : Nat → Prop} {z : St} {o0 : Nat} {x1 : Int32} (ho0 : kd o0 = 4) {res : St × Int32} (hf : f_X4_holds z o0 x1 = some res) : CI l g A yX4_holds cX4_holds 2 (some .boolean) rm_X4_holds [.ref (g.1 o0), .int x1] z res :=
  e_CI (by decide) (Nat.le_of_ble_eq_true rfl) rfl (fun p e s m args below meth c C hr hk => z_sub [0, 1] rfl (b_X4_holds_0 C hr hk z o0 x1 ho0 hf))
abbrev rm_X4_leaveOut : Room := { frames := 1, cells := 0, slots := 0, locals := 21 }
def f_X4_leaveOut_8  (z : St)  : Option (St) :=
  some z
theorem b_X4_leaveOut_8 {p : Program} {l : Launch} {e : Env} {s : State} {m : MethodId} {args : Array Value} {below : List Frame} {meth : Method} {c : Code} {g : Ga} {A : Nat → Prop} (C : Cx l g A p s m args c cX4_leaveOut 3 RX4 (rm_X4_leaveOut) (0, 0)) (hr : meth.sig.returnType = none) (hk : meth.locks = false)   (z : St)   {res : St} (hf : f_X4_leaveOut_8  z  = some res) : Zj p l e (rm_X4_leaveOut) s m args below meth c g A 3 (0, 0) (QV g A below args s res) z 8 [] [] := by
  unfold f_X4_leaveOut_8 at hf
  cases hf
  exact z_vret C hr hk dX4_leaveOut_8
def f_X4_leaveOut_27 (K11 : St → Nat → Int32 → Option (St)) (z : St) (o0 : Nat) (x2 : Int32) : Option (St) :=
  if inb (x2 + 1) 8 = true then (if inb x2 8 = true then (if inb (x2 + 1) 8 = true then (if inb x2 8 = true then (if inb (x2 + 1) 8 = true then (if inb x2 8 = true then (K11 (zI (zI (zI z (rf o0 0) (Int32.toNatClampNeg x2) (z.1 (rf o0 0) (Int32.toNatClampNeg (x2 + 1)))) (rf o0 1) (Int32.toNatClampNeg x2) ((zI z (rf o0 0) (Int32.toNatClampNeg x2) (z.1 (rf o0 0) (Int32.toNatClampNeg (x2 + 1)))).1 (rf o0 1) (Int32.toNatClampNeg (x2 + 1)))) (rf o0 2) (Int32.toNatClampNeg x2) ((zI (zI z (rf o0 0) (Int32.toNatClampNeg x2) (z.1 (rf o0 0) (Int32.toNatClampNeg (x2 + 1)))) (rf o0 1) (Int32.toNatClampNeg x2) ((zI z (rf o0 0) (Int32.toNatClampNeg x2) (z.1 (rf o0 0) (Int32.toNatClampNeg (x2 + 1)))).1 (rf o0 1) (Int32.toNatClampNeg (x2 + 1)))).1 (rf o0 2) (Int32.toNatClampNeg (x2 + 1)))) o0 (x2 + 1)) else none) else none) else none) else none) else none) else none
theorem b_X4_leaveOut_27 {p : Program} {l : Launch} {e : Env} {s : State} {m : MethodId} {args : Array Value} {below : List Frame} {meth : Method} {c : Code} {g : Ga} {A : Nat → Prop} (C : Cx l g A p s m args c cX4_leaveOut 3 RX4 (rm_X4_leaveOut) (0, 0)) (hr : meth.sig.returnType = none) (hk : meth.locks = false) {K11 : St → Nat → Int32 → Option (St)} (hK11 : ∀ (z : St) (o0 : Nat) (x2 : Int32) (_ : kd o0 = 4) {res : St}, K11 z o0 x2 = some res → Zj p l e (rm_X4_leaveOut) s m args below meth c g A 3 (0, 0) (QV g A below args s res) z 11 [(0, .ref (g.1 o0)), (2, .int x2)] []) (z : St) (o0 : Nat) (x2 : Int32) (ho0 : kd o0 = 4) {res : St} (hf : f_X4_leaveOut_27 K11 z o0 x2 = some res) : Zj p l e (rm_X4_leaveOut) s m args below meth c g A 3 (0, 0) (QV g A below args s res) z 27 [(0, .ref (g.1 o0)), (2, .int x2)] [] := by
  unfold f_X4_leaveOut_27 at hf
  refine z_aload_n C dX4_leaveOut_27 rfl 0 rfl ?_
  refine gf_X4_9 C dX4_leaveOut_28 ho0 ?_
  refine z_iload_n C dX4_leaveOut_31 rfl 1 rfl ?_
  refine z_aload_n C dX4_leaveOut_32 rfl 0 rfl ?_
  refine gf_X4_9 C dX4_leaveOut_33 ho0 ?_
  refine z_iload_n C dX4_leaveOut_36 rfl 1 rfl ?_
  refine z_iconst C dX4_leaveOut_37 (v := 1) (by decide) ?_
  refine z_iadd C dX4_leaveOut_38 ?_
  obtain ⟨h1, hf⟩ := q_ck hf
  refine z_iald C (n := 8) dX4_leaveOut_39 (rt_4_0 _ (kd_lt ho0 (by decide)) ho0) (by decide) h1 ?_
  obtain ⟨h2, hf⟩ := q_ck hf
  refine z_iast C (n := 8) dX4_leaveOut_40 (rt_4_0 _ (kd_lt ho0 (by decide)) ho0) (by decide) h2 ?_
  refine z_aload_n C dX4_leaveOut_41 rfl 0 rfl ?_
  refine gf_X4_15 C dX4_leaveOut_42 ho0 ?_
  refine z_iload_n C dX4_leaveOut_45 rfl 1 rfl ?_
  refine z_aload_n C dX4_leaveOut_46 rfl 0 rfl ?_
  refine gf_X4_15 C dX4_leaveOut_47 ho0 ?_
  refine z_iload_n C dX4_leaveOut_50 rfl 1 rfl ?_
  refine z_iconst C dX4_leaveOut_51 (v := 1) (by decide) ?_
  refine z_iadd C dX4_leaveOut_52 ?_
  obtain ⟨h3, hf⟩ := q_ck hf
  refine z_iald C (n := 8) dX4_leaveOut_53 (rt_4_1 _ (kd_lt ho0 (by decide)) ho0) (by decide) h3 ?_
  obtain ⟨h4, hf⟩ := q_ck hf
  refine z_iast C (n := 8) dX4_leaveOut_54 (rt_4_1 _ (kd_lt ho0 (by decide)) ho0) (by decide) h4 ?_
  refine z_aload_n C dX4_leaveOut_55 rfl 0 rfl ?_
  refine gf_X4_18 C dX4_leaveOut_56 ho0 ?_
  refine z_iload_n C dX4_leaveOut_59 rfl 1 rfl ?_
  refine z_aload_n C dX4_leaveOut_60 rfl 0 rfl ?_
  refine gf_X4_18 C dX4_leaveOut_61 ho0 ?_
  refine z_iload_n C dX4_leaveOut_64 rfl 1 rfl ?_
  refine z_iconst C dX4_leaveOut_65 (v := 1) (by decide) ?_
  refine z_iadd C dX4_leaveOut_66 ?_
  obtain ⟨h5, hf⟩ := q_ck hf
  refine z_iald C (n := 8) dX4_leaveOut_67 (rt_4_2 _ (kd_lt ho0 (by decide)) ho0) (by decide) h5 ?_
  obtain ⟨h6, hf⟩ := q_ck hf
  refine z_iast C (n := 8) dX4_leaveOut_68 (rt_4_2 _ (kd_lt ho0 (by decide)) ho0) (by decide) h6 ?_
  refine z_iinc C (k := 1) (v := x2 + 1) (lv2 := [(2, .int (x2 + 1)), (0, .ref (g.1 o0))]) dX4_leaveOut_69 rfl rfl (by decide) rfl ?_
  exact z_goto C dX4_leaveOut_72 (by decide) (z_sub [1, 0] rfl (hK11 (zI (zI (zI z (rf o0 0) (Int32.toNatClampNeg x2) (z.1 (rf o0 0) (Int32.toNatClampNeg (x2 + 1)))) (rf o0 1) (Int32.toNatClampNeg x2) ((zI z (rf o0 0) (Int32.toNatClampNeg x2) (z.1 (rf o0 0) (Int32.toNatClampNeg (x2 + 1)))).1 (rf o0 1) (Int32.toNatClampNeg (x2 + 1)))) (rf o0 2) (Int32.toNatClampNeg x2) ((zI (zI z (rf o0 0) (Int32.toNatClampNeg x2) (z.1 (rf o0 0) (Int32.toNatClampNeg (x2 + 1)))) (rf o0 1) (Int32.toNatClampNeg x2) ((zI z (rf o0 0) (Int32.toNatClampNeg x2) (z.1 (rf o0 0) (Int32.toNatClampNeg (x2 + 1)))).1 (rf o0 1) (Int32.toNatClampNeg (x2 + 1)))).1 (rf o0 2) (Int32.toNatClampNeg (x2 + 1)))) o0 (x2 + 1) ho0 hf))
def f_X4_leaveOut_75  (z : St) (o0 : Nat) : Option (St) :=
  some (zI z o0 3 ((z.1 o0 3) - 1))
theorem b_X4_leaveOut_75 {p : Program} {l : Launch} {e : Env} {s : State} {m : MethodId} {args : Array Value} {below : List Frame} {meth : Method} {c : Code} {g : Ga} {A : Nat → Prop} (C : Cx l g A p s m args c cX4_leaveOut 3 RX4 (rm_X4_leaveOut) (0, 0)) (hr : meth.sig.returnType = none) (hk : meth.locks = false)   (z : St) (o0 : Nat) (ho0 : kd o0 = 4) {res : St} (hf : f_X4_leaveOut_75  z o0 = some res) : Zj p l e (rm_X4_leaveOut) s m args below meth c g A 3 (0, 0) (QV g A below args s res) z 75 [(0, .ref (g.1 o0))] [] := by
  unfold f_X4_leaveOut_75 at hf
  refine z_aload_n C dX4_leaveOut_75 rfl 0 rfl ?_
  refine z_dup C dX4_leaveOut_76 rfl ?_
  refine gf_X4_21 C dX4_leaveOut_77 ho0 ?_
  refine z_iconst C dX4_leaveOut_80 (v := 1) (by decide) ?_
  refine z_isub C dX4_leaveOut_81 ?_
  refine pf_X4_21 C dX4_leaveOut_82 ho0 ?_
  cases hf
  exact z_vret C hr hk dX4_leaveOut_85
def f_X4_leaveOut_21 (K11 : St → Nat → Int32 → Option (St)) (z : St) (o0 : Nat) (x2 : Int32) : Option (St) :=
  if 7 ≤ x2 then f_X4_leaveOut_75 z o0 else f_X4_leaveOut_27 K11 z o0 x2
theorem b_X4_leaveOut_21 {p : Program} {l : Launch} {e : Env} {s : State} {m : MethodId} {args : Array Value} {below : List Frame} {meth : Method} {c : Code} {g : Ga} {A : Nat → Prop} (C : Cx l g A p s m args c cX4_leaveOut 3 RX4 (rm_X4_leaveOut) (0, 0)) (hr : meth.sig.returnType = none) (hk : meth.locks = false) {K11 : St → Nat → Int32 → Option (St)} (hK11 : ∀ (z : St) (o0 : Nat) (x2 : Int32) (_ : kd o0 = 4) {res : St}, K11 z o0 x2 = some res → Zj p l e (rm_X4_leaveOut) s m args below meth c g A 3 (0, 0) (QV g A below args s res) z 11 [(0, .ref (g.1 o0)), (2, .int x2)] []) (z : St) (o0 : Nat) (x2 : Int32) (ho0 : kd o0 = 4) {res : St} (hf : f_X4_leaveOut_21 K11 z o0 x2 = some res) : Zj p l e (rm_X4_leaveOut) s m args below meth c g A 3 (0, 0) (QV g A below args s res) z 21 [(0, .ref (g.1 o0)), (2, .int x2)] [] := by
  unfold f_X4_leaveOut_21 at hf
  refine z_iload_n C dX4_leaveOut_21 rfl 1 rfl ?_
  refine z_bipush C dX4_leaveOut_22 (v := 7) (by decide) ?_
  exact z_icmp_ge C dX4_leaveOut_24 (by decide) (fun h => z_sub [0] rfl (b_X4_leaveOut_75 C hr hk z o0 ho0 (q_t hf h))) (fun h => z_sub [0, 1] rfl (b_X4_leaveOut_27 C hr hk hK11 z o0 x2 ho0 (q_f hf h)))
def f_X4_leaveOut_11  : Nat → St → Nat → Int32 → Option (St)
  | 0, _, _, _ => none
  | n + 1, z, o0, x2 => if ((z.1 o0 3) - 1) ≤ x2 then f_X4_leaveOut_75 z o0 else f_X4_leaveOut_21 (f_X4_leaveOut_11 n) z o0 x2
theorem b_X4_leaveOut_11 {p : Program} {l : Launch} {e : Env} {s : State} {m : MethodId} {args : Array Value} {below : List Frame} {meth : Method} {c : Code} {g : Ga} {A : Nat → Prop} (C : Cx l g A p s m args c cX4_leaveOut 3 RX4 (rm_X4_leaveOut) (0, 0)) (hr : meth.sig.returnType = none) (hk : meth.locks = false)   : ∀ (n : Nat) (z : St) (o0 : Nat) (x2 : Int32) (_ : kd o0 = 4) {res : St} (_ : f_X4_leaveOut_11  n z o0 x2 = some res), Zj p l e (rm_X4_leaveOut) s m args below meth c g A 3 (0, 0) (QV g A below args s res) z 11 [(0, .ref (g.1 o0)), (2, .int x2)] [] := by
  intro n
  induction n with
  | zero =>
    intro z o0 x2 ho0 res hf
    cases hf
  | succ n ih =>
    intro z o0 x2 ho0 res hf
    rw [f_X4_leaveOut_11] at hf
    refine z_iload_n C dX4_leaveOut_11 rfl 1 rfl ?_
    refine z_aload_n C dX4_leaveOut_12 rfl 0 rfl ?_
    refine gf_X4_21 C dX4_leaveOut_13 ho0 ?_
    refine z_iconst C dX4_leaveOut_16 (v := 1) (by decide) ?_
    refine z_isub C dX4_leaveOut_17 ?_
    exact z_icmp_ge C dX4_leaveOut_18 (by decide) (fun h => z_sub [0] rfl (b_X4_leaveOut_75 C hr hk z o0 ho0 (q_t hf h))) (fun h => z_sub [0, 1] rfl (b_X4_leaveOut_21 C hr hk ih z o0 x2 ho0 (q_f hf h)))
def f_X4_leaveOut_9  (z : St) (o0 : Nat) (x1 : Int32) : Option (St) :=
  f_X4_leaveOut_11 FU z o0 x1
theorem b_X4_leaveOut_9 {p : Program} {l : Launch} {e : Env} {s : State} {m : MethodId} {args : Array Value} {below : List Frame} {meth : Method} {c : Code} {g : Ga} {A : Nat → Prop} (C : Cx l g A p s m args c cX4_leaveOut 3 RX4 (rm_X4_leaveOut) (0, 0)) (hr : meth.sig.returnType = none) (hk : meth.locks = false)   (z : St) (o0 : Nat) (x1 : Int32) (ho0 : kd o0 = 4) {res : St} (hf : f_X4_leaveOut_9  z o0 x1 = some res) : Zj p l e (rm_X4_leaveOut) s m args below meth c g A 3 (0, 0) (QV g A below args s res) z 9 [(0, .ref (g.1 o0)), (1, .int x1)] [] := by
  unfold f_X4_leaveOut_9 at hf
  refine z_iload_n C dX4_leaveOut_9 rfl 1 rfl ?_
  refine z_istore_n C (lv2 := [(2, .int x1), (0, .ref (g.1 o0)), (1, .int x1)]) dX4_leaveOut_10 rfl (by decide) rfl ?_
  exact z_sub [1, 0] rfl (b_X4_leaveOut_11 C hr hk FU z o0 x1 ho0 hf)
def f_X4_leaveOut_0  (z : St) (o0 : Nat) (x1 : Int32) : Option (St) :=
  ((f_X4_holds z o0 x1).bind fun r1 => if r1.2 = 0 then f_X4_leaveOut_8 r1.1 else f_X4_leaveOut_9 r1.1 o0 x1)
theorem b_X4_leaveOut_0 {p : Program} {l : Launch} {e : Env} {s : State} {m : MethodId} {args : Array Value} {below : List Frame} {meth : Method} {c : Code} {g : Ga} {A : Nat → Prop} (C : Cx l g A p s m args c cX4_leaveOut 3 RX4 (rm_X4_leaveOut) (0, 0)) (hr : meth.sig.returnType = none) (hk : meth.locks = false)   (z : St) (o0 : Nat) (x1 : Int32) (ho0 : kd o0 = 4) {res : St} (hf : f_X4_leaveOut_0  z o0 x1 = some res) : Zj p l e (rm_X4_leaveOut) s m args below meth c g A 3 (0, 0) (QV g A below args s res) z 0 [(0, .ref (g.1 o0)), (1, .int x1)] [] := by
  unfold f_X4_leaveOut_0 at hf
  refine z_aload_n C dX4_leaveOut_0 rfl 0 rfl ?_
  refine z_iload_n C dX4_leaveOut_1 rfl 1 rfl ?_
  obtain ⟨r1, hc2, hf⟩ := q_bd hf
  refine z_cVi C (st := []) (c_X4_holds ho0 hc2) mw_X4_holds ml_X4_38 ho0 (by decide) rfl dX4_leaveOut_2 rfl rfl rfl ⟨Nat.le_of_ble_eq_true rfl, Nat.le_of_ble_eq_true rfl⟩ rfl (Nat.le_of_ble_eq_true rfl) ?_
  exact z_if_ne C dX4_leaveOut_5 (by decide) (fun h => z_sub [0, 1] rfl (b_X4_leaveOut_9 C hr hk r1.1 o0 x1 ho0 (q_f hf h))) (fun h => z_sub [] rfl (b_X4_leaveOut_8 C hr hk r1.1 (q_t hf h)))
def f_X4_leaveOut (z : St) (o0 : Nat) (x1 : Int32) : Option (St) := f_X4_leaveOut_0 z o0 x1
theorem c_X4_leaveOut {l : Launch} {g : Ga} {A : Nat → Prop} {z : St} {o0 : Nat} {x1 : Int32} (ho0 : kd o0 = 4) {res : St} (hf : f_X4_leaveOut z o0 x1 = some res) : CV l g A yX4_leaveOut cX4_leaveOut 3 none rm_X4_leaveOut [.ref (g.1 o0), .int x1] z res :=
  e_CV (by decide) (Nat.le_of_ble_eq_true rfl) rfl (fun p e s m args below meth c C hr hk => z_sub [0, 1] rfl (b_X4_leaveOut_0 C hr hk z o0 x1 ho0 hf))
abbrev rm_X4_comesOf : Room := { frames := 0, cells := 0, slots := 0, locals := 0 }
def f_X4_comesOf_31  (z : St) (s0 : Int32) : Option (St × Int32) :=
  some (z, s0)
theorem b_X4_comesOf_31 {p : Program} {l : Launch} {e : Env} {s : State} {m : MethodId} {args : Array Value} {below : List Frame} {meth : Method} {c : Code} {g : Ga} {A : Nat → Prop} (C : Cx l g A p s m args c cX4_comesOf 2 RX4 (rm_X4_comesOf) (0, 0)) (hr : meth.sig.returnType = (some .int)) (hk : meth.locks = false)   (z : St) (s0 : Int32)  {res : St × Int32} (hf : f_X4_comesOf_31  z s0 = some res) : Zj p l e (rm_X4_comesOf) s m args below meth c g A 2 (0, 0) (QI g A below args s res) z 31 [] [.int s0] := by
  unfold f_X4_comesOf_31 at hf
  cases hf
  exact z_iret C hr hk dX4_comesOf_31
def f_X4_comesOf_21  (z : St) (o0 : Nat) (x1 : Int32) : Option (St × Int32) :=
  if inb x1 8 = true then (f_X4_comesOf_31 z (z.1 (rf o0 0) (Int32.toNatClampNeg x1))) else none
theorem b_X4_comesOf_21 {p : Program} {l : Launch} {e : Env} {s : State} {m : MethodId} {args : Array Value} {below : List Frame} {meth : Method} {c : Code} {g : Ga} {A : Nat → Prop} (C : Cx l g A p s m args c cX4_comesOf 2 RX4 (rm_X4_comesOf) (0, 0)) (hr : meth.sig.returnType = (some .int)) (hk : meth.locks = false)   (z : St) (o0 : Nat) (x1 : Int32) (ho0 : kd o0 = 4) {res : St × Int32} (hf : f_X4_comesOf_21  z o0 x1 = some res) : Zj p l e (rm_X4_comesOf) s m args below meth c g A 2 (0, 0) (QI g A below args s res) z 21 [(0, .ref (g.1 o0)), (1, .int x1)] [] := by
  unfold f_X4_comesOf_21 at hf
  refine z_aload_n C dX4_comesOf_21 rfl 0 rfl ?_
  refine gf_X4_9 C dX4_comesOf_22 ho0 ?_
  refine z_iload_n C dX4_comesOf_25 rfl 1 rfl ?_
  obtain ⟨h1, hf⟩ := q_ck hf
  refine z_iald C (n := 8) dX4_comesOf_26 (rt_4_0 _ (kd_lt ho0 (by decide)) ho0) (by decide) h1 ?_
  exact z_goto C dX4_comesOf_27 (by decide) (z_sub [] rfl (b_X4_comesOf_31 C hr hk z (z.1 (rf o0 0) (Int32.toNatClampNeg x1)) hf))
def f_X4_comesOf_30  (z : St)  : Option (St × Int32) :=
  f_X4_comesOf_31 z 0
theorem b_X4_comesOf_30 {p : Program} {l : Launch} {e : Env} {s : State} {m : MethodId} {args : Array Value} {below : List Frame} {meth : Method} {c : Code} {g : Ga} {A : Nat → Prop} (C : Cx l g A p s m args c cX4_comesOf 2 RX4 (rm_X4_comesOf) (0, 0)) (hr : meth.sig.returnType = (some .int)) (hk : meth.locks = false)   (z : St)   {res : St × Int32} (hf : f_X4_comesOf_30  z  = some res) : Zj p l e (rm_X4_comesOf) s m args below meth c g A 2 (0, 0) (QI g A below args s res) z 30 [] [] := by
  unfold f_X4_comesOf_30 at hf
  refine z_iconst C dX4_comesOf_30 (v := 0) (by decide) ?_
  exact z_sub [] rfl (b_X4_comesOf_31 C hr hk z 0 hf)
def f_X4_comesOf_12  (z : St) (o0 : Nat) (x1 : Int32) : Option (St × Int32) :=
  if 8 ≤ x1 then f_X4_comesOf_30 z else f_X4_comesOf_21 z o0 x1
theorem b_X4_comesOf_12 {p : Program} {l : Launch} {e : Env} {s : State} {m : MethodId} {args : Array Value} {below : List Frame} {meth : Method} {c : Code} {g : Ga} {A : Nat → Prop} (C : Cx l g A p s m args c cX4_comesOf 2 RX4 (rm_X4_comesOf) (0, 0)) (hr : meth.sig.returnType = (some .int)) (hk : meth.locks = false)   (z : St) (o0 : Nat) (x1 : Int32) (ho0 : kd o0 = 4) {res : St × Int32} (hf : f_X4_comesOf_12  z o0 x1 = some res) : Zj p l e (rm_X4_comesOf) s m args below meth c g A 2 (0, 0) (QI g A below args s res) z 12 [(0, .ref (g.1 o0)), (1, .int x1)] [] := by
  unfold f_X4_comesOf_12 at hf
  refine z_iload_n C dX4_comesOf_12 rfl 1 rfl ?_
  refine z_aload_n C dX4_comesOf_13 rfl 0 rfl ?_
  refine gf_X4_9 C dX4_comesOf_14 ho0 ?_
  refine z_alenI C (n := 8) (v := 8) dX4_comesOf_17 (rt_4_0 _ (kd_lt ho0 (by decide)) ho0) (by decide) rfl ?_
  exact z_icmp_ge C dX4_comesOf_18 (by decide) (fun h => z_sub [] rfl (b_X4_comesOf_30 C hr hk z (q_t hf h))) (fun h => z_sub [0, 1] rfl (b_X4_comesOf_21 C hr hk z o0 x1 ho0 (q_f hf h)))
def f_X4_comesOf_4  (z : St) (o0 : Nat) (x1 : Int32) : Option (St × Int32) :=
  if (z.1 o0 3) ≤ x1 then f_X4_comesOf_30 z else f_X4_comesOf_12 z o0 x1
theorem b_X4_comesOf_4 {p : Program} {l : Launch} {e : Env} {s : State} {m : MethodId} {args : Array Value} {below : List Frame} {meth : Method} {c : Code} {g : Ga} {A : Nat → Prop} (C : Cx l g A p s m args c cX4_comesOf 2 RX4 (rm_X4_comesOf) (0, 0)) (hr : meth.sig.returnType = (some .int)) (hk : meth.locks = false)   (z : St) (o0 : Nat) (x1 : Int32) (ho0 : kd o0 = 4) {res : St × Int32} (hf : f_X4_comesOf_4  z o0 x1 = some res) : Zj p l e (rm_X4_comesOf) s m args below meth c g A 2 (0, 0) (QI g A below args s res) z 4 [(0, .ref (g.1 o0)), (1, .int x1)] [] := by
  unfold f_X4_comesOf_4 at hf
  refine z_iload_n C dX4_comesOf_4 rfl 1 rfl ?_
  refine z_aload_n C dX4_comesOf_5 rfl 0 rfl ?_
  refine gf_X4_21 C dX4_comesOf_6 ho0 ?_
  exact z_icmp_ge C dX4_comesOf_9 (by decide) (fun h => z_sub [] rfl (b_X4_comesOf_30 C hr hk z (q_t hf h))) (fun h => z_sub [0, 1] rfl (b_X4_comesOf_12 C hr hk z o0 x1 ho0 (q_f hf h)))
def f_X4_comesOf_0  (z : St) (o0 : Nat) (x1 : Int32) : Option (St × Int32) :=
  if x1 < 0 then f_X4_comesOf_30 z else f_X4_comesOf_4 z o0 x1
theorem b_X4_comesOf_0 {p : Program} {l : Launch} {e : Env} {s : State} {m : MethodId} {args : Array Value} {below : List Frame} {meth : Method} {c : Code} {g : Ga} {A : Nat → Prop} (C : Cx l g A p s m args c cX4_comesOf 2 RX4 (rm_X4_comesOf) (0, 0)) (hr : meth.sig.returnType = (some .int)) (hk : meth.locks = false)   (z : St) (o0 : Nat) (x1 : Int32) (ho0 : kd o0 = 4) {res : St × Int32} (hf : f_X4_comesOf_0  z o0 x1 = some res) : Zj p l e (rm_X4_comesOf) s m args below meth c g A 2 (0, 0) (QI g A below args s res) z 0 [(0, .ref (g.1 o0)), (1, .int x1)] [] := by
  unfold f_X4_comesOf_0 at hf
  refine z_iload_n C dX4_comesOf_0 rfl 1 rfl ?_
  exact z_if_lt C dX4_comesOf_1 (by decide) (fun h => z_sub [] rfl (b_X4_comesOf_30 C hr hk z (q_t hf h))) (fun h => z_sub [0, 1] rfl (b_X4_comesOf_4 C hr hk z o0 x1 ho0 (q_f hf h)))
def f_X4_comesOf (z : St) (o0 : Nat) (x1 : Int32) : Option (St × Int32) := f_X4_comesOf_0 z o0 x1
theorem c_X4_comesOf {l : Launch} {g : Ga} {A : Nat → Prop} {z : St} {o0 : Nat} {x1 : Int32} (ho0 : kd o0 = 4) {res : St × Int32} (hf : f_X4_comesOf z o0 x1 = some res) : CI l g A yX4_comesOf cX4_comesOf 2 (some .int) rm_X4_comesOf [.ref (g.1 o0), .int x1] z res :=
  e_CI (by decide) (Nat.le_of_ble_eq_true rfl) rfl (fun p e s m args below meth c C hr hk => z_sub [0, 1] rfl (b_X4_comesOf_0 C hr hk z o0 x1 ho0 hf))
abbrev rm_X4_changeComes : Room := { frames := 1, cells := 0, slots := 0, locals := 21 }
def f_X4_changeComes_21  (z : St) (x3 : Int32) : Option (St × Int32) :=
  some (z, x3)
theorem b_X4_changeComes_21 {p : Program} {l : Launch} {e : Env} {s : State} {m : MethodId} {args : Array Value} {below : List Frame} {meth : Method} {c : Code} {g : Ga} {A : Nat → Prop} (C : Cx l g A p s m args c cX4_changeComes 4 RX4 (rm_X4_changeComes) (0, 0)) (hr : meth.sig.returnType = (some .int)) (hk : meth.locks = false)   (z : St) (x3 : Int32)  {res : St × Int32} (hf : f_X4_changeComes_21  z x3 = some res) : Zj p l e (rm_X4_changeComes) s m args below meth c g A 4 (0, 0) (QI g A below args s res) z 21 [(3, .int x3)] [] := by
  unfold f_X4_changeComes_21 at hf
  refine z_iload_n C dX4_changeComes_21 rfl 0 rfl ?_
  cases hf
  exact z_iret C hr hk dX4_changeComes_22
def f_X4_changeComes_14  (z : St) (o0 : Nat) (x1 : Int32) (x2 : Int32) (x3 : Int32) : Option (St × Int32) :=
  if inb x1 8 = true then (f_X4_changeComes_21 (zI z (rf o0 0) (Int32.toNatClampNeg x1) x2) x3) else none
theorem b_X4_changeComes_14 {p : Program} {l : Launch} {e : Env} {s : State} {m : MethodId} {args : Array Value} {below : List Frame} {meth : Method} {c : Code} {g : Ga} {A : Nat → Prop} (C : Cx l g A p s m args c cX4_changeComes 4 RX4 (rm_X4_changeComes) (0, 0)) (hr : meth.sig.returnType = (some .int)) (hk : meth.locks = false)   (z : St) (o0 : Nat) (x1 : Int32) (x2 : Int32) (x3 : Int32) (ho0 : kd o0 = 4) {res : St × Int32} (hf : f_X4_changeComes_14  z o0 x1 x2 x3 = some res) : Zj p l e (rm_X4_changeComes) s m args below meth c g A 4 (0, 0) (QI g A below args s res) z 14 [(0, .ref (g.1 o0)), (1, .int x1), (2, .int x2), (3, .int x3)] [] := by
  unfold f_X4_changeComes_14 at hf
  refine z_aload_n C dX4_changeComes_14 rfl 0 rfl ?_
  refine gf_X4_9 C dX4_changeComes_15 ho0 ?_
  refine z_iload_n C dX4_changeComes_18 rfl 1 rfl ?_
  refine z_iload_n C dX4_changeComes_19 rfl 2 rfl ?_
  obtain ⟨h1, hf⟩ := q_ck hf
  refine z_iast C (n := 8) dX4_changeComes_20 (rt_4_0 _ (kd_lt ho0 (by decide)) ho0) (by decide) h1 ?_
  exact z_sub [3] rfl (b_X4_changeComes_21 C hr hk (zI z (rf o0 0) (Int32.toNatClampNeg x1) x2) x3 hf)
def f_X4_changeComes_0  (z : St) (o0 : Nat) (x1 : Int32) (x2 : Int32) : Option (St × Int32) :=
  ((f_X4_comesOf z o0 x1).bind fun r1 => ((f_X4_holds r1.1 o0 x1).bind fun r3 => if r3.2 = 0 then f_X4_changeComes_21 r3.1 r1.2 else f_X4_changeComes_14 r3.1 o0 x1 x2 r1.2))
theorem b_X4_changeComes_0 {p : Program} {l : Launch} {e : Env} {s : State} {m : MethodId} {args : Array Value} {below : List Frame} {meth : Method} {c : Code} {g : Ga} {A : Nat → Prop} (C : Cx l g A p s m args c cX4_changeComes 4 RX4 (rm_X4_changeComes) (0, 0)) (hr : meth.sig.returnType = (some .int)) (hk : meth.locks = false)   (z : St) (o0 : Nat) (x1 : Int32) (x2 : Int32) (ho0 : kd o0 = 4) {res : St × Int32} (hf : f_X4_changeComes_0  z o0 x1 x2 = some res) : Zj p l e (rm_X4_changeComes) s m args below meth c g A 4 (0, 0) (QI g A below args s res) z 0 [(0, .ref (g.1 o0)), (1, .int x1), (2, .int x2)] [] := by
  unfold f_X4_changeComes_0 at hf
  refine z_aload_n C dX4_changeComes_0 rfl 0 rfl ?_
  refine z_iload_n C dX4_changeComes_1 rfl 1 rfl ?_
  obtain ⟨r1, hc2, hf⟩ := q_bd hf
  refine z_cVi C (st := []) (c_X4_comesOf ho0 hc2) mw_X4_comesOf ml_X4_43 ho0 (by decide) rfl dX4_changeComes_2 rfl rfl rfl ⟨Nat.le_of_ble_eq_true rfl, Nat.le_of_ble_eq_true rfl⟩ rfl (Nat.le_of_ble_eq_true rfl) ?_
  refine z_istore_n C (lv2 := [(3, .int r1.2), (0, .ref (g.1 o0)), (1, .int x1), (2, .int x2)]) dX4_changeComes_5 rfl (by decide) rfl ?_
  refine z_aload_n C dX4_changeComes_6 rfl 1 rfl ?_
  refine z_iload_n C dX4_changeComes_7 rfl 2 rfl ?_
  obtain ⟨r3, hc4, hf⟩ := q_bd hf
  refine z_cVi C (st := []) (c_X4_holds ho0 hc4) mw_X4_holds ml_X4_38 ho0 (by decide) rfl dX4_changeComes_8 rfl rfl rfl ⟨Nat.le_of_ble_eq_true rfl, Nat.le_of_ble_eq_true rfl⟩ rfl (Nat.le_of_ble_eq_true rfl) ?_
  exact z_if_eq C dX4_changeComes_11 (by decide) (fun h => z_sub [0] rfl (b_X4_changeComes_21 C hr hk r3.1 r1.2 (q_t hf h))) (fun h => z_sub [1, 2, 3, 0] rfl (b_X4_changeComes_14 C hr hk r3.1 o0 x1 x2 r1.2 ho0 (q_f hf h)))
def f_X4_changeComes (z : St) (o0 : Nat) (x1 : Int32) (x2 : Int32) : Option (St × Int32) := f_X4_changeComes_0 z o0 x1 x2
theorem c_X4_changeComes {l : Launch} {g : Ga} {A : Nat → Prop} {z : St} {o0 : Nat} {x1 : Int32} {x2 : Int32} (ho0 : kd o0 = 4) {res : St × Int32} (hf : f_X4_changeComes z o0 x1 x2 = some res) : CI l g A yX4_changeComes cX4_changeComes 4 (some .int) rm_X4_changeComes [.ref (g.1 o0), .int x1, .int x2] z res :=
  e_CI (by decide) (Nat.le_of_ble_eq_true rfl) rfl (fun p e s m args below meth c C hr hk => z_sub [0, 1, 2] rfl (b_X4_changeComes_0 C hr hk z o0 x1 x2 ho0 hf))
abbrev rm_X4_comeLater : Room := { frames := 2, cells := 0, slots := 0, locals := 44 }
def f_X4_comeLater_4  (z : St)  : Option (St) :=
  some z
theorem b_X4_comeLater_4 {p : Program} {l : Launch} {e : Env} {s : State} {m : MethodId} {args : Array Value} {below : List Frame} {meth : Method} {c : Code} {g : Ga} {A : Nat → Prop} (C : Cx l g A p s m args c cX4_comeLater 5 RX4 (rm_X4_comeLater) (0, 0)) (hr : meth.sig.returnType = none) (hk : meth.locks = false)   (z : St)   {res : St} (hf : f_X4_comeLater_4  z  = some res) : Zj p l e (rm_X4_comeLater) s m args below meth c g A 5 (0, 0) (QV g A below args s res) z 4 [] [] := by
  unfold f_X4_comeLater_4 at hf
  cases hf
  exact z_vret C hr hk dX4_comeLater_4
def f_X4_comeLater_19 (K10 : St → Nat → Int32 → Int32 → Int32 → Option (St)) (z : St) (o0 : Nat) (x2 : Int32) (x3 : Int32) (x4 : Int32) : Option (St) :=
  ((f_X4_comesOf z o0 x4).bind fun r1 => if decide ((x2 + 1) ≠ 0) = true then (((f_X4_changeComes r1.1 o0 x4 (r1.2 + ((ius ((x3 * 1103515245) + 12345) 9) - (ius ((x3 * 1103515245) + 12345) 9) / (x2 + 1) * (x2 + 1)))).bind fun r4 => K10 r4.1 o0 x2 ((x3 * 1103515245) + 12345) (x4 + 1))) else none)
theorem b_X4_comeLater_19 {p : Program} {l : Launch} {e : Env} {s : State} {m : MethodId} {args : Array Value} {below : List Frame} {meth : Method} {c : Code} {g : Ga} {A : Nat → Prop} (C : Cx l g A p s m args c cX4_comeLater 5 RX4 (rm_X4_comeLater) (0, 0)) (hr : meth.sig.returnType = none) (hk : meth.locks = false) {K10 : St → Nat → Int32 → Int32 → Int32 → Option (St)} (hK10 : ∀ (z : St) (o0 : Nat) (x2 : Int32) (x3 : Int32) (x4 : Int32) (_ : kd o0 = 4) {res : St}, K10 z o0 x2 x3 x4 = some res → Zj p l e (rm_X4_comeLater) s m args below meth c g A 5 (0, 0) (QV g A below args s res) z 10 [(0, .ref (g.1 o0)), (2, .int x2), (3, .int x3), (4, .int x4)] []) (z : St) (o0 : Nat) (x2 : Int32) (x3 : Int32) (x4 : Int32) (ho0 : kd o0 = 4) {res : St} (hf : f_X4_comeLater_19 K10 z o0 x2 x3 x4 = some res) : Zj p l e (rm_X4_comeLater) s m args below meth c g A 5 (0, 0) (QV g A below args s res) z 19 [(0, .ref (g.1 o0)), (2, .int x2), (3, .int x3), (4, .int x4)] [] := by
  unfold f_X4_comeLater_19 at hf
  refine z_iload_n C dX4_comeLater_19 rfl 2 rfl ?_
  refine z_ldc C dX4_comeLater_20 kc_X4_42 ?_
  refine z_imul C dX4_comeLater_22 ?_
  refine z_sipush C dX4_comeLater_23 (v := 12345) (by decide) ?_
  refine z_iadd C dX4_comeLater_26 ?_
  refine z_istore_n C (lv2 := [(3, .int ((x3 * 1103515245) + 12345)), (0, .ref (g.1 o0)), (2, .int x2), (4, .int x4)]) dX4_comeLater_27 rfl (by decide) rfl ?_
  refine z_aload_n C dX4_comeLater_28 rfl 1 rfl ?_
  refine z_iload C dX4_comeLater_29 3 rfl ?_
  refine z_aload_n C dX4_comeLater_31 rfl 1 rfl ?_
  refine z_iload C dX4_comeLater_32 3 rfl ?_
  obtain ⟨r1, hc2, hf⟩ := q_bd hf
  refine z_cVi C (st := [.int x4, .ref (g.1 o0)]) (c_X4_comesOf ho0 hc2) mw_X4_comesOf ml_X4_43 ho0 (by decide) rfl dX4_comeLater_34 rfl rfl rfl ⟨Nat.le_of_ble_eq_true rfl, Nat.le_of_ble_eq_true rfl⟩ rfl (Nat.le_of_ble_eq_true rfl) ?_
  refine z_iload_n C dX4_comeLater_37 rfl 0 rfl ?_
  refine z_bipush C dX4_comeLater_38 (v := 9) (by decide) ?_
  refine z_iushr C dX4_comeLater_40 ?_
  refine z_iload_n C dX4_comeLater_41 rfl 2 rfl ?_
  refine z_iconst C dX4_comeLater_42 (v := 1) (by decide) ?_
  refine z_iadd C dX4_comeLater_43 ?_
  obtain ⟨h3, hf⟩ := q_ck hf
  refine z_irem C dX4_comeLater_44 (q_nz h3) ?_
  refine z_iadd C dX4_comeLater_45 ?_
  obtain ⟨r4, hc5, hf⟩ := q_bd hf
  refine z_cVi C (st := []) (c_X4_changeComes ho0 hc5) mw_X4_changeComes ml_X4_44 ho0 (by decide) rfl dX4_comeLater_46 rfl rfl rfl ⟨Nat.le_of_ble_eq_true rfl, Nat.le_of_ble_eq_true rfl⟩ rfl (Nat.le_of_ble_eq_true rfl) ?_
  refine z_pop C dX4_comeLater_49 rfl ?_
  refine z_iinc C (k := 3) (v := x4 + 1) (lv2 := [(4, .int (x4 + 1)), (3, .int ((x3 * 1103515245) + 12345)), (0, .ref (g.1 o0)), (2, .int x2)]) dX4_comeLater_50 rfl rfl (by decide) rfl ?_
  exact z_goto C dX4_comeLater_53 (by decide) (z_sub [2, 3, 1, 0] rfl (hK10 r4.1 o0 x2 ((x3 * 1103515245) + 12345) (x4 + 1) ho0 hf))
def f_X4_comeLater_56  (z : St)  : Option (St) :=
  some z
theorem b_X4_comeLater_56 {p : Program} {l : Launch} {e : Env} {s : State} {m : MethodId} {args : Array Value} {below : List Frame} {meth : Method} {c : Code} {g : Ga} {A : Nat → Prop} (C : Cx l g A p s m args c cX4_comeLater 5 RX4 (rm_X4_comeLater) (0, 0)) (hr : meth.sig.returnType = none) (hk : meth.locks = false)   (z : St)   {res : St} (hf : f_X4_comeLater_56  z  = some res) : Zj p l e (rm_X4_comeLater) s m args below meth c g A 5 (0, 0) (QV g A below args s res) z 56 [] [] := by
  unfold f_X4_comeLater_56 at hf
  cases hf
  exact z_vret C hr hk dX4_comeLater_56
def f_X4_comeLater_10  : Nat → St → Nat → Int32 → Int32 → Int32 → Option (St)
  | 0, _, _, _, _, _ => none
  | n + 1, z, o0, x2, x3, x4 => if (z.1 o0 3) ≤ x4 then f_X4_comeLater_56 z else f_X4_comeLater_19 (f_X4_comeLater_10 n) z o0 x2 x3 x4
theorem b_X4_comeLater_10 {p : Program} {l : Launch} {e : Env} {s : State} {m : MethodId} {args : Array Value} {below : List Frame} {meth : Method} {c : Code} {g : Ga} {A : Nat → Prop} (C : Cx l g A p s m args c cX4_comeLater 5 RX4 (rm_X4_comeLater) (0, 0)) (hr : meth.sig.returnType = none) (hk : meth.locks = false)   : ∀ (n : Nat) (z : St) (o0 : Nat) (x2 : Int32) (x3 : Int32) (x4 : Int32) (_ : kd o0 = 4) {res : St} (_ : f_X4_comeLater_10  n z o0 x2 x3 x4 = some res), Zj p l e (rm_X4_comeLater) s m args below meth c g A 5 (0, 0) (QV g A below args s res) z 10 [(0, .ref (g.1 o0)), (2, .int x2), (3, .int x3), (4, .int x4)] [] := by
  intro n
  induction n with
  | zero =>
    intro z o0 x2 x3 x4 ho0 res hf
    cases hf
  | succ n ih =>
    intro z o0 x2 x3 x4 ho0 res hf
    rw [f_X4_comeLater_10] at hf
    refine z_iload C dX4_comeLater_10 3 rfl ?_
    refine z_aload_n C dX4_comeLater_12 rfl 0 rfl ?_
    refine gf_X4_21 C dX4_comeLater_13 ho0 ?_
    exact z_icmp_ge C dX4_comeLater_16 (by decide) (fun h => z_sub [] rfl (b_X4_comeLater_56 C hr hk z (q_t hf h))) (fun h => z_sub [0, 1, 2, 3] rfl (b_X4_comeLater_19 C hr hk ih z o0 x2 x3 x4 ho0 (q_f hf h)))
def f_X4_comeLater_5  (z : St) (o0 : Nat) (x1 : Int32) (x2 : Int32) : Option (St) :=
  f_X4_comeLater_10 FU z o0 x2 x1 0
theorem b_X4_comeLater_5 {p : Program} {l : Launch} {e : Env} {s : State} {m : MethodId} {args : Array Value} {below : List Frame} {meth : Method} {c : Code} {g : Ga} {A : Nat → Prop} (C : Cx l g A p s m args c cX4_comeLater 5 RX4 (rm_X4_comeLater) (0, 0)) (hr : meth.sig.returnType = none) (hk : meth.locks = false)   (z : St) (o0 : Nat) (x1 : Int32) (x2 : Int32) (ho0 : kd o0 = 4) {res : St} (hf : f_X4_comeLater_5  z o0 x1 x2 = some res) : Zj p l e (rm_X4_comeLater) s m args below meth c g A 5 (0, 0) (QV g A below args s res) z 5 [(0, .ref (g.1 o0)), (1, .int x1), (2, .int x2)] [] := by
  unfold f_X4_comeLater_5 at hf
  refine z_iload_n C dX4_comeLater_5 rfl 1 rfl ?_
  refine z_istore_n C (lv2 := [(3, .int x1), (0, .ref (g.1 o0)), (1, .int x1), (2, .int x2)]) dX4_comeLater_6 rfl (by decide) rfl ?_
  refine z_iconst C dX4_comeLater_7 (v := 0) (by decide) ?_
  refine z_istore C (lv2 := [(4, .int 0), (3, .int x1), (0, .ref (g.1 o0)), (1, .int x1), (2, .int x2)]) dX4_comeLater_8 (by decide) rfl ?_
  exact z_sub [2, 4, 1, 0] rfl (b_X4_comeLater_10 C hr hk FU z o0 x2 x1 0 ho0 hf)
def f_X4_comeLater_0  (z : St) (o0 : Nat) (x1 : Int32) (x2 : Int32) : Option (St) :=
  if 0 ≤ x2 then f_X4_comeLater_5 z o0 x1 x2 else f_X4_comeLater_4 z
theorem b_X4_comeLater_0 {p : Program} {l : Launch} {e : Env} {s : State} {m : MethodId} {args : Array Value} {below : List Frame} {meth : Method} {c : Code} {g : Ga} {A : Nat → Prop} (C : Cx l g A p s m args c cX4_comeLater 5 RX4 (rm_X4_comeLater) (0, 0)) (hr : meth.sig.returnType = none) (hk : meth.locks = false)   (z : St) (o0 : Nat) (x1 : Int32) (x2 : Int32) (ho0 : kd o0 = 4) {res : St} (hf : f_X4_comeLater_0  z o0 x1 x2 = some res) : Zj p l e (rm_X4_comeLater) s m args below meth c g A 5 (0, 0) (QV g A below args s res) z 0 [(0, .ref (g.1 o0)), (1, .int x1), (2, .int x2)] [] := by
  unfold f_X4_comeLater_0 at hf
  refine z_iload_n C dX4_comeLater_0 rfl 2 rfl ?_
  exact z_if_ge C dX4_comeLater_1 (by decide) (fun h => z_sub [0, 1, 2] rfl (b_X4_comeLater_5 C hr hk z o0 x1 x2 ho0 (q_t hf h))) (fun h => z_sub [] rfl (b_X4_comeLater_4 C hr hk z (q_f hf h)))
def f_X4_comeLater (z : St) (o0 : Nat) (x1 : Int32) (x2 : Int32) : Option (St) := f_X4_comeLater_0 z o0 x1 x2
theorem c_X4_comeLater {l : Launch} {g : Ga} {A : Nat → Prop} {z : St} {o0 : Nat} {x1 : Int32} {x2 : Int32} (ho0 : kd o0 = 4) {res : St} (hf : f_X4_comeLater z o0 x1 x2 = some res) : CV l g A yX4_comeLater cX4_comeLater 5 none rm_X4_comeLater [.ref (g.1 o0), .int x1, .int x2] z res :=
  e_CV (by decide) (Nat.le_of_ble_eq_true rfl) rfl (fun p e s m args below meth c C hr hk => z_sub [0, 1, 2] rfl (b_X4_comeLater_0 C hr hk z o0 x1 x2 ho0 hf))
abbrev rm_X4_everyone : Room := { frames := 0, cells := 0, slots := 0, locals := 0 }
def f_X4_everyone_0  (z : St) (o0 : Nat) : Option (St × Int32) :=
  some (z, ((1 : Int32) <<< ((z.1 o0 3) &&& 31)) - 1)
theorem b_X4_everyone_0 {p : Program} {l : Launch} {e : Env} {s : State} {m : MethodId} {args : Array Value} {below : List Frame} {meth : Method} {c : Code} {g : Ga} {A : Nat → Prop} (C : Cx l g A p s m args c cX4_everyone 1 RX4 (rm_X4_everyone) (0, 0)) (hr : meth.sig.returnType = (some .int)) (hk : meth.locks = false)   (z : St) (o0 : Nat) (ho0 : kd o0 = 4) {res : St × Int32} (hf : f_X4_everyone_0  z o0 = some res) : Zj p l e (rm_X4_everyone) s m args below meth c g A 1 (0, 0) (QI g A below args s res) z 0 [(0, .ref (g.1 o0))] [] := by
  unfold f_X4_everyone_0 at hf
  refine z_iconst C dX4_everyone_0 (v := 1) (by decide) ?_
  refine z_aload_n C dX4_everyone_1 rfl 0 rfl ?_
  refine gf_X4_21 C dX4_everyone_2 ho0 ?_
  refine z_ishl C dX4_everyone_5 ?_
  refine z_iconst C dX4_everyone_6 (v := 1) (by decide) ?_
  refine z_isub C dX4_everyone_7 ?_
  cases hf
  exact z_iret C hr hk dX4_everyone_8
def f_X4_everyone (z : St) (o0 : Nat) : Option (St × Int32) := f_X4_everyone_0 z o0
theorem c_X4_everyone {l : Launch} {g : Ga} {A : Nat → Prop} {z : St} {o0 : Nat} (ho0 : kd o0 = 4) {res : St × Int32} (hf : f_X4_everyone z o0 = some res) : CI l g A yX4_everyone cX4_everyone 1 (some .int) rm_X4_everyone [.ref (g.1 o0)] z res :=
  e_CI (by decide) (Nat.le_of_ble_eq_true rfl) rfl (fun p e s m args below meth c C hr hk => z_sub [0] rfl (b_X4_everyone_0 C hr hk z o0 ho0 hf))
abbrev rm_X4_takesOf : Room := { frames := 0, cells := 0, slots := 0, locals := 0 }
def f_X4_takesOf_31  (z : St) (s0 : Int32) : Option (St × Int32) :=
  some (z, s0)
theorem b_X4_takesOf_31 {p : Program} {l : Launch} {e : Env} {s : State} {m : MethodId} {args : Array Value} {below : List Frame} {meth : Method} {c : Code} {g : Ga} {A : Nat → Prop} (C : Cx l g A p s m args c cX4_takesOf 2 RX4 (rm_X4_takesOf) (0, 0)) (hr : meth.sig.returnType = (some .int)) (hk : meth.locks = false)   (z : St) (s0 : Int32)  {res : St × Int32} (hf : f_X4_takesOf_31  z s0 = some res) : Zj p l e (rm_X4_takesOf) s m args below meth c g A 2 (0, 0) (QI g A below args s res) z 31 [] [.int s0] := by
  unfold f_X4_takesOf_31 at hf
  cases hf
  exact z_iret C hr hk dX4_takesOf_31
def f_X4_takesOf_21  (z : St) (o0 : Nat) (x1 : Int32) : Option (St × Int32) :=
  if inb x1 8 = true then (f_X4_takesOf_31 z (z.1 (rf o0 1) (Int32.toNatClampNeg x1))) else none
theorem b_X4_takesOf_21 {p : Program} {l : Launch} {e : Env} {s : State} {m : MethodId} {args : Array Value} {below : List Frame} {meth : Method} {c : Code} {g : Ga} {A : Nat → Prop} (C : Cx l g A p s m args c cX4_takesOf 2 RX4 (rm_X4_takesOf) (0, 0)) (hr : meth.sig.returnType = (some .int)) (hk : meth.locks = false)   (z : St) (o0 : Nat) (x1 : Int32) (ho0 : kd o0 = 4) {res : St × Int32} (hf : f_X4_takesOf_21  z o0 x1 = some res) : Zj p l e (rm_X4_takesOf) s m args below meth c g A 2 (0, 0) (QI g A below args s res) z 21 [(0, .ref (g.1 o0)), (1, .int x1)] [] := by
  unfold f_X4_takesOf_21 at hf
  refine z_aload_n C dX4_takesOf_21 rfl 0 rfl ?_
  refine gf_X4_15 C dX4_takesOf_22 ho0 ?_
  refine z_iload_n C dX4_takesOf_25 rfl 1 rfl ?_
  obtain ⟨h1, hf⟩ := q_ck hf
  refine z_iald C (n := 8) dX4_takesOf_26 (rt_4_1 _ (kd_lt ho0 (by decide)) ho0) (by decide) h1 ?_
  exact z_goto C dX4_takesOf_27 (by decide) (z_sub [] rfl (b_X4_takesOf_31 C hr hk z (z.1 (rf o0 1) (Int32.toNatClampNeg x1)) hf))
def f_X4_takesOf_30  (z : St)  : Option (St × Int32) :=
  f_X4_takesOf_31 z 0
theorem b_X4_takesOf_30 {p : Program} {l : Launch} {e : Env} {s : State} {m : MethodId} {args : Array Value} {below : List Frame} {meth : Method} {c : Code} {g : Ga} {A : Nat → Prop} (C : Cx l g A p s m args c cX4_takesOf 2 RX4 (rm_X4_takesOf) (0, 0)) (hr : meth.sig.returnType = (some .int)) (hk : meth.locks = false)   (z : St)   {res : St × Int32} (hf : f_X4_takesOf_30  z  = some res) : Zj p l e (rm_X4_takesOf) s m args below meth c g A 2 (0, 0) (QI g A below args s res) z 30 [] [] := by
  unfold f_X4_takesOf_30 at hf
  refine z_iconst C dX4_takesOf_30 (v := 0) (by decide) ?_
  exact z_sub [] rfl (b_X4_takesOf_31 C hr hk z 0 hf)
def f_X4_takesOf_12  (z : St) (o0 : Nat) (x1 : Int32) : Option (St × Int32) :=
  if 8 ≤ x1 then f_X4_takesOf_30 z else f_X4_takesOf_21 z o0 x1
theorem b_X4_takesOf_12 {p : Program} {l : Launch} {e : Env} {s : State} {m : MethodId} {args : Array Value} {below : List Frame} {meth : Method} {c : Code} {g : Ga} {A : Nat → Prop} (C : Cx l g A p s m args c cX4_takesOf 2 RX4 (rm_X4_takesOf) (0, 0)) (hr : meth.sig.returnType = (some .int)) (hk : meth.locks = false)   (z : St) (o0 : Nat) (x1 : Int32) (ho0 : kd o0 = 4) {res : St × Int32} (hf : f_X4_takesOf_12  z o0 x1 = some res) : Zj p l e (rm_X4_takesOf) s m args below meth c g A 2 (0, 0) (QI g A below args s res) z 12 [(0, .ref (g.1 o0)), (1, .int x1)] [] := by
  unfold f_X4_takesOf_12 at hf
  refine z_iload_n C dX4_takesOf_12 rfl 1 rfl ?_
  refine z_aload_n C dX4_takesOf_13 rfl 0 rfl ?_
  refine gf_X4_15 C dX4_takesOf_14 ho0 ?_
  refine z_alenI C (n := 8) (v := 8) dX4_takesOf_17 (rt_4_1 _ (kd_lt ho0 (by decide)) ho0) (by decide) rfl ?_
  exact z_icmp_ge C dX4_takesOf_18 (by decide) (fun h => z_sub [] rfl (b_X4_takesOf_30 C hr hk z (q_t hf h))) (fun h => z_sub [0, 1] rfl (b_X4_takesOf_21 C hr hk z o0 x1 ho0 (q_f hf h)))
def f_X4_takesOf_4  (z : St) (o0 : Nat) (x1 : Int32) : Option (St × Int32) :=
  if (z.1 o0 3) ≤ x1 then f_X4_takesOf_30 z else f_X4_takesOf_12 z o0 x1
theorem b_X4_takesOf_4 {p : Program} {l : Launch} {e : Env} {s : State} {m : MethodId} {args : Array Value} {below : List Frame} {meth : Method} {c : Code} {g : Ga} {A : Nat → Prop} (C : Cx l g A p s m args c cX4_takesOf 2 RX4 (rm_X4_takesOf) (0, 0)) (hr : meth.sig.returnType = (some .int)) (hk : meth.locks = false)   (z : St) (o0 : Nat) (x1 : Int32) (ho0 : kd o0 = 4) {res : St × Int32} (hf : f_X4_takesOf_4  z o0 x1 = some res) : Zj p l e (rm_X4_takesOf) s m args below meth c g A 2 (0, 0) (QI g A below args s res) z 4 [(0, .ref (g.1 o0)), (1, .int x1)] [] := by
  unfold f_X4_takesOf_4 at hf
  refine z_iload_n C dX4_takesOf_4 rfl 1 rfl ?_
  refine z_aload_n C dX4_takesOf_5 rfl 0 rfl ?_
  refine gf_X4_21 C dX4_takesOf_6 ho0 ?_
  exact z_icmp_ge C dX4_takesOf_9 (by decide) (fun h => z_sub [] rfl (b_X4_takesOf_30 C hr hk z (q_t hf h))) (fun h => z_sub [0, 1] rfl (b_X4_takesOf_12 C hr hk z o0 x1 ho0 (q_f hf h)))
def f_X4_takesOf_0  (z : St) (o0 : Nat) (x1 : Int32) : Option (St × Int32) :=
  if x1 < 0 then f_X4_takesOf_30 z else f_X4_takesOf_4 z o0 x1
theorem b_X4_takesOf_0 {p : Program} {l : Launch} {e : Env} {s : State} {m : MethodId} {args : Array Value} {below : List Frame} {meth : Method} {c : Code} {g : Ga} {A : Nat → Prop} (C : Cx l g A p s m args c cX4_takesOf 2 RX4 (rm_X4_takesOf) (0, 0)) (hr : meth.sig.returnType = (some .int)) (hk : meth.locks = false)   (z : St) (o0 : Nat) (x1 : Int32) (ho0 : kd o0 = 4) {res : St × Int32} (hf : f_X4_takesOf_0  z o0 x1 = some res) : Zj p l e (rm_X4_takesOf) s m args below meth c g A 2 (0, 0) (QI g A below args s res) z 0 [(0, .ref (g.1 o0)), (1, .int x1)] [] := by
  unfold f_X4_takesOf_0 at hf
  refine z_iload_n C dX4_takesOf_0 rfl 1 rfl ?_
  exact z_if_lt C dX4_takesOf_1 (by decide) (fun h => z_sub [] rfl (b_X4_takesOf_30 C hr hk z (q_t hf h))) (fun h => z_sub [0, 1] rfl (b_X4_takesOf_4 C hr hk z o0 x1 ho0 (q_f hf h)))
def f_X4_takesOf (z : St) (o0 : Nat) (x1 : Int32) : Option (St × Int32) := f_X4_takesOf_0 z o0 x1
theorem c_X4_takesOf {l : Launch} {g : Ga} {A : Nat → Prop} {z : St} {o0 : Nat} {x1 : Int32} (ho0 : kd o0 = 4) {res : St × Int32} (hf : f_X4_takesOf z o0 x1 = some res) : CI l g A yX4_takesOf cX4_takesOf 2 (some .int) rm_X4_takesOf [.ref (g.1 o0), .int x1] z res :=
  e_CI (by decide) (Nat.le_of_ble_eq_true rfl) rfl (fun p e s m args below meth c C hr hk => z_sub [0, 1] rfl (b_X4_takesOf_0 C hr hk z o0 x1 ho0 hf))
abbrev rm_X4_coolsOf : Room := { frames := 0, cells := 0, slots := 0, locals := 0 }
def f_X4_coolsOf_31  (z : St) (s0 : Int32) : Option (St × Int32) :=
  some (z, s0)
theorem b_X4_coolsOf_31 {p : Program} {l : Launch} {e : Env} {s : State} {m : MethodId} {args : Array Value} {below : List Frame} {meth : Method} {c : Code} {g : Ga} {A : Nat → Prop} (C : Cx l g A p s m args c cX4_coolsOf 2 RX4 (rm_X4_coolsOf) (0, 0)) (hr : meth.sig.returnType = (some .int)) (hk : meth.locks = false)   (z : St) (s0 : Int32)  {res : St × Int32} (hf : f_X4_coolsOf_31  z s0 = some res) : Zj p l e (rm_X4_coolsOf) s m args below meth c g A 2 (0, 0) (QI g A below args s res) z 31 [] [.int s0] := by
  unfold f_X4_coolsOf_31 at hf
  cases hf
  exact z_iret C hr hk dX4_coolsOf_31
def f_X4_coolsOf_21  (z : St) (o0 : Nat) (x1 : Int32) : Option (St × Int32) :=
  if inb x1 8 = true then (f_X4_coolsOf_31 z (z.1 (rf o0 2) (Int32.toNatClampNeg x1))) else none
theorem b_X4_coolsOf_21 {p : Program} {l : Launch} {e : Env} {s : State} {m : MethodId} {args : Array Value} {below : List Frame} {meth : Method} {c : Code} {g : Ga} {A : Nat → Prop} (C : Cx l g A p s m args c cX4_coolsOf 2 RX4 (rm_X4_coolsOf) (0, 0)) (hr : meth.sig.returnType = (some .int)) (hk : meth.locks = false)   (z : St) (o0 : Nat) (x1 : Int32) (ho0 : kd o0 = 4) {res : St × Int32} (hf : f_X4_coolsOf_21  z o0 x1 = some res) : Zj p l e (rm_X4_coolsOf) s m args below meth c g A 2 (0, 0) (QI g A below args s res) z 21 [(0, .ref (g.1 o0)), (1, .int x1)] [] := by
  unfold f_X4_coolsOf_21 at hf
  refine z_aload_n C dX4_coolsOf_21 rfl 0 rfl ?_
  refine gf_X4_18 C dX4_coolsOf_22 ho0 ?_
  refine z_iload_n C dX4_coolsOf_25 rfl 1 rfl ?_
  obtain ⟨h1, hf⟩ := q_ck hf
  refine z_iald C (n := 8) dX4_coolsOf_26 (rt_4_2 _ (kd_lt ho0 (by decide)) ho0) (by decide) h1 ?_
  exact z_goto C dX4_coolsOf_27 (by decide) (z_sub [] rfl (b_X4_coolsOf_31 C hr hk z (z.1 (rf o0 2) (Int32.toNatClampNeg x1)) hf))
def f_X4_coolsOf_30  (z : St)  : Option (St × Int32) :=
  f_X4_coolsOf_31 z 0
theorem b_X4_coolsOf_30 {p : Program} {l : Launch} {e : Env} {s : State} {m : MethodId} {args : Array Value} {below : List Frame} {meth : Method} {c : Code} {g : Ga} {A : Nat → Prop} (C : Cx l g A p s m args c cX4_coolsOf 2 RX4 (rm_X4_coolsOf) (0, 0)) (hr : meth.sig.returnType = (some .int)) (hk : meth.locks = false)   (z : St)   {res : St × Int32} (hf : f_X4_coolsOf_30  z  = some res) : Zj p l e (rm_X4_coolsOf) s m args below meth c g A 2 (0, 0) (QI g A below args s res) z 30 [] [] := by
  unfold f_X4_coolsOf_30 at hf
  refine z_iconst C dX4_coolsOf_30 (v := 0) (by decide) ?_
  exact z_sub [] rfl (b_X4_coolsOf_31 C hr hk z 0 hf)
def f_X4_coolsOf_12  (z : St) (o0 : Nat) (x1 : Int32) : Option (St × Int32) :=
  if 8 ≤ x1 then f_X4_coolsOf_30 z else f_X4_coolsOf_21 z o0 x1
theorem b_X4_coolsOf_12 {p : Program} {l : Launch} {e : Env} {s : State} {m : MethodId} {args : Array Value} {below : List Frame} {meth : Method} {c : Code} {g : Ga} {A : Nat → Prop} (C : Cx l g A p s m args c cX4_coolsOf 2 RX4 (rm_X4_coolsOf) (0, 0)) (hr : meth.sig.returnType = (some .int)) (hk : meth.locks = false)   (z : St) (o0 : Nat) (x1 : Int32) (ho0 : kd o0 = 4) {res : St × Int32} (hf : f_X4_coolsOf_12  z o0 x1 = some res) : Zj p l e (rm_X4_coolsOf) s m args below meth c g A 2 (0, 0) (QI g A below args s res) z 12 [(0, .ref (g.1 o0)), (1, .int x1)] [] := by
  unfold f_X4_coolsOf_12 at hf
  refine z_iload_n C dX4_coolsOf_12 rfl 1 rfl ?_
  refine z_aload_n C dX4_coolsOf_13 rfl 0 rfl ?_
  refine gf_X4_18 C dX4_coolsOf_14 ho0 ?_
  refine z_alenI C (n := 8) (v := 8) dX4_coolsOf_17 (rt_4_2 _ (kd_lt ho0 (by decide)) ho0) (by decide) rfl ?_
  exact z_icmp_ge C dX4_coolsOf_18 (by decide) (fun h => z_sub [] rfl (b_X4_coolsOf_30 C hr hk z (q_t hf h))) (fun h => z_sub [0, 1] rfl (b_X4_coolsOf_21 C hr hk z o0 x1 ho0 (q_f hf h)))
def f_X4_coolsOf_4  (z : St) (o0 : Nat) (x1 : Int32) : Option (St × Int32) :=
  if (z.1 o0 3) ≤ x1 then f_X4_coolsOf_30 z else f_X4_coolsOf_12 z o0 x1
theorem b_X4_coolsOf_4 {p : Program} {l : Launch} {e : Env} {s : State} {m : MethodId} {args : Array Value} {below : List Frame} {meth : Method} {c : Code} {g : Ga} {A : Nat → Prop} (C : Cx l g A p s m args c cX4_coolsOf 2 RX4 (rm_X4_coolsOf) (0, 0)) (hr : meth.sig.returnType = (some .int)) (hk : meth.locks = false)   (z : St) (o0 : Nat) (x1 : Int32) (ho0 : kd o0 = 4) {res : St × Int32} (hf : f_X4_coolsOf_4  z o0 x1 = some res) : Zj p l e (rm_X4_coolsOf) s m args below meth c g A 2 (0, 0) (QI g A below args s res) z 4 [(0, .ref (g.1 o0)), (1, .int x1)] [] := by
  unfold f_X4_coolsOf_4 at hf
  refine z_iload_n C dX4_coolsOf_4 rfl 1 rfl ?_
  refine z_aload_n C dX4_coolsOf_5 rfl 0 rfl ?_
  refine gf_X4_21 C dX4_coolsOf_6 ho0 ?_
  exact z_icmp_ge C dX4_coolsOf_9 (by decide) (fun h => z_sub [] rfl (b_X4_coolsOf_30 C hr hk z (q_t hf h))) (fun h => z_sub [0, 1] rfl (b_X4_coolsOf_12 C hr hk z o0 x1 ho0 (q_f hf h)))
def f_X4_coolsOf_0  (z : St) (o0 : Nat) (x1 : Int32) : Option (St × Int32) :=
  if x1 < 0 then f_X4_coolsOf_30 z else f_X4_coolsOf_4 z o0 x1
theorem b_X4_coolsOf_0 {p : Program} {l : Launch} {e : Env} {s : State} {m : MethodId} {args : Array Value} {below : List Frame} {meth : Method} {c : Code} {g : Ga} {A : Nat → Prop} (C : Cx l g A p s m args c cX4_coolsOf 2 RX4 (rm_X4_coolsOf) (0, 0)) (hr : meth.sig.returnType = (some .int)) (hk : meth.locks = false)   (z : St) (o0 : Nat) (x1 : Int32) (ho0 : kd o0 = 4) {res : St × Int32} (hf : f_X4_coolsOf_0  z o0 x1 = some res) : Zj p l e (rm_X4_coolsOf) s m args below meth c g A 2 (0, 0) (QI g A below args s res) z 0 [(0, .ref (g.1 o0)), (1, .int x1)] [] := by
  unfold f_X4_coolsOf_0 at hf
  refine z_iload_n C dX4_coolsOf_0 rfl 1 rfl ?_
  exact z_if_lt C dX4_coolsOf_1 (by decide) (fun h => z_sub [] rfl (b_X4_coolsOf_30 C hr hk z (q_t hf h))) (fun h => z_sub [0, 1] rfl (b_X4_coolsOf_4 C hr hk z o0 x1 ho0 (q_f hf h)))
def f_X4_coolsOf (z : St) (o0 : Nat) (x1 : Int32) : Option (St × Int32) := f_X4_coolsOf_0 z o0 x1
theorem c_X4_coolsOf {l : Launch} {g : Ga} {A : Nat → Prop} {z : St} {o0 : Nat} {x1 : Int32} (ho0 : kd o0 = 4) {res : St × Int32} (hf : f_X4_coolsOf z o0 x1 = some res) : CI l g A yX4_coolsOf cX4_coolsOf 2 (some .int) rm_X4_coolsOf [.ref (g.1 o0), .int x1] z res :=
  e_CI (by decide) (Nat.le_of_ble_eq_true rfl) rfl (fun p e s m args below meth c C hr hk => z_sub [0, 1] rfl (b_X4_coolsOf_0 C hr hk z o0 x1 ho0 hf))
abbrev rm_X4_takesOfAll : Room := { frames := 1, cells := 0, slots := 0, locals := 21 }
def f_X4_takesOfAll_12 (K4 : St → Nat → Int32 → Int32 → Option (St × Int32)) (z : St) (o0 : Nat) (x1 : Int32) (x2 : Int32) : Option (St × Int32) :=
  ((f_X4_takesOf z o0 x2).bind fun r1 => K4 r1.1 o0 (x1 + r1.2) (x2 + 1))
theorem b_X4_takesOfAll_12 {p : Program} {l : Launch} {e : Env} {s : State} {m : MethodId} {args : Array Value} {below : List Frame} {meth : Method} {c : Code} {g : Ga} {A : Nat → Prop} (C : Cx l g A p s m args c cX4_takesOfAll 3 RX4 (rm_X4_takesOfAll) (0, 0)) (hr : meth.sig.returnType = (some .int)) (hk : meth.locks = false) {K4 : St → Nat → Int32 → Int32 → Option (St × Int32)} (hK4 : ∀ (z : St) (o0 : Nat) (x1 : Int32) (x2 : Int32) (_ : kd o0 = 4) {res : St × Int32}, K4 z o0 x1 x2 = some res → Zj p l e (rm_X4_takesOfAll) s m args below meth c g A 3 (0, 0) (QI g A below args s res) z 4 [(0, .ref (g.1 o0)), (1, .int x1), (2, .int x2)] []) (z : St) (o0 : Nat) (x1 : Int32) (x2 : Int32) (ho0 : kd o0 = 4) {res : St × Int32} (hf : f_X4_takesOfAll_12 K4 z o0 x1 x2 = some res) : Zj p l e (rm_X4_takesOfAll) s m args below meth c g A 3 (0, 0) (QI g A below args s res) z 12 [(0, .ref (g.1 o0)), (1, .int x1), (2, .int x2)] [] := by
  unfold f_X4_takesOfAll_12 at hf
  refine z_iload_n C dX4_takesOfAll_12 rfl 1 rfl ?_
  refine z_aload_n C dX4_takesOfAll_13 rfl 0 rfl ?_
  refine z_iload_n C dX4_takesOfAll_14 rfl 2 rfl ?_
  obtain ⟨r1, hc2, hf⟩ := q_bd hf
  refine z_cVi C (st := [.int x1]) (c_X4_takesOf ho0 hc2) mw_X4_takesOf ml_X4_48 ho0 (by decide) rfl dX4_takesOfAll_15 rfl rfl rfl ⟨Nat.le_of_ble_eq_true rfl, Nat.le_of_ble_eq_true rfl⟩ rfl (Nat.le_of_ble_eq_true rfl) ?_
  refine z_iadd C dX4_takesOfAll_18 ?_
  refine z_istore_n C (lv2 := [(1, .int (x1 + r1.2)), (0, .ref (g.1 o0)), (2, .int x2)]) dX4_takesOfAll_19 rfl (by decide) rfl ?_
  refine z_iinc C (k := 2) (v := x2 + 1) (lv2 := [(2, .int (x2 + 1)), (1, .int (x1 + r1.2)), (0, .ref (g.1 o0))]) dX4_takesOfAll_20 rfl rfl (by decide) rfl ?_
  exact z_goto C dX4_takesOfAll_23 (by decide) (z_sub [2, 1, 0] rfl (hK4 r1.1 o0 (x1 + r1.2) (x2 + 1) ho0 hf))
def f_X4_takesOfAll_26  (z : St) (x1 : Int32) : Option (St × Int32) :=
  some (z, x1)
theorem b_X4_takesOfAll_26 {p : Program} {l : Launch} {e : Env} {s : State} {m : MethodId} {args : Array Value} {below : List Frame} {meth : Method} {c : Code} {g : Ga} {A : Nat → Prop} (C : Cx l g A p s m args c cX4_takesOfAll 3 RX4 (rm_X4_takesOfAll) (0, 0)) (hr : meth.sig.returnType = (some .int)) (hk : meth.locks = false)   (z : St) (x1 : Int32)  {res : St × Int32} (hf : f_X4_takesOfAll_26  z x1 = some res) : Zj p l e (rm_X4_takesOfAll) s m args below meth c g A 3 (0, 0) (QI g A below args s res) z 26 [(1, .int x1)] [] := by
  unfold f_X4_takesOfAll_26 at hf
  refine z_iload_n C dX4_takesOfAll_26 rfl 0 rfl ?_
  cases hf
  exact z_iret C hr hk dX4_takesOfAll_27
def f_X4_takesOfAll_4  : Nat → St → Nat → Int32 → Int32 → Option (St × Int32)
  | 0, _, _, _, _ => none
  | n + 1, z, o0, x1, x2 => if (z.1 o0 3) ≤ x2 then f_X4_takesOfAll_26 z x1 else f_X4_takesOfAll_12 (f_X4_takesOfAll_4 n) z o0 x1 x2
theorem b_X4_takesOfAll_4 {p : Program} {l : Launch} {e : Env} {s : State} {m : MethodId} {args : Array Value} {below : List Frame} {meth : Method} {c : Code} {g : Ga} {A : Nat → Prop} (C : Cx l g A p s m args c cX4_takesOfAll 3 RX4 (rm_X4_takesOfAll) (0, 0)) (hr : meth.sig.returnType = (some .int)) (hk : meth.locks = false)   : ∀ (n : Nat) (z : St) (o0 : Nat) (x1 : Int32) (x2 : Int32) (_ : kd o0 = 4) {res : St × Int32} (_ : f_X4_takesOfAll_4  n z o0 x1 x2 = some res), Zj p l e (rm_X4_takesOfAll) s m args below meth c g A 3 (0, 0) (QI g A below args s res) z 4 [(0, .ref (g.1 o0)), (1, .int x1), (2, .int x2)] [] := by
  intro n
  induction n with
  | zero =>
    intro z o0 x1 x2 ho0 res hf
    cases hf
  | succ n ih =>
    intro z o0 x1 x2 ho0 res hf
    rw [f_X4_takesOfAll_4] at hf
    refine z_iload_n C dX4_takesOfAll_4 rfl 2 rfl ?_
    refine z_aload_n C dX4_takesOfAll_5 rfl 0 rfl ?_
    refine gf_X4_21 C dX4_takesOfAll_6 ho0 ?_
    exact z_icmp_ge C dX4_takesOfAll_9 (by decide) (fun h => z_sub [1] rfl (b_X4_takesOfAll_26 C hr hk z x1 (q_t hf h))) (fun h => z_sub [0, 1, 2] rfl (b_X4_takesOfAll_12 C hr hk ih z o0 x1 x2 ho0 (q_f hf h)))
def f_X4_takesOfAll_0  (z : St) (o0 : Nat) : Option (St × Int32) :=
  f_X4_takesOfAll_4 FU z o0 0 0
theorem b_X4_takesOfAll_0 {p : Program} {l : Launch} {e : Env} {s : State} {m : MethodId} {args : Array Value} {below : List Frame} {meth : Method} {c : Code} {g : Ga} {A : Nat → Prop} (C : Cx l g A p s m args c cX4_takesOfAll 3 RX4 (rm_X4_takesOfAll) (0, 0)) (hr : meth.sig.returnType = (some .int)) (hk : meth.locks = false)   (z : St) (o0 : Nat) (ho0 : kd o0 = 4) {res : St × Int32} (hf : f_X4_takesOfAll_0  z o0 = some res) : Zj p l e (rm_X4_takesOfAll) s m args below meth c g A 3 (0, 0) (QI g A below args s res) z 0 [(0, .ref (g.1 o0))] [] := by
  unfold f_X4_takesOfAll_0 at hf
  refine z_iconst C dX4_takesOfAll_0 (v := 0) (by decide) ?_
  refine z_istore_n C (lv2 := [(1, .int 0), (0, .ref (g.1 o0))]) dX4_takesOfAll_1 rfl (by decide) rfl ?_
  refine z_iconst C dX4_takesOfAll_2 (v := 0) (by decide) ?_
  refine z_istore_n C (lv2 := [(2, .int 0), (1, .int 0), (0, .ref (g.1 o0))]) dX4_takesOfAll_3 rfl (by decide) rfl ?_
  exact z_sub [2, 1, 0] rfl (b_X4_takesOfAll_4 C hr hk FU z o0 0 0 ho0 hf)
def f_X4_takesOfAll (z : St) (o0 : Nat) : Option (St × Int32) := f_X4_takesOfAll_0 z o0
theorem c_X4_takesOfAll {l : Launch} {g : Ga} {A : Nat → Prop} {z : St} {o0 : Nat} (ho0 : kd o0 = 4) {res : St × Int32} (hf : f_X4_takesOfAll z o0 = some res) : CI l g A yX4_takesOfAll cX4_takesOfAll 3 (some .int) rm_X4_takesOfAll [.ref (g.1 o0)] z res :=
  e_CI (by decide) (Nat.le_of_ble_eq_true rfl) rfl (fun p e s m args below meth c C hr hk => z_sub [0] rfl (b_X4_takesOfAll_0 C hr hk z o0 ho0 hf))
abbrev rm_X4_changeCools : Room := { frames := 1, cells := 0, slots := 0, locals := 21 }
def f_X4_changeCools_21  (z : St) (x3 : Int32) : Option (St × Int32) :=
  some (z, x3)
theorem b_X4_changeCools_21 {p : Program} {l : Launch} {e : Env} {s : State} {m : MethodId} {args : Array Value} {below : List Frame} {meth : Method} {c : Code} {g : Ga} {A : Nat → Prop} (C : Cx l g A p s m args c cX4_changeCools 4 RX4 (rm_X4_changeCools) (0, 0)) (hr : meth.sig.returnType = (some .int)) (hk : meth.locks = false)   (z : St) (x3 : Int32)  {res : St × Int32} (hf : f_X4_changeCools_21  z x3 = some res) : Zj p l e (rm_X4_changeCools) s m args below meth c g A 4 (0, 0) (QI g A below args s res) z 21 [(3, .int x3)] [] := by
  unfold f_X4_changeCools_21 at hf
  refine z_iload_n C dX4_changeCools_21 rfl 0 rfl ?_
  cases hf
  exact z_iret C hr hk dX4_changeCools_22
def f_X4_changeCools_14  (z : St) (o0 : Nat) (x1 : Int32) (x2 : Int32) (x3 : Int32) : Option (St × Int32) :=
  if inb x1 8 = true then (f_X4_changeCools_21 (zI z (rf o0 2) (Int32.toNatClampNeg x1) x2) x3) else none
theorem b_X4_changeCools_14 {p : Program} {l : Launch} {e : Env} {s : State} {m : MethodId} {args : Array Value} {below : List Frame} {meth : Method} {c : Code} {g : Ga} {A : Nat → Prop} (C : Cx l g A p s m args c cX4_changeCools 4 RX4 (rm_X4_changeCools) (0, 0)) (hr : meth.sig.returnType = (some .int)) (hk : meth.locks = false)   (z : St) (o0 : Nat) (x1 : Int32) (x2 : Int32) (x3 : Int32) (ho0 : kd o0 = 4) {res : St × Int32} (hf : f_X4_changeCools_14  z o0 x1 x2 x3 = some res) : Zj p l e (rm_X4_changeCools) s m args below meth c g A 4 (0, 0) (QI g A below args s res) z 14 [(0, .ref (g.1 o0)), (1, .int x1), (2, .int x2), (3, .int x3)] [] := by
  unfold f_X4_changeCools_14 at hf
  refine z_aload_n C dX4_changeCools_14 rfl 0 rfl ?_
  refine gf_X4_18 C dX4_changeCools_15 ho0 ?_
  refine z_iload_n C dX4_changeCools_18 rfl 1 rfl ?_
  refine z_iload_n C dX4_changeCools_19 rfl 2 rfl ?_
  obtain ⟨h1, hf⟩ := q_ck hf
  refine z_iast C (n := 8) dX4_changeCools_20 (rt_4_2 _ (kd_lt ho0 (by decide)) ho0) (by decide) h1 ?_
  exact z_sub [3] rfl (b_X4_changeCools_21 C hr hk (zI z (rf o0 2) (Int32.toNatClampNeg x1) x2) x3 hf)
def f_X4_changeCools_0  (z : St) (o0 : Nat) (x1 : Int32) (x2 : Int32) : Option (St × Int32) :=
  ((f_X4_coolsOf z o0 x1).bind fun r1 => ((f_X4_holds r1.1 o0 x1).bind fun r3 => if r3.2 = 0 then f_X4_changeCools_21 r3.1 r1.2 else f_X4_changeCools_14 r3.1 o0 x1 x2 r1.2))
theorem b_X4_changeCools_0 {p : Program} {l : Launch} {e : Env} {s : State} {m : MethodId} {args : Array Value} {below : List Frame} {meth : Method} {c : Code} {g : Ga} {A : Nat → Prop} (C : Cx l g A p s m args c cX4_changeCools 4 RX4 (rm_X4_changeCools) (0, 0)) (hr : meth.sig.returnType = (some .int)) (hk : meth.locks = false)   (z : St) (o0 : Nat) (x1 : Int32) (x2 : Int32) (ho0 : kd o0 = 4) {res : St × Int32} (hf : f_X4_changeCools_0  z o0 x1 x2 = some res) : Zj p l e (rm_X4_changeCools) s m args below meth c g A 4 (0, 0) (QI g A below args s res) z 0 [(0, .ref (g.1 o0)), (1, .int x1), (2, .int x2)] [] := by
  unfold f_X4_changeCools_0 at hf
  refine z_aload_n C dX4_changeCools_0 rfl 0 rfl ?_
  refine z_iload_n C dX4_changeCools_1 rfl 1 rfl ?_
  obtain ⟨r1, hc2, hf⟩ := q_bd hf
  refine z_cVi C (st := []) (c_X4_coolsOf ho0 hc2) mw_X4_coolsOf ml_X4_49 ho0 (by decide) rfl dX4_changeCools_2 rfl rfl rfl ⟨Nat.le_of_ble_eq_true rfl, Nat.le_of_ble_eq_true rfl⟩ rfl (Nat.le_of_ble_eq_true rfl) ?_
  refine z_istore_n C (lv2 := [(3, .int r1.2), (0, .ref (g.1 o0)), (1, .int x1), (2, .int x2)]) dX4_changeCools_5 rfl (by decide) rfl ?_
  refine z_aload_n C dX4_changeCools_6 rfl 1 rfl ?_
  refine z_iload_n C dX4_changeCools_7 rfl 2 rfl ?_
  obtain ⟨r3, hc4, hf⟩ := q_bd hf
  refine z_cVi C (st := []) (c_X4_holds ho0 hc4) mw_X4_holds ml_X4_38 ho0 (by decide) rfl dX4_changeCools_8 rfl rfl rfl ⟨Nat.le_of_ble_eq_true rfl, Nat.le_of_ble_eq_true rfl⟩ rfl (Nat.le_of_ble_eq_true rfl) ?_
  exact z_if_eq C dX4_changeCools_11 (by decide) (fun h => z_sub [0] rfl (b_X4_changeCools_21 C hr hk r3.1 r1.2 (q_t hf h))) (fun h => z_sub [1, 2, 3, 0] rfl (b_X4_changeCools_14 C hr hk r3.1 o0 x1 x2 r1.2 ho0 (q_f hf h)))
def f_X4_changeCools (z : St) (o0 : Nat) (x1 : Int32) (x2 : Int32) : Option (St × Int32) := f_X4_changeCools_0 z o0 x1 x2
theorem c_X4_changeCools {l : Launch} {g : Ga} {A : Nat → Prop} {z : St} {o0 : Nat} {x1 : Int32} {x2 : Int32} (ho0 : kd o0 = 4) {res : St × Int32} (hf : f_X4_changeCools z o0 x1 x2 = some res) : CI l g A yX4_changeCools cX4_changeCools 4 (some .int) rm_X4_changeCools [.ref (g.1 o0), .int x1, .int x2] z res :=
  e_CI (by decide) (Nat.le_of_ble_eq_true rfl) rfl (fun p e s m args below meth c C hr hk => z_sub [0, 1, 2] rfl (b_X4_changeCools_0 C hr hk z o0 x1 x2 ho0 hf))
abbrev rm_X4_nextToBegin : Room := { frames := 1, cells := 0, slots := 0, locals := 21 }
def f_X4_nextToBegin_86 (K5 : St → Nat → Int32 → Int32 → Int32 → Int32 → Option (St × Int32)) (z : St) (o0 : Nat) (x1 : Int32) (x2 : Int32) (x3 : Int32) (x4 : Int32) : Option (St × Int32) :=
  K5 z o0 x1 x2 x3 (x4 + 1)
theorem b_X4_nextToBegin_86 {p : Program} {l : Launch} {e : Env} {s : State} {m : MethodId} {args : Array Value} {below : List Frame} {meth : Method} {c : Code} {g : Ga} {A : Nat → Prop} (C : Cx l g A p s m args c cX4_nextToBegin 5 RX4 (rm_X4_nextToBegin) (0, 0)) (hr : meth.sig.returnType = (some .int)) (hk : meth.locks = false) {K5 : St → Nat → Int32 → Int32 → Int32 → Int32 → Option (St × Int32)} (hK5 : ∀ (z : St) (o0 : Nat) (x1 : Int32) (x2 : Int32) (x3 : Int32) (x4 : Int32) (_ : kd o0 = 4) {res : St × Int32}, K5 z o0 x1 x2 x3 x4 = some res → Zj p l e (rm_X4_nextToBegin) s m args below meth c g A 5 (0, 0) (QI g A below args s res) z 5 [(0, .ref (g.1 o0)), (1, .int x1), (2, .int x2), (3, .int x3), (4, .int x4)] []) (z : St) (o0 : Nat) (x1 : Int32) (x2 : Int32) (x3 : Int32) (x4 : Int32) (ho0 : kd o0 = 4) {res : St × Int32} (hf : f_X4_nextToBegin_86 K5 z o0 x1 x2 x3 x4 = some res) : Zj p l e (rm_X4_nextToBegin) s m args below meth c g A 5 (0, 0) (QI g A below args s res) z 86 [(0, .ref (g.1 o0)), (1, .int x1), (2, .int x2), (3, .int x3), (4, .int x4)] [] := by
  unfold f_X4_nextToBegin_86 at hf
  refine z_iinc C (k := 4) (v := x4 + 1) (lv2 := [(4, .int (x4 + 1)), (0, .ref (g.1 o0)), (1, .int x1), (2, .int x2), (3, .int x3)]) dX4_nextToBegin_86 rfl rfl (by decide) rfl ?_
  exact z_goto C dX4_nextToBegin_89 (by decide) (z_sub [1, 2, 3, 4, 0] rfl (hK5 z o0 x1 x2 x3 (x4 + 1) ho0 hf))
def f_X4_nextToBegin_33 (K5 : St → Nat → Int32 → Int32 → Int32 → Int32 → Option (St × Int32)) (z : St) (o0 : Nat) (x1 : Int32) (x2 : Int32) (x3 : Int32) (x4 : Int32) : Option (St × Int32) :=
  f_X4_nextToBegin_86 K5 z o0 x1 x2 x3 x4
theorem b_X4_nextToBegin_33 {p : Program} {l : Launch} {e : Env} {s : State} {m : MethodId} {args : Array Value} {below : List Frame} {meth : Method} {c : Code} {g : Ga} {A : Nat → Prop} (C : Cx l g A p s m args c cX4_nextToBegin 5 RX4 (rm_X4_nextToBegin) (0, 0)) (hr : meth.sig.returnType = (some .int)) (hk : meth.locks = false) {K5 : St → Nat → Int32 → Int32 → Int32 → Int32 → Option (St × Int32)} (hK5 : ∀ (z : St) (o0 : Nat) (x1 : Int32) (x2 : Int32) (x3 : Int32) (x4 : Int32) (_ : kd o0 = 4) {res : St × Int32}, K5 z o0 x1 x2 x3 x4 = some res → Zj p l e (rm_X4_nextToBegin) s m args below meth c g A 5 (0, 0) (QI g A below args s res) z 5 [(0, .ref (g.1 o0)), (1, .int x1), (2, .int x2), (3, .int x3), (4, .int x4)] []) (z : St) (o0 : Nat) (x1 : Int32) (x2 : Int32) (x3 : Int32) (x4 : Int32) (ho0 : kd o0 = 4) {res : St × Int32} (hf : f_X4_nextToBegin_33 K5 z o0 x1 x2 x3 x4 = some res) : Zj p l e (rm_X4_nextToBegin) s m args below meth c g A 5 (0, 0) (QI g A below args s res) z 33 [(0, .ref (g.1 o0)), (1, .int x1), (2, .int x2), (3, .int x3), (4, .int x4)] [] := by
  unfold f_X4_nextToBegin_33 at hf
  exact z_goto C dX4_nextToBegin_33 (by decide) (z_sub [0, 1, 2, 3, 4] rfl (b_X4_nextToBegin_86 C hr hk hK5 z o0 x1 x2 x3 x4 ho0 hf))
def f_X4_nextToBegin_83 (K5 : St → Nat → Int32 → Int32 → Int32 → Int32 → Option (St × Int32)) (z : St) (o0 : Nat) (x1 : Int32) (x2 : Int32) (x4 : Int32) : Option (St × Int32) :=
  f_X4_nextToBegin_86 K5 z o0 x1 x2 x4 x4
theorem b_X4_nextToBegin_83 {p : Program} {l : Launch} {e : Env} {s : State} {m : MethodId} {args : Array Value} {below : List Frame} {meth : Method} {c : Code} {g : Ga} {A : Nat → Prop} (C : Cx l g A p s m args c cX4_nextToBegin 5 RX4 (rm_X4_nextToBegin) (0, 0)) (hr : meth.sig.returnType = (some .int)) (hk : meth.locks = false) {K5 : St → Nat → Int32 → Int32 → Int32 → Int32 → Option (St × Int32)} (hK5 : ∀ (z : St) (o0 : Nat) (x1 : Int32) (x2 : Int32) (x3 : Int32) (x4 : Int32) (_ : kd o0 = 4) {res : St × Int32}, K5 z o0 x1 x2 x3 x4 = some res → Zj p l e (rm_X4_nextToBegin) s m args below meth c g A 5 (0, 0) (QI g A below args s res) z 5 [(0, .ref (g.1 o0)), (1, .int x1), (2, .int x2), (3, .int x3), (4, .int x4)] []) (z : St) (o0 : Nat) (x1 : Int32) (x2 : Int32) (x4 : Int32) (ho0 : kd o0 = 4) {res : St × Int32} (hf : f_X4_nextToBegin_83 K5 z o0 x1 x2 x4 = some res) : Zj p l e (rm_X4_nextToBegin) s m args below meth c g A 5 (0, 0) (QI g A below args s res) z 83 [(0, .ref (g.1 o0)), (1, .int x1), (2, .int x2), (4, .int x4)] [] := by
  unfold f_X4_nextToBegin_83 at hf
  refine z_iload C dX4_nextToBegin_83 3 rfl ?_
  refine z_istore_n C (lv2 := [(3, .int x4), (0, .ref (g.1 o0)), (1, .int x1), (2, .int x2), (4, .int x4)]) dX4_nextToBegin_85 rfl (by decide) rfl ?_
  exact z_sub [1, 2, 3, 0, 4] rfl (b_X4_nextToBegin_86 C hr hk hK5 z o0 x1 x2 x4 x4 ho0 hf)
def f_X4_nextToBegin_69 (K5 : St → Nat → Int32 → Int32 → Int32 → Int32 → Option (St × Int32)) (z : St) (o0 : Nat) (x1 : Int32) (x2 : Int32) (x3 : Int32) (x4 : Int32) : Option (St × Int32) :=
  ((f_X4_takesOf z o0 x4).bind fun r1 => ((f_X4_takesOf r1.1 o0 x3).bind fun r3 => if r1.2 ≤ r3.2 then f_X4_nextToBegin_86 K5 r3.1 o0 x1 x2 x3 x4 else f_X4_nextToBegin_83 K5 r3.1 o0 x1 x2 x4))
theorem b_X4_nextToBegin_69 {p : Program} {l : Launch} {e : Env} {s : State} {m : MethodId} {args : Array Value} {below : List Frame} {meth : Method} {c : Code} {g : Ga} {A : Nat → Prop} (C : Cx l g A p s m args c cX4_nextToBegin 5 RX4 (rm_X4_nextToBegin) (0, 0)) (hr : meth.sig.returnType = (some .int)) (hk : meth.locks = false) {K5 : St → Nat → Int32 → Int32 → Int32 → Int32 → Option (St × Int32)} (hK5 : ∀ (z : St) (o0 : Nat) (x1 : Int32) (x2 : Int32) (x3 : Int32) (x4 : Int32) (_ : kd o0 = 4) {res : St × Int32}, K5 z o0 x1 x2 x3 x4 = some res → Zj p l e (rm_X4_nextToBegin) s m args below meth c g A 5 (0, 0) (QI g A below args s res) z 5 [(0, .ref (g.1 o0)), (1, .int x1), (2, .int x2), (3, .int x3), (4, .int x4)] []) (z : St) (o0 : Nat) (x1 : Int32) (x2 : Int32) (x3 : Int32) (x4 : Int32) (ho0 : kd o0 = 4) {res : St × Int32} (hf : f_X4_nextToBegin_69 K5 z o0 x1 x2 x3 x4 = some res) : Zj p l e (rm_X4_nextToBegin) s m args below meth c g A 5 (0, 0) (QI g A below args s res) z 69 [(0, .ref (g.1 o0)), (1, .int x1), (2, .int x2), (3, .int x3), (4, .int x4)] [] := by
  unfold f_X4_nextToBegin_69 at hf
  refine z_aload_n C dX4_nextToBegin_69 rfl 0 rfl ?_
  refine z_iload C dX4_nextToBegin_70 4 rfl ?_
  obtain ⟨r1, hc2, hf⟩ := q_bd hf
  refine z_cVi C (st := []) (c_X4_takesOf ho0 hc2) mw_X4_takesOf ml_X4_48 ho0 (by decide) rfl dX4_nextToBegin_72 rfl rfl rfl ⟨Nat.le_of_ble_eq_true rfl, Nat.le_of_ble_eq_true rfl⟩ rfl (Nat.le_of_ble_eq_true rfl) ?_
  refine z_aload_n C dX4_nextToBegin_75 rfl 0 rfl ?_
  refine z_iload_n C dX4_nextToBegin_76 rfl 3 rfl ?_
  obtain ⟨r3, hc4, hf⟩ := q_bd hf
  refine z_cVi C (st := [.int r1.2]) (c_X4_takesOf ho0 hc4) mw_X4_takesOf ml_X4_48 ho0 (by decide) rfl dX4_nextToBegin_77 rfl rfl rfl ⟨Nat.le_of_ble_eq_true rfl, Nat.le_of_ble_eq_true rfl⟩ rfl (Nat.le_of_ble_eq_true rfl) ?_
  exact z_icmp_le C dX4_nextToBegin_80 (by decide) (fun h => z_sub [0, 1, 2, 3, 4] rfl (b_X4_nextToBegin_86 C hr hk hK5 r3.1 o0 x1 x2 x3 x4 ho0 (q_t hf h))) (fun h => z_sub [0, 1, 2, 4] rfl (b_X4_nextToBegin_83 C hr hk hK5 r3.1 o0 x1 x2 x4 ho0 (q_f hf h)))
def f_X4_nextToBegin_55 (K5 : St → Nat → Int32 → Int32 → Int32 → Int32 → Option (St × Int32)) (z : St) (o0 : Nat) (x1 : Int32) (x2 : Int32) (x3 : Int32) (x4 : Int32) : Option (St × Int32) :=
  ((f_X4_coolsOf z o0 x4).bind fun r1 => ((f_X4_coolsOf r1.1 o0 x3).bind fun r3 => if r1.2 = r3.2 then f_X4_nextToBegin_69 K5 r3.1 o0 x1 x2 x3 x4 else f_X4_nextToBegin_86 K5 r3.1 o0 x1 x2 x3 x4))
theorem b_X4_nextToBegin_55 {p : Program} {l : Launch} {e : Env} {s : State} {m : MethodId} {args : Array Value} {below : List Frame} {meth : Method} {c : Code} {g : Ga} {A : Nat → Prop} (C : Cx l g A p s m args c cX4_nextToBegin 5 RX4 (rm_X4_nextToBegin) (0, 0)) (hr : meth.sig.returnType = (some .int)) (hk : meth.locks = false) {K5 : St → Nat → Int32 → Int32 → Int32 → Int32 → Option (St × Int32)} (hK5 : ∀ (z : St) (o0 : Nat) (x1 : Int32) (x2 : Int32) (x3 : Int32) (x4 : Int32) (_ : kd o0 = 4) {res : St × Int32}, K5 z o0 x1 x2 x3 x4 = some res → Zj p l e (rm_X4_nextToBegin) s m args below meth c g A 5 (0, 0) (QI g A below args s res) z 5 [(0, .ref (g.1 o0)), (1, .int x1), (2, .int x2), (3, .int x3), (4, .int x4)] []) (z : St) (o0 : Nat) (x1 : Int32) (x2 : Int32) (x3 : Int32) (x4 : Int32) (ho0 : kd o0 = 4) {res : St × Int32} (hf : f_X4_nextToBegin_55 K5 z o0 x1 x2 x3 x4 = some res) : Zj p l e (rm_X4_nextToBegin) s m args below meth c g A 5 (0, 0) (QI g A below args s res) z 55 [(0, .ref (g.1 o0)), (1, .int x1), (2, .int x2), (3, .int x3), (4, .int x4)] [] := by
  unfold f_X4_nextToBegin_55 at hf
  refine z_aload_n C dX4_nextToBegin_55 rfl 0 rfl ?_
  refine z_iload C dX4_nextToBegin_56 4 rfl ?_
  obtain ⟨r1, hc2, hf⟩ := q_bd hf
  refine z_cVi C (st := []) (c_X4_coolsOf ho0 hc2) mw_X4_coolsOf ml_X4_49 ho0 (by decide) rfl dX4_nextToBegin_58 rfl rfl rfl ⟨Nat.le_of_ble_eq_true rfl, Nat.le_of_ble_eq_true rfl⟩ rfl (Nat.le_of_ble_eq_true rfl) ?_
  refine z_aload_n C dX4_nextToBegin_61 rfl 0 rfl ?_
  refine z_iload_n C dX4_nextToBegin_62 rfl 3 rfl ?_
  obtain ⟨r3, hc4, hf⟩ := q_bd hf
  refine z_cVi C (st := [.int r1.2]) (c_X4_coolsOf ho0 hc4) mw_X4_coolsOf ml_X4_49 ho0 (by decide) rfl dX4_nextToBegin_63 rfl rfl rfl ⟨Nat.le_of_ble_eq_true rfl, Nat.le_of_ble_eq_true rfl⟩ rfl (Nat.le_of_ble_eq_true rfl) ?_
  exact z_icmp_ne C dX4_nextToBegin_66 (by decide) (fun h => z_sub [0, 1, 2, 3, 4] rfl (b_X4_nextToBegin_86 C hr hk hK5 r3.1 o0 x1 x2 x3 x4 ho0 (q_f hf h))) (fun h => z_sub [0, 1, 2, 3, 4] rfl (b_X4_nextToBegin_69 C hr hk hK5 r3.1 o0 x1 x2 x3 x4 ho0 (q_t hf h)))
def f_X4_nextToBegin_41 (K5 : St → Nat → Int32 → Int32 → Int32 → Int32 → Option (St × Int32)) (z : St) (o0 : Nat) (x1 : Int32) (x2 : Int32) (x3 : Int32) (x4 : Int32) : Option (St × Int32) :=
  ((f_X4_coolsOf z o0 x4).bind fun r1 => ((f_X4_coolsOf r1.1 o0 x3).bind fun r3 => if r3.2 < r1.2 then f_X4_nextToBegin_83 K5 r3.1 o0 x1 x2 x4 else f_X4_nextToBegin_55 K5 r3.1 o0 x1 x2 x3 x4))
theorem b_X4_nextToBegin_41 {p : Program} {l : Launch} {e : Env} {s : State} {m : MethodId} {args : Array Value} {below : List Frame} {meth : Method} {c : Code} {g : Ga} {A : Nat → Prop} (C : Cx l g A p s m args c cX4_nextToBegin 5 RX4 (rm_X4_nextToBegin) (0, 0)) (hr : meth.sig.returnType = (some .int)) (hk : meth.locks = false) {K5 : St → Nat → Int32 → Int32 → Int32 → Int32 → Option (St × Int32)} (hK5 : ∀ (z : St) (o0 : Nat) (x1 : Int32) (x2 : Int32) (x3 : Int32) (x4 : Int32) (_ : kd o0 = 4) {res : St × Int32}, K5 z o0 x1 x2 x3 x4 = some res → Zj p l e (rm_X4_nextToBegin) s m args below meth c g A 5 (0, 0) (QI g A below args s res) z 5 [(0, .ref (g.1 o0)), (1, .int x1), (2, .int x2), (3, .int x3), (4, .int x4)] []) (z : St) (o0 : Nat) (x1 : Int32) (x2 : Int32) (x3 : Int32) (x4 : Int32) (ho0 : kd o0 = 4) {res : St × Int32} (hf : f_X4_nextToBegin_41 K5 z o0 x1 x2 x3 x4 = some res) : Zj p l e (rm_X4_nextToBegin) s m args below meth c g A 5 (0, 0) (QI g A below args s res) z 41 [(0, .ref (g.1 o0)), (1, .int x1), (2, .int x2), (3, .int x3), (4, .int x4)] [] := by
  unfold f_X4_nextToBegin_41 at hf
  refine z_aload_n C dX4_nextToBegin_41 rfl 0 rfl ?_
  refine z_iload C dX4_nextToBegin_42 4 rfl ?_
  obtain ⟨r1, hc2, hf⟩ := q_bd hf
  refine z_cVi C (st := []) (c_X4_coolsOf ho0 hc2) mw_X4_coolsOf ml_X4_49 ho0 (by decide) rfl dX4_nextToBegin_44 rfl rfl rfl ⟨Nat.le_of_ble_eq_true rfl, Nat.le_of_ble_eq_true rfl⟩ rfl (Nat.le_of_ble_eq_true rfl) ?_
  refine z_aload_n C dX4_nextToBegin_47 rfl 0 rfl ?_
  refine z_iload_n C dX4_nextToBegin_48 rfl 3 rfl ?_
  obtain ⟨r3, hc4, hf⟩ := q_bd hf
  refine z_cVi C (st := [.int r1.2]) (c_X4_coolsOf ho0 hc4) mw_X4_coolsOf ml_X4_49 ho0 (by decide) rfl dX4_nextToBegin_49 rfl rfl rfl ⟨Nat.le_of_ble_eq_true rfl, Nat.le_of_ble_eq_true rfl⟩ rfl (Nat.le_of_ble_eq_true rfl) ?_
  exact z_icmp_gt C dX4_nextToBegin_52 (by decide) (fun h => z_sub [0, 1, 2, 4] rfl (b_X4_nextToBegin_83 C hr hk hK5 r3.1 o0 x1 x2 x4 ho0 (q_t hf h))) (fun h => z_sub [0, 1, 2, 3, 4] rfl (b_X4_nextToBegin_55 C hr hk hK5 r3.1 o0 x1 x2 x3 x4 ho0 (q_f hf h)))
def f_X4_nextToBegin_36 (K5 : St → Nat → Int32 → Int32 → Int32 → Int32 → Option (St × Int32)) (z : St) (o0 : Nat) (x1 : Int32) (x2 : Int32) (x3 : Int32) (x4 : Int32) : Option (St × Int32) :=
  if x3 = ((-1)) then f_X4_nextToBegin_83 K5 z o0 x1 x2 x4 else f_X4_nextToBegin_41 K5 z o0 x1 x2 x3 x4
theorem b_X4_nextToBegin_36 {p : Program} {l : Launch} {e : Env} {s : State} {m : MethodId} {args : Array Value} {below : List Frame} {meth : Method} {c : Code} {g : Ga} {A : Nat → Prop} (C : Cx l g A p s m args c cX4_nextToBegin 5 RX4 (rm_X4_nextToBegin) (0, 0)) (hr : meth.sig.returnType = (some .int)) (hk : meth.locks = false) {K5 : St → Nat → Int32 → Int32 → Int32 → Int32 → Option (St × Int32)} (hK5 : ∀ (z : St) (o0 : Nat) (x1 : Int32) (x2 : Int32) (x3 : Int32) (x4 : Int32) (_ : kd o0 = 4) {res : St × Int32}, K5 z o0 x1 x2 x3 x4 = some res → Zj p l e (rm_X4_nextToBegin) s m args below meth c g A 5 (0, 0) (QI g A below args s res) z 5 [(0, .ref (g.1 o0)), (1, .int x1), (2, .int x2), (3, .int x3), (4, .int x4)] []) (z : St) (o0 : Nat) (x1 : Int32) (x2 : Int32) (x3 : Int32) (x4 : Int32) (ho0 : kd o0 = 4) {res : St × Int32} (hf : f_X4_nextToBegin_36 K5 z o0 x1 x2 x3 x4 = some res) : Zj p l e (rm_X4_nextToBegin) s m args below meth c g A 5 (0, 0) (QI g A below args s res) z 36 [(0, .ref (g.1 o0)), (1, .int x1), (2, .int x2), (3, .int x3), (4, .int x4)] [] := by
  unfold f_X4_nextToBegin_36 at hf
  refine z_iload_n C dX4_nextToBegin_36 rfl 3 rfl ?_
  refine z_iconst C dX4_nextToBegin_37 (v := (-1)) (by decide) ?_
  exact z_icmp_eq C dX4_nextToBegin_38 (by decide) (fun h => z_sub [0, 1, 2, 4] rfl (b_X4_nextToBegin_83 C hr hk hK5 z o0 x1 x2 x4 ho0 (q_t hf h))) (fun h => z_sub [0, 1, 2, 3, 4] rfl (b_X4_nextToBegin_41 C hr hk hK5 z o0 x1 x2 x3 x4 ho0 (q_f hf h)))
def f_X4_nextToBegin_23 (K5 : St → Nat → Int32 → Int32 → Int32 → Int32 → Option (St × Int32)) (z : St) (o0 : Nat) (x1 : Int32) (x2 : Int32) (x3 : Int32) (x4 : Int32) : Option (St × Int32) :=
  ((f_X4_comesOf z o0 x4).bind fun r1 => if r1.2 ≤ x2 then f_X4_nextToBegin_36 K5 r1.1 o0 x1 x2 x3 x4 else f_X4_nextToBegin_33 K5 r1.1 o0 x1 x2 x3 x4)
theorem b_X4_nextToBegin_23 {p : Program} {l : Launch} {e : Env} {s : State} {m : MethodId} {args : Array Value} {below : List Frame} {meth : Method} {c : Code} {g : Ga} {A : Nat → Prop} (C : Cx l g A p s m args c cX4_nextToBegin 5 RX4 (rm_X4_nextToBegin) (0, 0)) (hr : meth.sig.returnType = (some .int)) (hk : meth.locks = false) {K5 : St → Nat → Int32 → Int32 → Int32 → Int32 → Option (St × Int32)} (hK5 : ∀ (z : St) (o0 : Nat) (x1 : Int32) (x2 : Int32) (x3 : Int32) (x4 : Int32) (_ : kd o0 = 4) {res : St × Int32}, K5 z o0 x1 x2 x3 x4 = some res → Zj p l e (rm_X4_nextToBegin) s m args below meth c g A 5 (0, 0) (QI g A below args s res) z 5 [(0, .ref (g.1 o0)), (1, .int x1), (2, .int x2), (3, .int x3), (4, .int x4)] []) (z : St) (o0 : Nat) (x1 : Int32) (x2 : Int32) (x3 : Int32) (x4 : Int32) (ho0 : kd o0 = 4) {res : St × Int32} (hf : f_X4_nextToBegin_23 K5 z o0 x1 x2 x3 x4 = some res) : Zj p l e (rm_X4_nextToBegin) s m args below meth c g A 5 (0, 0) (QI g A below args s res) z 23 [(0, .ref (g.1 o0)), (1, .int x1), (2, .int x2), (3, .int x3), (4, .int x4)] [] := by
  unfold f_X4_nextToBegin_23 at hf
  refine z_aload_n C dX4_nextToBegin_23 rfl 0 rfl ?_
  refine z_iload C dX4_nextToBegin_24 4 rfl ?_
  obtain ⟨r1, hc2, hf⟩ := q_bd hf
  refine z_cVi C (st := []) (c_X4_comesOf ho0 hc2) mw_X4_comesOf ml_X4_43 ho0 (by decide) rfl dX4_nextToBegin_26 rfl rfl rfl ⟨Nat.le_of_ble_eq_true rfl, Nat.le_of_ble_eq_true rfl⟩ rfl (Nat.le_of_ble_eq_true rfl) ?_
  refine z_iload_n C dX4_nextToBegin_29 rfl 2 rfl ?_
  exact z_icmp_le C dX4_nextToBegin_30 (by decide) (fun h => z_sub [0, 1, 2, 3, 4] rfl (b_X4_nextToBegin_36 C hr hk hK5 r1.1 o0 x1 x2 x3 x4 ho0 (q_t hf h))) (fun h => z_sub [0, 1, 2, 3, 4] rfl (b_X4_nextToBegin_33 C hr hk hK5 r1.1 o0 x1 x2 x3 x4 ho0 (q_f hf h)))
def f_X4_nextToBegin_14 (K5 : St → Nat → Int32 → Int32 → Int32 → Int32 → Option (St × Int32)) (z : St) (o0 : Nat) (x1 : Int32) (x2 : Int32) (x3 : Int32) (x4 : Int32) : Option (St × Int32) :=
  if ((x1 >>> (x4 &&& 31)) &&& 1) = 0 then f_X4_nextToBegin_23 K5 z o0 x1 x2 x3 x4 else f_X4_nextToBegin_86 K5 z o0 x1 x2 x3 x4
theorem b_X4_nextToBegin_14 {p : Program} {l : Launch} {e : Env} {s : State} {m : MethodId} {args : Array Value} {below : List Frame} {meth : Method} {c : Code} {g : Ga} {A : Nat → Prop} (C : Cx l g A p s m args c cX4_nextToBegin 5 RX4 (rm_X4_nextToBegin) (0, 0)) (hr : meth.sig.returnType = (some .int)) (hk : meth.locks = false) {K5 : St → Nat → Int32 → Int32 → Int32 → Int32 → Option (St × Int32)} (hK5 : ∀ (z : St) (o0 : Nat) (x1 : Int32) (x2 : Int32) (x3 : Int32) (x4 : Int32) (_ : kd o0 = 4) {res : St × Int32}, K5 z o0 x1 x2 x3 x4 = some res → Zj p l e (rm_X4_nextToBegin) s m args below meth c g A 5 (0, 0) (QI g A below args s res) z 5 [(0, .ref (g.1 o0)), (1, .int x1), (2, .int x2), (3, .int x3), (4, .int x4)] []) (z : St) (o0 : Nat) (x1 : Int32) (x2 : Int32) (x3 : Int32) (x4 : Int32) (ho0 : kd o0 = 4) {res : St × Int32} (hf : f_X4_nextToBegin_14 K5 z o0 x1 x2 x3 x4 = some res) : Zj p l e (rm_X4_nextToBegin) s m args below meth c g A 5 (0, 0) (QI g A below args s res) z 14 [(0, .ref (g.1 o0)), (1, .int x1), (2, .int x2), (3, .int x3), (4, .int x4)] [] := by
  unfold f_X4_nextToBegin_14 at hf
  refine z_iload_n C dX4_nextToBegin_14 rfl 1 rfl ?_
  refine z_iload C dX4_nextToBegin_15 4 rfl ?_
  refine z_ishr C dX4_nextToBegin_17 ?_
  refine z_iconst C dX4_nextToBegin_18 (v := 1) (by decide) ?_
  refine z_iand C dX4_nextToBegin_19 ?_
  exact z_if_ne C dX4_nextToBegin_20 (by decide) (fun h => z_sub [0, 1, 2, 3, 4] rfl (b_X4_nextToBegin_86 C hr hk hK5 z o0 x1 x2 x3 x4 ho0 (q_f hf h))) (fun h => z_sub [0, 1, 2, 3, 4] rfl (b_X4_nextToBegin_23 C hr hk hK5 z o0 x1 x2 x3 x4 ho0 (q_t hf h)))
def f_X4_nextToBegin_92  (z : St) (x3 : Int32) : Option (St × Int32) :=
  some (z, x3)
theorem b_X4_nextToBegin_92 {p : Program} {l : Launch} {e : Env} {s : State} {m : MethodId} {args : Array Value} {below : List Frame} {meth : Method} {c : Code} {g : Ga} {A : Nat → Prop} (C : Cx l g A p s m args c cX4_nextToBegin 5 RX4 (rm_X4_nextToBegin) (0, 0)) (hr : meth.sig.returnType = (some .int)) (hk : meth.locks = false)   (z : St) (x3 : Int32)  {res : St × Int32} (hf : f_X4_nextToBegin_92  z x3 = some res) : Zj p l e (rm_X4_nextToBegin) s m args below meth c g A 5 (0, 0) (QI g A below args s res) z 92 [(3, .int x3)] [] := by
  unfold f_X4_nextToBegin_92 at hf
  refine z_iload_n C dX4_nextToBegin_92 rfl 0 rfl ?_
  cases hf
  exact z_iret C hr hk dX4_nextToBegin_93
def f_X4_nextToBegin_5  : Nat → St → Nat → Int32 → Int32 → Int32 → Int32 → Option (St × Int32)
  | 0, _, _, _, _, _, _ => none
  | n + 1, z, o0, x1, x2, x3, x4 => if (z.1 o0 3) ≤ x4 then f_X4_nextToBegin_92 z x3 else f_X4_nextToBegin_14 (f_X4_nextToBegin_5 n) z o0 x1 x2 x3 x4
theorem b_X4_nextToBegin_5 {p : Program} {l : Launch} {e : Env} {s : State} {m : MethodId} {args : Array Value} {below : List Frame} {meth : Method} {c : Code} {g : Ga} {A : Nat → Prop} (C : Cx l g A p s m args c cX4_nextToBegin 5 RX4 (rm_X4_nextToBegin) (0, 0)) (hr : meth.sig.returnType = (some .int)) (hk : meth.locks = false)   : ∀ (n : Nat) (z : St) (o0 : Nat) (x1 : Int32) (x2 : Int32) (x3 : Int32) (x4 : Int32) (_ : kd o0 = 4) {res : St × Int32} (_ : f_X4_nextToBegin_5  n z o0 x1 x2 x3 x4 = some res), Zj p l e (rm_X4_nextToBegin) s m args below meth c g A 5 (0, 0) (QI g A below args s res) z 5 [(0, .ref (g.1 o0)), (1, .int x1), (2, .int x2), (3, .int x3), (4, .int x4)] [] := by
  intro n
  induction n with
  | zero =>
    intro z o0 x1 x2 x3 x4 ho0 res hf
    cases hf
  | succ n ih =>
    intro z o0 x1 x2 x3 x4 ho0 res hf
    rw [f_X4_nextToBegin_5] at hf
    refine z_iload C dX4_nextToBegin_5 4 rfl ?_
    refine z_aload_n C dX4_nextToBegin_7 rfl 0 rfl ?_
    refine gf_X4_21 C dX4_nextToBegin_8 ho0 ?_
    exact z_icmp_ge C dX4_nextToBegin_11 (by decide) (fun h => z_sub [3] rfl (b_X4_nextToBegin_92 C hr hk z x3 (q_t hf h))) (fun h => z_sub [0, 1, 2, 3, 4] rfl (b_X4_nextToBegin_14 C hr hk ih z o0 x1 x2 x3 x4 ho0 (q_f hf h)))
def f_X4_nextToBegin_0  (z : St) (o0 : Nat) (x1 : Int32) (x2 : Int32) : Option (St × Int32) :=
  f_X4_nextToBegin_5 FU z o0 x1 x2 ((-1)) 0
theorem b_X4_nextToBegin_0 {p : Program} {l : Launch} {e : Env} {s : State} {m : MethodId} {args : Array Value} {below : List Frame} {meth : Method} {c : Code} {g : Ga} {A : Nat → Prop} (C : Cx l g A p s m args c cX4_nextToBegin 5 RX4 (rm_X4_nextToBegin) (0, 0)) (hr : meth.sig.returnType = (some .int)) (hk : meth.locks = false)   (z : St) (o0 : Nat) (x1 : Int32) (x2 : Int32) (ho0 : kd o0 = 4) {res : St × Int32} (hf : f_X4_nextToBegin_0  z o0 x1 x2 = some res) : Zj p l e (rm_X4_nextToBegin) s m args below meth c g A 5 (0, 0) (QI g A below args s res) z 0 [(0, .ref (g.1 o0)), (1, .int x1), (2, .int x2)] [] := by
  unfold f_X4_nextToBegin_0 at hf
  refine z_iconst C dX4_nextToBegin_0 (v := (-1)) (by decide) ?_
  refine z_istore_n C (lv2 := [(3, .int ((-1))), (0, .ref (g.1 o0)), (1, .int x1), (2, .int x2)]) dX4_nextToBegin_1 rfl (by decide) rfl ?_
  refine z_iconst C dX4_nextToBegin_2 (v := 0) (by decide) ?_
  refine z_istore C (lv2 := [(4, .int 0), (3, .int ((-1))), (0, .ref (g.1 o0)), (1, .int x1), (2, .int x2)]) dX4_nextToBegin_3 (by decide) rfl ?_
  exact z_sub [2, 3, 4, 1, 0] rfl (b_X4_nextToBegin_5 C hr hk FU z o0 x1 x2 ((-1)) 0 ho0 hf)
def f_X4_nextToBegin (z : St) (o0 : Nat) (x1 : Int32) (x2 : Int32) : Option (St × Int32) := f_X4_nextToBegin_0 z o0 x1 x2
theorem c_X4_nextToBegin {l : Launch} {g : Ga} {A : Nat → Prop} {z : St} {o0 : Nat} {x1 : Int32} {x2 : Int32} (ho0 : kd o0 = 4) {res : St × Int32} (hf : f_X4_nextToBegin z o0 x1 x2 = some res) : CI l g A yX4_nextToBegin cX4_nextToBegin 5 (some .int) rm_X4_nextToBegin [.ref (g.1 o0), .int x1, .int x2] z res :=
  e_CI (by decide) (Nat.le_of_ble_eq_true rfl) rfl (fun p e s m args below meth c C hr hk => z_sub [0, 1, 2] rfl (b_X4_nextToBegin_0 C hr hk z o0 x1 x2 ho0 hf))
abbrev rm_X4_hourOfSome : Room := { frames := 1, cells := 0, slots := 0, locals := 21 }
def f_X4_hourOfSome_45 (K5 : St → Nat → Int32 → Int32 → Int32 → Int32 → Option (St × Int32)) (z : St) (o0 : Nat) (x1 : Int32) (x2 : Int32) (x3 : Int32) (x4 : Int32) : Option (St × Int32) :=
  K5 z o0 x1 x2 x3 (x4 + 1)
theorem b_X4_hourOfSome_45 {p : Program} {l : Launch} {e : Env} {s : State} {m : MethodId} {args : Array Value} {below : List Frame} {meth : Method} {c : Code} {g : Ga} {A : Nat → Prop} (C : Cx l g A p s m args c cX4_hourOfSome 5 RX4 (rm_X4_hourOfSome) (0, 0)) (hr : meth.sig.returnType = (some .int)) (hk : meth.locks = false) {K5 : St → Nat → Int32 → Int32 → Int32 → Int32 → Option (St × Int32)} (hK5 : ∀ (z : St) (o0 : Nat) (x1 : Int32) (x2 : Int32) (x3 : Int32) (x4 : Int32) (_ : kd o0 = 4) {res : St × Int32}, K5 z o0 x1 x2 x3 x4 = some res → Zj p l e (rm_X4_hourOfSome) s m args below meth c g A 5 (0, 0) (QI g A below args s res) z 5 [(0, .ref (g.1 o0)), (1, .int x1), (2, .int x2), (3, .int x3), (4, .int x4)] []) (z : St) (o0 : Nat) (x1 : Int32) (x2 : Int32) (x3 : Int32) (x4 : Int32) (ho0 : kd o0 = 4) {res : St × Int32} (hf : f_X4_hourOfSome_45 K5 z o0 x1 x2 x3 x4 = some res) : Zj p l e (rm_X4_hourOfSome) s m args below meth c g A 5 (0, 0) (QI g A below args s res) z 45 [(0, .ref (g.1 o0)), (1, .int x1), (2, .int x2), (3, .int x3), (4, .int x4)] [] := by
  unfold f_X4_hourOfSome_45 at hf
  refine z_iinc C (k := 4) (v := x4 + 1) (lv2 := [(4, .int (x4 + 1)), (0, .ref (g.1 o0)), (1, .int x1), (2, .int x2), (3, .int x3)]) dX4_hourOfSome_45 rfl rfl (by decide) rfl ?_
  exact z_goto C dX4_hourOfSome_48 (by decide) (z_sub [1, 2, 3, 4, 0] rfl (hK5 z o0 x1 x2 x3 (x4 + 1) ho0 hf))
def f_X4_hourOfSome_38 (K5 : St → Nat → Int32 → Int32 → Int32 → Int32 → Option (St × Int32)) (z : St) (o0 : Nat) (x1 : Int32) (x2 : Int32) (x4 : Int32) : Option (St × Int32) :=
  ((f_X4_comesOf z o0 x4).bind fun r1 => f_X4_hourOfSome_45 K5 r1.1 o0 x1 x2 r1.2 x4)
theorem b_X4_hourOfSome_38 {p : Program} {l : Launch} {e : Env} {s : State} {m : MethodId} {args : Array Value} {below : List Frame} {meth : Method} {c : Code} {g : Ga} {A : Nat → Prop} (C : Cx l g A p s m args c cX4_hourOfSome 5 RX4 (rm_X4_hourOfSome) (0, 0)) (hr : meth.sig.returnType = (some .int)) (hk : meth.locks = false) {K5 : St → Nat → Int32 → Int32 → Int32 → Int32 → Option (St × Int32)} (hK5 : ∀ (z : St) (o0 : Nat) (x1 : Int32) (x2 : Int32) (x3 : Int32) (x4 : Int32) (_ : kd o0 = 4) {res : St × Int32}, K5 z o0 x1 x2 x3 x4 = some res → Zj p l e (rm_X4_hourOfSome) s m args below meth c g A 5 (0, 0) (QI g A below args s res) z 5 [(0, .ref (g.1 o0)), (1, .int x1), (2, .int x2), (3, .int x3), (4, .int x4)] []) (z : St) (o0 : Nat) (x1 : Int32) (x2 : Int32) (x4 : Int32) (ho0 : kd o0 = 4) {res : St × Int32} (hf : f_X4_hourOfSome_38 K5 z o0 x1 x2 x4 = some res) : Zj p l e (rm_X4_hourOfSome) s m args below meth c g A 5 (0, 0) (QI g A below args s res) z 38 [(0, .ref (g.1 o0)), (1, .int x1), (2, .int x2), (4, .int x4)] [] := by
  unfold f_X4_hourOfSome_38 at hf
  refine z_aload_n C dX4_hourOfSome_38 rfl 0 rfl ?_
  refine z_iload C dX4_hourOfSome_39 3 rfl ?_
  obtain ⟨r1, hc2, hf⟩ := q_bd hf
  refine z_cVi C (st := []) (c_X4_comesOf ho0 hc2) mw_X4_comesOf ml_X4_43 ho0 (by decide) rfl dX4_hourOfSome_41 rfl rfl rfl ⟨Nat.le_of_ble_eq_true rfl, Nat.le_of_ble_eq_true rfl⟩ rfl (Nat.le_of_ble_eq_true rfl) ?_
  refine z_istore_n C (lv2 := [(3, .int r1.2), (0, .ref (g.1 o0)), (1, .int x1), (2, .int x2), (4, .int x4)]) dX4_hourOfSome_44 rfl (by decide) rfl ?_
  exact z_sub [1, 2, 3, 0, 4] rfl (b_X4_hourOfSome_45 C hr hk hK5 r1.1 o0 x1 x2 r1.2 x4 ho0 hf)
def f_X4_hourOfSome_28 (K5 : St → Nat → Int32 → Int32 → Int32 → Int32 → Option (St × Int32)) (z : St) (o0 : Nat) (x1 : Int32) (x2 : Int32) (x3 : Int32) (x4 : Int32) : Option (St × Int32) :=
  ((f_X4_comesOf z o0 x4).bind fun r1 => if x3 ≤ r1.2 then f_X4_hourOfSome_45 K5 r1.1 o0 x1 x2 x3 x4 else f_X4_hourOfSome_38 K5 r1.1 o0 x1 x2 x4)
theorem b_X4_hourOfSome_28 {p : Program} {l : Launch} {e : Env} {s : State} {m : MethodId} {args : Array Value} {below : List Frame} {meth : Method} {c : Code} {g : Ga} {A : Nat → Prop} (C : Cx l g A p s m args c cX4_hourOfSome 5 RX4 (rm_X4_hourOfSome) (0, 0)) (hr : meth.sig.returnType = (some .int)) (hk : meth.locks = false) {K5 : St → Nat → Int32 → Int32 → Int32 → Int32 → Option (St × Int32)} (hK5 : ∀ (z : St) (o0 : Nat) (x1 : Int32) (x2 : Int32) (x3 : Int32) (x4 : Int32) (_ : kd o0 = 4) {res : St × Int32}, K5 z o0 x1 x2 x3 x4 = some res → Zj p l e (rm_X4_hourOfSome) s m args below meth c g A 5 (0, 0) (QI g A below args s res) z 5 [(0, .ref (g.1 o0)), (1, .int x1), (2, .int x2), (3, .int x3), (4, .int x4)] []) (z : St) (o0 : Nat) (x1 : Int32) (x2 : Int32) (x3 : Int32) (x4 : Int32) (ho0 : kd o0 = 4) {res : St × Int32} (hf : f_X4_hourOfSome_28 K5 z o0 x1 x2 x3 x4 = some res) : Zj p l e (rm_X4_hourOfSome) s m args below meth c g A 5 (0, 0) (QI g A below args s res) z 28 [(0, .ref (g.1 o0)), (1, .int x1), (2, .int x2), (3, .int x3), (4, .int x4)] [] := by
  unfold f_X4_hourOfSome_28 at hf
  refine z_aload_n C dX4_hourOfSome_28 rfl 0 rfl ?_
  refine z_iload C dX4_hourOfSome_29 4 rfl ?_
  obtain ⟨r1, hc2, hf⟩ := q_bd hf
  refine z_cVi C (st := []) (c_X4_comesOf ho0 hc2) mw_X4_comesOf ml_X4_43 ho0 (by decide) rfl dX4_hourOfSome_31 rfl rfl rfl ⟨Nat.le_of_ble_eq_true rfl, Nat.le_of_ble_eq_true rfl⟩ rfl (Nat.le_of_ble_eq_true rfl) ?_
  refine z_iload_n C dX4_hourOfSome_34 rfl 3 rfl ?_
  exact z_icmp_ge C dX4_hourOfSome_35 (by decide) (fun h => z_sub [0, 1, 2, 3, 4] rfl (b_X4_hourOfSome_45 C hr hk hK5 r1.1 o0 x1 x2 x3 x4 ho0 (q_t hf h))) (fun h => z_sub [0, 1, 2, 4] rfl (b_X4_hourOfSome_38 C hr hk hK5 r1.1 o0 x1 x2 x4 ho0 (q_f hf h)))
def f_X4_hourOfSome_23 (K5 : St → Nat → Int32 → Int32 → Int32 → Int32 → Option (St × Int32)) (z : St) (o0 : Nat) (x1 : Int32) (x2 : Int32) (x3 : Int32) (x4 : Int32) : Option (St × Int32) :=
  if x3 = ((-1)) then f_X4_hourOfSome_38 K5 z o0 x1 x2 x4 else f_X4_hourOfSome_28 K5 z o0 x1 x2 x3 x4
theorem b_X4_hourOfSome_23 {p : Program} {l : Launch} {e : Env} {s : State} {m : MethodId} {args : Array Value} {below : List Frame} {meth : Method} {c : Code} {g : Ga} {A : Nat → Prop} (C : Cx l g A p s m args c cX4_hourOfSome 5 RX4 (rm_X4_hourOfSome) (0, 0)) (hr : meth.sig.returnType = (some .int)) (hk : meth.locks = false) {K5 : St → Nat → Int32 → Int32 → Int32 → Int32 → Option (St × Int32)} (hK5 : ∀ (z : St) (o0 : Nat) (x1 : Int32) (x2 : Int32) (x3 : Int32) (x4 : Int32) (_ : kd o0 = 4) {res : St × Int32}, K5 z o0 x1 x2 x3 x4 = some res → Zj p l e (rm_X4_hourOfSome) s m args below meth c g A 5 (0, 0) (QI g A below args s res) z 5 [(0, .ref (g.1 o0)), (1, .int x1), (2, .int x2), (3, .int x3), (4, .int x4)] []) (z : St) (o0 : Nat) (x1 : Int32) (x2 : Int32) (x3 : Int32) (x4 : Int32) (ho0 : kd o0 = 4) {res : St × Int32} (hf : f_X4_hourOfSome_23 K5 z o0 x1 x2 x3 x4 = some res) : Zj p l e (rm_X4_hourOfSome) s m args below meth c g A 5 (0, 0) (QI g A below args s res) z 23 [(0, .ref (g.1 o0)), (1, .int x1), (2, .int x2), (3, .int x3), (4, .int x4)] [] := by
  unfold f_X4_hourOfSome_23 at hf
  refine z_iload_n C dX4_hourOfSome_23 rfl 3 rfl ?_
  refine z_iconst C dX4_hourOfSome_24 (v := (-1)) (by decide) ?_
  exact z_icmp_eq C dX4_hourOfSome_25 (by decide) (fun h => z_sub [0, 1, 2, 4] rfl (b_X4_hourOfSome_38 C hr hk hK5 z o0 x1 x2 x4 ho0 (q_t hf h))) (fun h => z_sub [0, 1, 2, 3, 4] rfl (b_X4_hourOfSome_28 C hr hk hK5 z o0 x1 x2 x3 x4 ho0 (q_f hf h)))
def f_X4_hourOfSome_14 (K5 : St → Nat → Int32 → Int32 → Int32 → Int32 → Option (St × Int32)) (z : St) (o0 : Nat) (x1 : Int32) (x2 : Int32) (x3 : Int32) (x4 : Int32) : Option (St × Int32) :=
  if ((x1 >>> (x4 &&& 31)) &&& 1) = 0 then f_X4_hourOfSome_23 K5 z o0 x1 x2 x3 x4 else f_X4_hourOfSome_45 K5 z o0 x1 x2 x3 x4
theorem b_X4_hourOfSome_14 {p : Program} {l : Launch} {e : Env} {s : State} {m : MethodId} {args : Array Value} {below : List Frame} {meth : Method} {c : Code} {g : Ga} {A : Nat → Prop} (C : Cx l g A p s m args c cX4_hourOfSome 5 RX4 (rm_X4_hourOfSome) (0, 0)) (hr : meth.sig.returnType = (some .int)) (hk : meth.locks = false) {K5 : St → Nat → Int32 → Int32 → Int32 → Int32 → Option (St × Int32)} (hK5 : ∀ (z : St) (o0 : Nat) (x1 : Int32) (x2 : Int32) (x3 : Int32) (x4 : Int32) (_ : kd o0 = 4) {res : St × Int32}, K5 z o0 x1 x2 x3 x4 = some res → Zj p l e (rm_X4_hourOfSome) s m args below meth c g A 5 (0, 0) (QI g A below args s res) z 5 [(0, .ref (g.1 o0)), (1, .int x1), (2, .int x2), (3, .int x3), (4, .int x4)] []) (z : St) (o0 : Nat) (x1 : Int32) (x2 : Int32) (x3 : Int32) (x4 : Int32) (ho0 : kd o0 = 4) {res : St × Int32} (hf : f_X4_hourOfSome_14 K5 z o0 x1 x2 x3 x4 = some res) : Zj p l e (rm_X4_hourOfSome) s m args below meth c g A 5 (0, 0) (QI g A below args s res) z 14 [(0, .ref (g.1 o0)), (1, .int x1), (2, .int x2), (3, .int x3), (4, .int x4)] [] := by
  unfold f_X4_hourOfSome_14 at hf
  refine z_iload_n C dX4_hourOfSome_14 rfl 1 rfl ?_
  refine z_iload C dX4_hourOfSome_15 4 rfl ?_
  refine z_ishr C dX4_hourOfSome_17 ?_
  refine z_iconst C dX4_hourOfSome_18 (v := 1) (by decide) ?_
  refine z_iand C dX4_hourOfSome_19 ?_
  exact z_if_ne C dX4_hourOfSome_20 (by decide) (fun h => z_sub [0, 1, 2, 3, 4] rfl (b_X4_hourOfSome_45 C hr hk hK5 z o0 x1 x2 x3 x4 ho0 (q_f hf h))) (fun h => z_sub [0, 1, 2, 3, 4] rfl (b_X4_hourOfSome_23 C hr hk hK5 z o0 x1 x2 x3 x4 ho0 (q_t hf h)))
def f_X4_hourOfSome_51  (z : St) (x2 : Int32) (x3 : Int32) : Option (St × Int32) :=
  some (z, imax x3 x2)
theorem b_X4_hourOfSome_51 {p : Program} {l : Launch} {e : Env} {s : State} {m : MethodId} {args : Array Value} {below : List Frame} {meth : Method} {c : Code} {g : Ga} {A : Nat → Prop} (C : Cx l g A p s m args c cX4_hourOfSome 5 RX4 (rm_X4_hourOfSome) (0, 0)) (hr : meth.sig.returnType = (some .int)) (hk : meth.locks = false)   (z : St) (x2 : Int32) (x3 : Int32)  {res : St × Int32} (hf : f_X4_hourOfSome_51  z x2 x3 = some res) : Zj p l e (rm_X4_hourOfSome) s m args below meth c g A 5 (0, 0) (QI g A below args s res) z 51 [(2, .int x2), (3, .int x3)] [] := by
  unfold f_X4_hourOfSome_51 at hf
  refine z_iload_n C dX4_hourOfSome_51 rfl 1 rfl ?_
  refine z_iload_n C dX4_hourOfSome_52 rfl 0 rfl ?_
  refine z_mmax C (st := []) dX4_hourOfSome_53 ml_X4_50 mm_max.1 mm_i mm_max.2 ⟨Nat.le_of_ble_eq_true rfl, Nat.le_of_ble_eq_true rfl⟩ (Nat.le_of_ble_eq_true rfl) ?_
  cases hf
  exact z_iret C hr hk dX4_hourOfSome_56
def f_X4_hourOfSome_5  : Nat → St → Nat → Int32 → Int32 → Int32 → Int32 → Option (St × Int32)
  | 0, _, _, _, _, _, _ => none
  | n + 1, z, o0, x1, x2, x3, x4 => if (z.1 o0 3) ≤ x4 then f_X4_hourOfSome_51 z x2 x3 else f_X4_hourOfSome_14 (f_X4_hourOfSome_5 n) z o0 x1 x2 x3 x4
theorem b_X4_hourOfSome_5 {p : Program} {l : Launch} {e : Env} {s : State} {m : MethodId} {args : Array Value} {below : List Frame} {meth : Method} {c : Code} {g : Ga} {A : Nat → Prop} (C : Cx l g A p s m args c cX4_hourOfSome 5 RX4 (rm_X4_hourOfSome) (0, 0)) (hr : meth.sig.returnType = (some .int)) (hk : meth.locks = false)   : ∀ (n : Nat) (z : St) (o0 : Nat) (x1 : Int32) (x2 : Int32) (x3 : Int32) (x4 : Int32) (_ : kd o0 = 4) {res : St × Int32} (_ : f_X4_hourOfSome_5  n z o0 x1 x2 x3 x4 = some res), Zj p l e (rm_X4_hourOfSome) s m args below meth c g A 5 (0, 0) (QI g A below args s res) z 5 [(0, .ref (g.1 o0)), (1, .int x1), (2, .int x2), (3, .int x3), (4, .int x4)] [] := by
  intro n
  induction n with
  | zero =>
    intro z o0 x1 x2 x3 x4 ho0 res hf
    cases hf
  | succ n ih =>
    intro z o0 x1 x2 x3 x4 ho0 res hf
    rw [f_X4_hourOfSome_5] at hf
    refine z_iload C dX4_hourOfSome_5 4 rfl ?_
    refine z_aload_n C dX4_hourOfSome_7 rfl 0 rfl ?_
    refine gf_X4_21 C dX4_hourOfSome_8 ho0 ?_
    exact z_icmp_ge C dX4_hourOfSome_11 (by decide) (fun h => z_sub [2, 3] rfl (b_X4_hourOfSome_51 C hr hk z x2 x3 (q_t hf h))) (fun h => z_sub [0, 1, 2, 3, 4] rfl (b_X4_hourOfSome_14 C hr hk ih z o0 x1 x2 x3 x4 ho0 (q_f hf h)))
def f_X4_hourOfSome_0  (z : St) (o0 : Nat) (x1 : Int32) (x2 : Int32) : Option (St × Int32) :=
  f_X4_hourOfSome_5 FU z o0 x1 x2 ((-1)) 0
theorem b_X4_hourOfSome_0 {p : Program} {l : Launch} {e : Env} {s : State} {m : MethodId} {args : Array Value} {below : List Frame} {meth : Method} {c : Code} {g : Ga} {A : Nat → Prop} (C : Cx l g A p s m args c cX4_hourOfSome 5 RX4 (rm_X4_hourOfSome) (0, 0)) (hr : meth.sig.returnType = (some .int)) (hk : meth.locks = false)   (z : St) (o0 : Nat) (x1 : Int32) (x2 : Int32) (ho0 : kd o0 = 4) {res : St × Int32} (hf : f_X4_hourOfSome_0  z o0 x1 x2 = some res) : Zj p l e (rm_X4_hourOfSome) s m args below meth c g A 5 (0, 0) (QI g A below args s res) z 0 [(0, .ref (g.1 o0)), (1, .int x1), (2, .int x2)] [] := by
  unfold f_X4_hourOfSome_0 at hf
  refine z_iconst C dX4_hourOfSome_0 (v := (-1)) (by decide) ?_
  refine z_istore_n C (lv2 := [(3, .int ((-1))), (0, .ref (g.1 o0)), (1, .int x1), (2, .int x2)]) dX4_hourOfSome_1 rfl (by decide) rfl ?_
  refine z_iconst C dX4_hourOfSome_2 (v := 0) (by decide) ?_
  refine z_istore C (lv2 := [(4, .int 0), (3, .int ((-1))), (0, .ref (g.1 o0)), (1, .int x1), (2, .int x2)]) dX4_hourOfSome_3 (by decide) rfl ?_
  exact z_sub [2, 3, 4, 1, 0] rfl (b_X4_hourOfSome_5 C hr hk FU z o0 x1 x2 ((-1)) 0 ho0 hf)
def f_X4_hourOfSome (z : St) (o0 : Nat) (x1 : Int32) (x2 : Int32) : Option (St × Int32) := f_X4_hourOfSome_0 z o0 x1 x2
theorem c_X4_hourOfSome {l : Launch} {g : Ga} {A : Nat → Prop} {z : St} {o0 : Nat} {x1 : Int32} {x2 : Int32} (ho0 : kd o0 = 4) {res : St × Int32} (hf : f_X4_hourOfSome z o0 x1 x2 = some res) : CI l g A yX4_hourOfSome cX4_hourOfSome 5 (some .int) rm_X4_hourOfSome [.ref (g.1 o0), .int x1, .int x2] z res :=
  e_CI (by decide) (Nat.le_of_ble_eq_true rfl) rfl (fun p e s m args below meth c C hr hk => z_sub [0, 1, 2] rfl (b_X4_hourOfSome_0 C hr hk z o0 x1 x2 ho0 hf))
abbrev rm_X4_hourOfLonger : Room := { frames := 1, cells := 0, slots := 0, locals := 21 }
def f_X4_hourOfLonger_58 (K6 : St → Nat → Int32 → Int32 → Int32 → Int32 → Option (St × Int32)) (z : St) (o0 : Nat) (x1 : Int32) (x2 : Int32) (x4 : Int32) (x5 : Int32) : Option (St × Int32) :=
  K6 z o0 x1 x2 x4 (x5 + 1)
theorem b_X4_hourOfLonger_58 {p : Program} {l : Launch} {e : Env} {s : State} {m : MethodId} {args : Array Value} {below : List Frame} {meth : Method} {c : Code} {g : Ga} {A : Nat → Prop} (C : Cx l g A p s m args c cX4_hourOfLonger 6 RX4 (rm_X4_hourOfLonger) (0, 0)) (hr : meth.sig.returnType = (some .int)) (hk : meth.locks = false) {K6 : St → Nat → Int32 → Int32 → Int32 → Int32 → Option (St × Int32)} (hK6 : ∀ (z : St) (o0 : Nat) (x1 : Int32) (x2 : Int32) (x4 : Int32) (x5 : Int32) (_ : kd o0 = 4) {res : St × Int32}, K6 z o0 x1 x2 x4 x5 = some res → Zj p l e (rm_X4_hourOfLonger) s m args below meth c g A 6 (0, 0) (QI g A below args s res) z 6 [(0, .ref (g.1 o0)), (1, .int x1), (2, .int x2), (4, .int x4), (5, .int x5)] []) (z : St) (o0 : Nat) (x1 : Int32) (x2 : Int32) (x4 : Int32) (x5 : Int32) (ho0 : kd o0 = 4) {res : St × Int32} (hf : f_X4_hourOfLonger_58 K6 z o0 x1 x2 x4 x5 = some res) : Zj p l e (rm_X4_hourOfLonger) s m args below meth c g A 6 (0, 0) (QI g A below args s res) z 58 [(0, .ref (g.1 o0)), (1, .int x1), (2, .int x2), (4, .int x4), (5, .int x5)] [] := by
  unfold f_X4_hourOfLonger_58 at hf
  refine z_iinc C (k := 4) (v := x5 + 1) (lv2 := [(5, .int (x5 + 1)), (0, .ref (g.1 o0)), (1, .int x1), (2, .int x2), (4, .int x4)]) dX4_hourOfLonger_58 rfl rfl (by decide) rfl ?_
  exact z_goto C dX4_hourOfLonger_61 (by decide) (z_sub [1, 2, 3, 4, 0] rfl (hK6 z o0 x1 x2 x4 (x5 + 1) ho0 hf))
def f_X4_hourOfLonger_50 (K6 : St → Nat → Int32 → Int32 → Int32 → Int32 → Option (St × Int32)) (z : St) (o0 : Nat) (x1 : Int32) (x2 : Int32) (x5 : Int32) : Option (St × Int32) :=
  ((f_X4_comesOf z o0 x5).bind fun r1 => f_X4_hourOfLonger_58 K6 r1.1 o0 x1 x2 r1.2 x5)
theorem b_X4_hourOfLonger_50 {p : Program} {l : Launch} {e : Env} {s : State} {m : MethodId} {args : Array Value} {below : List Frame} {meth : Method} {c : Code} {g : Ga} {A : Nat → Prop} (C : Cx l g A p s m args c cX4_hourOfLonger 6 RX4 (rm_X4_hourOfLonger) (0, 0)) (hr : meth.sig.returnType = (some .int)) (hk : meth.locks = false) {K6 : St → Nat → Int32 → Int32 → Int32 → Int32 → Option (St × Int32)} (hK6 : ∀ (z : St) (o0 : Nat) (x1 : Int32) (x2 : Int32) (x4 : Int32) (x5 : Int32) (_ : kd o0 = 4) {res : St × Int32}, K6 z o0 x1 x2 x4 x5 = some res → Zj p l e (rm_X4_hourOfLonger) s m args below meth c g A 6 (0, 0) (QI g A below args s res) z 6 [(0, .ref (g.1 o0)), (1, .int x1), (2, .int x2), (4, .int x4), (5, .int x5)] []) (z : St) (o0 : Nat) (x1 : Int32) (x2 : Int32) (x5 : Int32) (ho0 : kd o0 = 4) {res : St × Int32} (hf : f_X4_hourOfLonger_50 K6 z o0 x1 x2 x5 = some res) : Zj p l e (rm_X4_hourOfLonger) s m args below meth c g A 6 (0, 0) (QI g A below args s res) z 50 [(0, .ref (g.1 o0)), (1, .int x1), (2, .int x2), (5, .int x5)] [] := by
  unfold f_X4_hourOfLonger_50 at hf
  refine z_aload_n C dX4_hourOfLonger_50 rfl 0 rfl ?_
  refine z_iload C dX4_hourOfLonger_51 3 rfl ?_
  obtain ⟨r1, hc2, hf⟩ := q_bd hf
  refine z_cVi C (st := []) (c_X4_comesOf ho0 hc2) mw_X4_comesOf ml_X4_43 ho0 (by decide) rfl dX4_hourOfLonger_53 rfl rfl rfl ⟨Nat.le_of_ble_eq_true rfl, Nat.le_of_ble_eq_true rfl⟩ rfl (Nat.le_of_ble_eq_true rfl) ?_
  refine z_istore C (lv2 := [(4, .int r1.2), (0, .ref (g.1 o0)), (1, .int x1), (2, .int x2), (5, .int x5)]) dX4_hourOfLonger_56 (by decide) rfl ?_
  exact z_sub [1, 2, 3, 0, 4] rfl (b_X4_hourOfLonger_58 C hr hk hK6 r1.1 o0 x1 x2 r1.2 x5 ho0 hf)
def f_X4_hourOfLonger_36 (K6 : St → Nat → Int32 → Int32 → Int32 → Int32 → Option (St × Int32)) (z : St) (o0 : Nat) (x1 : Int32) (x2 : Int32) (x4 : Int32) (x5 : Int32) : Option (St × Int32) :=
  ((f_X4_coolsOf z o0 x5).bind fun r1 => ((f_X4_coolsOf r1.1 o0 x1).bind fun r3 => if r1.2 ≤ r3.2 then f_X4_hourOfLonger_58 K6 r3.1 o0 x1 x2 x4 x5 else f_X4_hourOfLonger_50 K6 r3.1 o0 x1 x2 x5))
theorem b_X4_hourOfLonger_36 {p : Program} {l : Launch} {e : Env} {s : State} {m : MethodId} {args : Array Value} {below : List Frame} {meth : Method} {c : Code} {g : Ga} {A : Nat → Prop} (C : Cx l g A p s m args c cX4_hourOfLonger 6 RX4 (rm_X4_hourOfLonger) (0, 0)) (hr : meth.sig.returnType = (some .int)) (hk : meth.locks = false) {K6 : St → Nat → Int32 → Int32 → Int32 → Int32 → Option (St × Int32)} (hK6 : ∀ (z : St) (o0 : Nat) (x1 : Int32) (x2 : Int32) (x4 : Int32) (x5 : Int32) (_ : kd o0 = 4) {res : St × Int32}, K6 z o0 x1 x2 x4 x5 = some res → Zj p l e (rm_X4_hourOfLonger) s m args below meth c g A 6 (0, 0) (QI g A below args s res) z 6 [(0, .ref (g.1 o0)), (1, .int x1), (2, .int x2), (4, .int x4), (5, .int x5)] []) (z : St) (o0 : Nat) (x1 : Int32) (x2 : Int32) (x4 : Int32) (x5 : Int32) (ho0 : kd o0 = 4) {res : St × Int32} (hf : f_X4_hourOfLonger_36 K6 z o0 x1 x2 x4 x5 = some res) : Zj p l e (rm_X4_hourOfLonger) s m args below meth c g A 6 (0, 0) (QI g A below args s res) z 36 [(0, .ref (g.1 o0)), (1, .int x1), (2, .int x2), (4, .int x4), (5, .int x5)] [] := by
  unfold f_X4_hourOfLonger_36 at hf
  refine z_aload_n C dX4_hourOfLonger_36 rfl 0 rfl ?_
  refine z_iload C dX4_hourOfLonger_37 4 rfl ?_
  obtain ⟨r1, hc2, hf⟩ := q_bd hf
  refine z_cVi C (st := []) (c_X4_coolsOf ho0 hc2) mw_X4_coolsOf ml_X4_49 ho0 (by decide) rfl dX4_hourOfLonger_39 rfl rfl rfl ⟨Nat.le_of_ble_eq_true rfl, Nat.le_of_ble_eq_true rfl⟩ rfl (Nat.le_of_ble_eq_true rfl) ?_
  refine z_aload_n C dX4_hourOfLonger_42 rfl 0 rfl ?_
  refine z_iload_n C dX4_hourOfLonger_43 rfl 1 rfl ?_
  obtain ⟨r3, hc4, hf⟩ := q_bd hf
  refine z_cVi C (st := [.int r1.2]) (c_X4_coolsOf ho0 hc4) mw_X4_coolsOf ml_X4_49 ho0 (by decide) rfl dX4_hourOfLonger_44 rfl rfl rfl ⟨Nat.le_of_ble_eq_true rfl, Nat.le_of_ble_eq_true rfl⟩ rfl (Nat.le_of_ble_eq_true rfl) ?_
  exact z_icmp_le C dX4_hourOfLonger_47 (by decide) (fun h => z_sub [0, 1, 2, 3, 4] rfl (b_X4_hourOfLonger_58 C hr hk hK6 r3.1 o0 x1 x2 x4 x5 ho0 (q_t hf h))) (fun h => z_sub [0, 1, 2, 4] rfl (b_X4_hourOfLonger_50 C hr hk hK6 r3.1 o0 x1 x2 x5 ho0 (q_f hf h)))
def f_X4_hourOfLonger_25 (K6 : St → Nat → Int32 → Int32 → Int32 → Int32 → Option (St × Int32)) (z : St) (o0 : Nat) (x1 : Int32) (x2 : Int32) (x4 : Int32) (x5 : Int32) : Option (St × Int32) :=
  ((f_X4_comesOf z o0 x5).bind fun r1 => if x4 ≤ r1.2 then f_X4_hourOfLonger_58 K6 r1.1 o0 x1 x2 x4 x5 else f_X4_hourOfLonger_36 K6 r1.1 o0 x1 x2 x4 x5)
theorem b_X4_hourOfLonger_25 {p : Program} {l : Launch} {e : Env} {s : State} {m : MethodId} {args : Array Value} {below : List Frame} {meth : Method} {c : Code} {g : Ga} {A : Nat → Prop} (C : Cx l g A p s m args c cX4_hourOfLonger 6 RX4 (rm_X4_hourOfLonger) (0, 0)) (hr : meth.sig.returnType = (some .int)) (hk : meth.locks = false) {K6 : St → Nat → Int32 → Int32 → Int32 → Int32 → Option (St × Int32)} (hK6 : ∀ (z : St) (o0 : Nat) (x1 : Int32) (x2 : Int32) (x4 : Int32) (x5 : Int32) (_ : kd o0 = 4) {res : St × Int32}, K6 z o0 x1 x2 x4 x5 = some res → Zj p l e (rm_X4_hourOfLonger) s m args below meth c g A 6 (0, 0) (QI g A below args s res) z 6 [(0, .ref (g.1 o0)), (1, .int x1), (2, .int x2), (4, .int x4), (5, .int x5)] []) (z : St) (o0 : Nat) (x1 : Int32) (x2 : Int32) (x4 : Int32) (x5 : Int32) (ho0 : kd o0 = 4) {res : St × Int32} (hf : f_X4_hourOfLonger_25 K6 z o0 x1 x2 x4 x5 = some res) : Zj p l e (rm_X4_hourOfLonger) s m args below meth c g A 6 (0, 0) (QI g A below args s res) z 25 [(0, .ref (g.1 o0)), (1, .int x1), (2, .int x2), (4, .int x4), (5, .int x5)] [] := by
  unfold f_X4_hourOfLonger_25 at hf
  refine z_aload_n C dX4_hourOfLonger_25 rfl 0 rfl ?_
  refine z_iload C dX4_hourOfLonger_26 4 rfl ?_
  obtain ⟨r1, hc2, hf⟩ := q_bd hf
  refine z_cVi C (st := []) (c_X4_comesOf ho0 hc2) mw_X4_comesOf ml_X4_43 ho0 (by decide) rfl dX4_hourOfLonger_28 rfl rfl rfl ⟨Nat.le_of_ble_eq_true rfl, Nat.le_of_ble_eq_true rfl⟩ rfl (Nat.le_of_ble_eq_true rfl) ?_
  refine z_iload C dX4_hourOfLonger_31 3 rfl ?_
  exact z_icmp_ge C dX4_hourOfLonger_33 (by decide) (fun h => z_sub [0, 1, 2, 3, 4] rfl (b_X4_hourOfLonger_58 C hr hk hK6 r1.1 o0 x1 x2 x4 x5 ho0 (q_t hf h))) (fun h => z_sub [0, 1, 2, 3, 4] rfl (b_X4_hourOfLonger_36 C hr hk hK6 r1.1 o0 x1 x2 x4 x5 ho0 (q_f hf h)))
def f_X4_hourOfLonger_15 (K6 : St → Nat → Int32 → Int32 → Int32 → Int32 → Option (St × Int32)) (z : St) (o0 : Nat) (x1 : Int32) (x2 : Int32) (x4 : Int32) (x5 : Int32) : Option (St × Int32) :=
  ((f_X4_comesOf z o0 x5).bind fun r1 => if r1.2 ≤ x2 then f_X4_hourOfLonger_58 K6 r1.1 o0 x1 x2 x4 x5 else f_X4_hourOfLonger_25 K6 r1.1 o0 x1 x2 x4 x5)
theorem b_X4_hourOfLonger_15 {p : Program} {l : Launch} {e : Env} {s : State} {m : MethodId} {args : Array Value} {below : List Frame} {meth : Method} {c : Code} {g : Ga} {A : Nat → Prop} (C : Cx l g A p s m args c cX4_hourOfLonger 6 RX4 (rm_X4_hourOfLonger) (0, 0)) (hr : meth.sig.returnType = (some .int)) (hk : meth.locks = false) {K6 : St → Nat → Int32 → Int32 → Int32 → Int32 → Option (St × Int32)} (hK6 : ∀ (z : St) (o0 : Nat) (x1 : Int32) (x2 : Int32) (x4 : Int32) (x5 : Int32) (_ : kd o0 = 4) {res : St × Int32}, K6 z o0 x1 x2 x4 x5 = some res → Zj p l e (rm_X4_hourOfLonger) s m args below meth c g A 6 (0, 0) (QI g A below args s res) z 6 [(0, .ref (g.1 o0)), (1, .int x1), (2, .int x2), (4, .int x4), (5, .int x5)] []) (z : St) (o0 : Nat) (x1 : Int32) (x2 : Int32) (x4 : Int32) (x5 : Int32) (ho0 : kd o0 = 4) {res : St × Int32} (hf : f_X4_hourOfLonger_15 K6 z o0 x1 x2 x4 x5 = some res) : Zj p l e (rm_X4_hourOfLonger) s m args below meth c g A 6 (0, 0) (QI g A below args s res) z 15 [(0, .ref (g.1 o0)), (1, .int x1), (2, .int x2), (4, .int x4), (5, .int x5)] [] := by
  unfold f_X4_hourOfLonger_15 at hf
  refine z_aload_n C dX4_hourOfLonger_15 rfl 0 rfl ?_
  refine z_iload C dX4_hourOfLonger_16 4 rfl ?_
  obtain ⟨r1, hc2, hf⟩ := q_bd hf
  refine z_cVi C (st := []) (c_X4_comesOf ho0 hc2) mw_X4_comesOf ml_X4_43 ho0 (by decide) rfl dX4_hourOfLonger_18 rfl rfl rfl ⟨Nat.le_of_ble_eq_true rfl, Nat.le_of_ble_eq_true rfl⟩ rfl (Nat.le_of_ble_eq_true rfl) ?_
  refine z_iload_n C dX4_hourOfLonger_21 rfl 2 rfl ?_
  exact z_icmp_le C dX4_hourOfLonger_22 (by decide) (fun h => z_sub [0, 1, 2, 3, 4] rfl (b_X4_hourOfLonger_58 C hr hk hK6 r1.1 o0 x1 x2 x4 x5 ho0 (q_t hf h))) (fun h => z_sub [0, 1, 2, 3, 4] rfl (b_X4_hourOfLonger_25 C hr hk hK6 r1.1 o0 x1 x2 x4 x5 ho0 (q_f hf h)))
def f_X4_hourOfLonger_64  (z : St) (x4 : Int32) : Option (St × Int32) :=
  some (z, x4)
theorem b_X4_hourOfLonger_64 {p : Program} {l : Launch} {e : Env} {s : State} {m : MethodId} {args : Array Value} {below : List Frame} {meth : Method} {c : Code} {g : Ga} {A : Nat → Prop} (C : Cx l g A p s m args c cX4_hourOfLonger 6 RX4 (rm_X4_hourOfLonger) (0, 0)) (hr : meth.sig.returnType = (some .int)) (hk : meth.locks = false)   (z : St) (x4 : Int32)  {res : St × Int32} (hf : f_X4_hourOfLonger_64  z x4 = some res) : Zj p l e (rm_X4_hourOfLonger) s m args below meth c g A 6 (0, 0) (QI g A below args s res) z 64 [(4, .int x4)] [] := by
  unfold f_X4_hourOfLonger_64 at hf
  refine z_iload C dX4_hourOfLonger_64 0 rfl ?_
  cases hf
  exact z_iret C hr hk dX4_hourOfLonger_66
def f_X4_hourOfLonger_6  : Nat → St → Nat → Int32 → Int32 → Int32 → Int32 → Option (St × Int32)
  | 0, _, _, _, _, _, _ => none
  | n + 1, z, o0, x1, x2, x4, x5 => if (z.1 o0 3) ≤ x5 then f_X4_hourOfLonger_64 z x4 else f_X4_hourOfLonger_15 (f_X4_hourOfLonger_6 n) z o0 x1 x2 x4 x5
theorem b_X4_hourOfLonger_6 {p : Program} {l : Launch} {e : Env} {s : State} {m : MethodId} {args : Array Value} {below : List Frame} {meth : Method} {c : Code} {g : Ga} {A : Nat → Prop} (C : Cx l g A p s m args c cX4_hourOfLonger 6 RX4 (rm_X4_hourOfLonger) (0, 0)) (hr : meth.sig.returnType = (some .int)) (hk : meth.locks = false)   : ∀ (n : Nat) (z : St) (o0 : Nat) (x1 : Int32) (x2 : Int32) (x4 : Int32) (x5 : Int32) (_ : kd o0 = 4) {res : St × Int32} (_ : f_X4_hourOfLonger_6  n z o0 x1 x2 x4 x5 = some res), Zj p l e (rm_X4_hourOfLonger) s m args below meth c g A 6 (0, 0) (QI g A below args s res) z 6 [(0, .ref (g.1 o0)), (1, .int x1), (2, .int x2), (4, .int x4), (5, .int x5)] [] := by
  intro n
  induction n with
  | zero =>
    intro z o0 x1 x2 x4 x5 ho0 res hf
    cases hf
  | succ n ih =>
    intro z o0 x1 x2 x4 x5 ho0 res hf
    rw [f_X4_hourOfLonger_6] at hf
    refine z_iload C dX4_hourOfLonger_6 4 rfl ?_
    refine z_aload_n C dX4_hourOfLonger_8 rfl 0 rfl ?_
    refine gf_X4_21 C dX4_hourOfLonger_9 ho0 ?_
    exact z_icmp_ge C dX4_hourOfLonger_12 (by decide) (fun h => z_sub [3] rfl (b_X4_hourOfLonger_64 C hr hk z x4 (q_t hf h))) (fun h => z_sub [0, 1, 2, 3, 4] rfl (b_X4_hourOfLonger_15 C hr hk ih z o0 x1 x2 x4 x5 ho0 (q_f hf h)))
def f_X4_hourOfLonger_0  (z : St) (o0 : Nat) (x1 : Int32) (x2 : Int32) (x3 : Int32) : Option (St × Int32) :=
  f_X4_hourOfLonger_6 FU z o0 x1 x2 x3 0
theorem b_X4_hourOfLonger_0 {p : Program} {l : Launch} {e : Env} {s : State} {m : MethodId} {args : Array Value} {below : List Frame} {meth : Method} {c : Code} {g : Ga} {A : Nat → Prop} (C : Cx l g A p s m args c cX4_hourOfLonger 6 RX4 (rm_X4_hourOfLonger) (0, 0)) (hr : meth.sig.returnType = (some .int)) (hk : meth.locks = false)   (z : St) (o0 : Nat) (x1 : Int32) (x2 : Int32) (x3 : Int32) (ho0 : kd o0 = 4) {res : St × Int32} (hf : f_X4_hourOfLonger_0  z o0 x1 x2 x3 = some res) : Zj p l e (rm_X4_hourOfLonger) s m args below meth c g A 6 (0, 0) (QI g A below args s res) z 0 [(0, .ref (g.1 o0)), (1, .int x1), (2, .int x2), (3, .int x3)] [] := by
  unfold f_X4_hourOfLonger_0 at hf
  refine z_iload_n C dX4_hourOfLonger_0 rfl 3 rfl ?_
  refine z_istore C (lv2 := [(4, .int x3), (0, .ref (g.1 o0)), (1, .int x1), (2, .int x2), (3, .int x3)]) dX4_hourOfLonger_1 (by decide) rfl ?_
  refine z_iconst C dX4_hourOfLonger_3 (v := 0) (by decide) ?_
  refine z_istore C (lv2 := [(5, .int 0), (4, .int x3), (0, .ref (g.1 o0)), (1, .int x1), (2, .int x2), (3, .int x3)]) dX4_hourOfLonger_4 (by decide) rfl ?_
  exact z_sub [2, 3, 4, 1, 0] rfl (b_X4_hourOfLonger_6 C hr hk FU z o0 x1 x2 x3 0 ho0 hf)
def f_X4_hourOfLonger (z : St) (o0 : Nat) (x1 : Int32) (x2 : Int32) (x3 : Int32) : Option (St × Int32) := f_X4_hourOfLonger_0 z o0 x1 x2 x3
theorem c_X4_hourOfLonger {l : Launch} {g : Ga} {A : Nat → Prop} {z : St} {o0 : Nat} {x1 : Int32} {x2 : Int32} {x3 : Int32} (ho0 : kd o0 = 4) {res : St × Int32} (hf : f_X4_hourOfLonger z o0 x1 x2 x3 = some res) : CI l g A yX4_hourOfLonger cX4_hourOfLonger 6 (some .int) rm_X4_hourOfLonger [.ref (g.1 o0), .int x1, .int x2, .int x3] z res :=
  e_CI (by decide) (Nat.le_of_ble_eq_true rfl) rfl (fun p e s m args below meth c C hr hk => z_sub [0, 1, 2, 3] rfl (b_X4_hourOfLonger_0 C hr hk z o0 x1 x2 x3 ho0 hf))
abbrev rm_X4_boundOf : Room := { frames := 1, cells := 0, slots := 0, locals := 21 }
def f_X4_boundOf_90 (K10 : St → Nat → Int32 → Int32 → Int32 → Int32 → Int32 → Option (St × Int32)) (z : St) (o0 : Nat) (x1 : Int32) (x2 : Int32) (x3 : Int32) (x4 : Int32) (x5 : Int32) : Option (St × Int32) :=
  K10 z o0 x1 x2 x3 x4 (x5 + 1)
theorem b_X4_boundOf_90 {p : Program} {l : Launch} {e : Env} {s : State} {m : MethodId} {args : Array Value} {below : List Frame} {meth : Method} {c : Code} {g : Ga} {A : Nat → Prop} (C : Cx l g A p s m args c cX4_boundOf 6 RX4 (rm_X4_boundOf) (0, 0)) (hr : meth.sig.returnType = (some .int)) (hk : meth.locks = false) {K10 : St → Nat → Int32 → Int32 → Int32 → Int32 → Int32 → Option (St × Int32)} (hK10 : ∀ (z : St) (o0 : Nat) (x1 : Int32) (x2 : Int32) (x3 : Int32) (x4 : Int32) (x5 : Int32) (_ : kd o0 = 4) {res : St × Int32}, K10 z o0 x1 x2 x3 x4 x5 = some res → Zj p l e (rm_X4_boundOf) s m args below meth c g A 6 (0, 0) (QI g A below args s res) z 10 [(0, .ref (g.1 o0)), (1, .int x1), (2, .int x2), (3, .int x3), (4, .int x4), (5, .int x5)] []) (z : St) (o0 : Nat) (x1 : Int32) (x2 : Int32) (x3 : Int32) (x4 : Int32) (x5 : Int32) (ho0 : kd o0 = 4) {res : St × Int32} (hf : f_X4_boundOf_90 K10 z o0 x1 x2 x3 x4 x5 = some res) : Zj p l e (rm_X4_boundOf) s m args below meth c g A 6 (0, 0) (QI g A below args s res) z 90 [(0, .ref (g.1 o0)), (1, .int x1), (2, .int x2), (3, .int x3), (4, .int x4), (5, .int x5)] [] := by
  unfold f_X4_boundOf_90 at hf
  refine z_iinc C (k := 5) (v := x5 + 1) (lv2 := [(5, .int (x5 + 1)), (0, .ref (g.1 o0)), (1, .int x1), (2, .int x2), (3, .int x3), (4, .int x4)]) dX4_boundOf_90 rfl rfl (by decide) rfl ?_
  exact z_goto C dX4_boundOf_93 (by decide) (z_sub [1, 2, 3, 4, 5, 0] rfl (hK10 z o0 x1 x2 x3 x4 (x5 + 1) ho0 hf))
def f_X4_boundOf_88 (K10 : St → Nat → Int32 → Int32 → Int32 → Int32 → Int32 → Option (St × Int32)) (z : St) (o0 : Nat) (x1 : Int32) (x2 : Int32) (x3 : Int32) (x5 : Int32) (s0 : Int32) : Option (St × Int32) :=
  f_X4_boundOf_90 K10 z o0 x1 x2 x3 s0 x5
theorem b_X4_boundOf_88 {p : Program} {l : Launch} {e : Env} {s : State} {m : MethodId} {args : Array Value} {below : List Frame} {meth : Method} {c : Code} {g : Ga} {A : Nat → Prop} (C : Cx l g A p s m args c cX4_boundOf 6 RX4 (rm_X4_boundOf) (0, 0)) (hr : meth.sig.returnType = (some .int)) (hk : meth.locks = false) {K10 : St → Nat → Int32 → Int32 → Int32 → Int32 → Int32 → Option (St × Int32)} (hK10 : ∀ (z : St) (o0 : Nat) (x1 : Int32) (x2 : Int32) (x3 : Int32) (x4 : Int32) (x5 : Int32) (_ : kd o0 = 4) {res : St × Int32}, K10 z o0 x1 x2 x3 x4 x5 = some res → Zj p l e (rm_X4_boundOf) s m args below meth c g A 6 (0, 0) (QI g A below args s res) z 10 [(0, .ref (g.1 o0)), (1, .int x1), (2, .int x2), (3, .int x3), (4, .int x4), (5, .int x5)] []) (z : St) (o0 : Nat) (x1 : Int32) (x2 : Int32) (x3 : Int32) (x5 : Int32) (s0 : Int32) (ho0 : kd o0 = 4) {res : St × Int32} (hf : f_X4_boundOf_88 K10 z o0 x1 x2 x3 x5 s0 = some res) : Zj p l e (rm_X4_boundOf) s m args below meth c g A 6 (0, 0) (QI g A below args s res) z 88 [(0, .ref (g.1 o0)), (1, .int x1), (2, .int x2), (3, .int x3), (5, .int x5)] [.int s0] := by
  unfold f_X4_boundOf_88 at hf
  refine z_istore C (lv2 := [(4, .int s0), (0, .ref (g.1 o0)), (1, .int x1), (2, .int x2), (3, .int x3), (5, .int x5)]) dX4_boundOf_88 (by decide) rfl ?_
  exact z_sub [1, 2, 3, 4, 0, 5] rfl (b_X4_boundOf_90 C hr hk hK10 z o0 x1 x2 x3 s0 x5 ho0 hf)
def f_X4_boundOf_68 (K10 : St → Nat → Int32 → Int32 → Int32 → Int32 → Int32 → Option (St × Int32)) (z : St) (o0 : Nat) (x1 : Int32) (x2 : Int32) (x3 : Int32) (x5 : Int32) : Option (St × Int32) :=
  ((f_X4_coolsOf z o0 x5).bind fun r1 => f_X4_boundOf_88 K10 r1.1 o0 x1 x2 x3 x5 r1.2)
theorem b_X4_boundOf_68 {p : Program} {l : Launch} {e : Env} {s : State} {m : MethodId} {args : Array Value} {below : List Frame} {meth : Method} {c : Code} {g : Ga} {A : Nat → Prop} (C : Cx l g A p s m args c cX4_boundOf 6 RX4 (rm_X4_boundOf) (0, 0)) (hr : meth.sig.returnType = (some .int)) (hk : meth.locks = false) {K10 : St → Nat → Int32 → Int32 → Int32 → Int32 → Int32 → Option (St × Int32)} (hK10 : ∀ (z : St) (o0 : Nat) (x1 : Int32) (x2 : Int32) (x3 : Int32) (x4 : Int32) (x5 : Int32) (_ : kd o0 = 4) {res : St × Int32}, K10 z o0 x1 x2 x3 x4 x5 = some res → Zj p l e (rm_X4_boundOf) s m args below meth c g A 6 (0, 0) (QI g A below args s res) z 10 [(0, .ref (g.1 o0)), (1, .int x1), (2, .int x2), (3, .int x3), (4, .int x4), (5, .int x5)] []) (z : St) (o0 : Nat) (x1 : Int32) (x2 : Int32) (x3 : Int32) (x5 : Int32) (ho0 : kd o0 = 4) {res : St × Int32} (hf : f_X4_boundOf_68 K10 z o0 x1 x2 x3 x5 = some res) : Zj p l e (rm_X4_boundOf) s m args below meth c g A 6 (0, 0) (QI g A below args s res) z 68 [(0, .ref (g.1 o0)), (1, .int x1), (2, .int x2), (3, .int x3), (5, .int x5)] [] := by
  unfold f_X4_boundOf_68 at hf
  refine z_aload_n C dX4_boundOf_68 rfl 0 rfl ?_
  refine z_iload C dX4_boundOf_69 4 rfl ?_
  obtain ⟨r1, hc2, hf⟩ := q_bd hf
  refine z_cVi C (st := []) (c_X4_coolsOf ho0 hc2) mw_X4_coolsOf ml_X4_49 ho0 (by decide) rfl dX4_boundOf_71 rfl rfl rfl ⟨Nat.le_of_ble_eq_true rfl, Nat.le_of_ble_eq_true rfl⟩ rfl (Nat.le_of_ble_eq_true rfl) ?_
  exact z_goto C dX4_boundOf_74 (by decide) (z_sub [0, 1, 2, 3, 4] rfl (b_X4_boundOf_88 C hr hk hK10 r1.1 o0 x1 x2 x3 x5 r1.2 ho0 hf))
def f_X4_boundOf_77 (K10 : St → Nat → Int32 → Int32 → Int32 → Int32 → Int32 → Option (St × Int32)) (z : St) (o0 : Nat) (x1 : Int32) (x2 : Int32) (x3 : Int32) (x4 : Int32) (x5 : Int32) : Option (St × Int32) :=
  ((f_X4_coolsOf z o0 x5).bind fun r1 => f_X4_boundOf_88 K10 r1.1 o0 x1 x2 x3 x5 (imin x4 r1.2))
theorem b_X4_boundOf_77 {p : Program} {l : Launch} {e : Env} {s : State} {m : MethodId} {args : Array Value} {below : List Frame} {meth : Method} {c : Code} {g : Ga} {A : Nat → Prop} (C : Cx l g A p s m args c cX4_boundOf 6 RX4 (rm_X4_boundOf) (0, 0)) (hr : meth.sig.returnType = (some .int)) (hk : meth.locks = false) {K10 : St → Nat → Int32 → Int32 → Int32 → Int32 → Int32 → Option (St × Int32)} (hK10 : ∀ (z : St) (o0 : Nat) (x1 : Int32) (x2 : Int32) (x3 : Int32) (x4 : Int32) (x5 : Int32) (_ : kd o0 = 4) {res : St × Int32}, K10 z o0 x1 x2 x3 x4 x5 = some res → Zj p l e (rm_X4_boundOf) s m args below meth c g A 6 (0, 0) (QI g A below args s res) z 10 [(0, .ref (g.1 o0)), (1, .int x1), (2, .int x2), (3, .int x3), (4, .int x4), (5, .int x5)] []) (z : St) (o0 : Nat) (x1 : Int32) (x2 : Int32) (x3 : Int32) (x4 : Int32) (x5 : Int32) (ho0 : kd o0 = 4) {res : St × Int32} (hf : f_X4_boundOf_77 K10 z o0 x1 x2 x3 x4 x5 = some res) : Zj p l e (rm_X4_boundOf) s m args below meth c g A 6 (0, 0) (QI g A below args s res) z 77 [(0, .ref (g.1 o0)), (1, .int x1), (2, .int x2), (3, .int x3), (4, .int x4), (5, .int x5)] [] := by
  unfold f_X4_boundOf_77 at hf
  refine z_iload C dX4_boundOf_77 4 rfl ?_
  refine z_aload_n C dX4_boundOf_79 rfl 0 rfl ?_
  refine z_iload C dX4_boundOf_80 5 rfl ?_
  obtain ⟨r1, hc2, hf⟩ := q_bd hf
  refine z_cVi C (st := [.int x4]) (c_X4_coolsOf ho0 hc2) mw_X4_coolsOf ml_X4_49 ho0 (by decide) rfl dX4_boundOf_82 rfl rfl rfl ⟨Nat.le_of_ble_eq_true rfl, Nat.le_of_ble_eq_true rfl⟩ rfl (Nat.le_of_ble_eq_true rfl) ?_
  refine z_mmin C (st := []) dX4_boundOf_85 ml_X4_55 mm_min.1 mm_i mm_min.2 ⟨Nat.le_of_ble_eq_true rfl, Nat.le_of_ble_eq_true rfl⟩ (Nat.le_of_ble_eq_true rfl) ?_
  exact z_sub [0, 1, 2, 3, 5] rfl (b_X4_boundOf_88 C hr hk hK10 r1.1 o0 x1 x2 x3 x5 (imin x4 r1.2) ho0 hf)
def f_X4_boundOf_52 (K10 : St → Nat → Int32 → Int32 → Int32 → Int32 → Int32 → Option (St × Int32)) (z : St) (o0 : Nat) (x1 : Int32) (x3 : Int32) (x4 : Int32) (x5 : Int32) (s0 : Int32) : Option (St × Int32) :=
  ((f_X4_takesOf z o0 x5).bind fun r1 => if x4 = ((-1)) then f_X4_boundOf_68 K10 r1.1 o0 x1 s0 (x3 + r1.2) x5 else f_X4_boundOf_77 K10 r1.1 o0 x1 s0 (x3 + r1.2) x4 x5)
theorem b_X4_boundOf_52 {p : Program} {l : Launch} {e : Env} {s : State} {m : MethodId} {args : Array Value} {below : List Frame} {meth : Method} {c : Code} {g : Ga} {A : Nat → Prop} (C : Cx l g A p s m args c cX4_boundOf 6 RX4 (rm_X4_boundOf) (0, 0)) (hr : meth.sig.returnType = (some .int)) (hk : meth.locks = false) {K10 : St → Nat → Int32 → Int32 → Int32 → Int32 → Int32 → Option (St × Int32)} (hK10 : ∀ (z : St) (o0 : Nat) (x1 : Int32) (x2 : Int32) (x3 : Int32) (x4 : Int32) (x5 : Int32) (_ : kd o0 = 4) {res : St × Int32}, K10 z o0 x1 x2 x3 x4 x5 = some res → Zj p l e (rm_X4_boundOf) s m args below meth c g A 6 (0, 0) (QI g A below args s res) z 10 [(0, .ref (g.1 o0)), (1, .int x1), (2, .int x2), (3, .int x3), (4, .int x4), (5, .int x5)] []) (z : St) (o0 : Nat) (x1 : Int32) (x3 : Int32) (x4 : Int32) (x5 : Int32) (s0 : Int32) (ho0 : kd o0 = 4) {res : St × Int32} (hf : f_X4_boundOf_52 K10 z o0 x1 x3 x4 x5 s0 = some res) : Zj p l e (rm_X4_boundOf) s m args below meth c g A 6 (0, 0) (QI g A below args s res) z 52 [(0, .ref (g.1 o0)), (1, .int x1), (3, .int x3), (4, .int x4), (5, .int x5)] [.int s0] := by
  unfold f_X4_boundOf_52 at hf
  refine z_istore_n C (lv2 := [(2, .int s0), (0, .ref (g.1 o0)), (1, .int x1), (3, .int x3), (4, .int x4), (5, .int x5)]) dX4_boundOf_52 rfl (by decide) rfl ?_
  refine z_iload_n C dX4_boundOf_53 rfl 3 rfl ?_
  refine z_aload_n C dX4_boundOf_54 rfl 1 rfl ?_
  refine z_iload C dX4_boundOf_55 5 rfl ?_
  obtain ⟨r1, hc2, hf⟩ := q_bd hf
  refine z_cVi C (st := [.int x3]) (c_X4_takesOf ho0 hc2) mw_X4_takesOf ml_X4_48 ho0 (by decide) rfl dX4_boundOf_57 rfl rfl rfl ⟨Nat.le_of_ble_eq_true rfl, Nat.le_of_ble_eq_true rfl⟩ rfl (Nat.le_of_ble_eq_true rfl) ?_
  refine z_iadd C dX4_boundOf_60 ?_
  refine z_istore_n C (lv2 := [(3, .int (x3 + r1.2)), (2, .int s0), (0, .ref (g.1 o0)), (1, .int x1), (4, .int x4), (5, .int x5)]) dX4_boundOf_61 rfl (by decide) rfl ?_
  refine z_iload C dX4_boundOf_62 4 rfl ?_
  refine z_iconst C dX4_boundOf_64 (v := (-1)) (by decide) ?_
  exact z_icmp_ne C dX4_boundOf_65 (by decide) (fun h => z_sub [2, 3, 1, 0, 4, 5] rfl (b_X4_boundOf_77 C hr hk hK10 r1.1 o0 x1 s0 (x3 + r1.2) x4 x5 ho0 (q_f hf h))) (fun h => z_sub [2, 3, 1, 0, 5] rfl (b_X4_boundOf_68 C hr hk hK10 r1.1 o0 x1 s0 (x3 + r1.2) x5 ho0 (q_t hf h)))
def f_X4_boundOf_33 (K10 : St → Nat → Int32 → Int32 → Int32 → Int32 → Int32 → Option (St × Int32)) (z : St) (o0 : Nat) (x1 : Int32) (x3 : Int32) (x4 : Int32) (x5 : Int32) : Option (St × Int32) :=
  ((f_X4_comesOf z o0 x5).bind fun r1 => f_X4_boundOf_52 K10 r1.1 o0 x1 x3 x4 x5 r1.2)
theorem b_X4_boundOf_33 {p : Program} {l : Launch} {e : Env} {s : State} {m : MethodId} {args : Array Value} {below : List Frame} {meth : Method} {c : Code} {g : Ga} {A : Nat → Prop} (C : Cx l g A p s m args c cX4_boundOf 6 RX4 (rm_X4_boundOf) (0, 0)) (hr : meth.sig.returnType = (some .int)) (hk : meth.locks = false) {K10 : St → Nat → Int32 → Int32 → Int32 → Int32 → Int32 → Option (St × Int32)} (hK10 : ∀ (z : St) (o0 : Nat) (x1 : Int32) (x2 : Int32) (x3 : Int32) (x4 : Int32) (x5 : Int32) (_ : kd o0 = 4) {res : St × Int32}, K10 z o0 x1 x2 x3 x4 x5 = some res → Zj p l e (rm_X4_boundOf) s m args below meth c g A 6 (0, 0) (QI g A below args s res) z 10 [(0, .ref (g.1 o0)), (1, .int x1), (2, .int x2), (3, .int x3), (4, .int x4), (5, .int x5)] []) (z : St) (o0 : Nat) (x1 : Int32) (x3 : Int32) (x4 : Int32) (x5 : Int32) (ho0 : kd o0 = 4) {res : St × Int32} (hf : f_X4_boundOf_33 K10 z o0 x1 x3 x4 x5 = some res) : Zj p l e (rm_X4_boundOf) s m args below meth c g A 6 (0, 0) (QI g A below args s res) z 33 [(0, .ref (g.1 o0)), (1, .int x1), (3, .int x3), (4, .int x4), (5, .int x5)] [] := by
  unfold f_X4_boundOf_33 at hf
  refine z_aload_n C dX4_boundOf_33 rfl 0 rfl ?_
  refine z_iload C dX4_boundOf_34 4 rfl ?_
  obtain ⟨r1, hc2, hf⟩ := q_bd hf
  refine z_cVi C (st := []) (c_X4_comesOf ho0 hc2) mw_X4_comesOf ml_X4_43 ho0 (by decide) rfl dX4_boundOf_36 rfl rfl rfl ⟨Nat.le_of_ble_eq_true rfl, Nat.le_of_ble_eq_true rfl⟩ rfl (Nat.le_of_ble_eq_true rfl) ?_
  exact z_goto C dX4_boundOf_39 (by decide) (z_sub [0, 1, 2, 3, 4] rfl (b_X4_boundOf_52 C hr hk hK10 r1.1 o0 x1 x3 x4 x5 r1.2 ho0 hf))
def f_X4_boundOf_42 (K10 : St → Nat → Int32 → Int32 → Int32 → Int32 → Int32 → Option (St × Int32)) (z : St) (o0 : Nat) (x1 : Int32) (x2 : Int32) (x3 : Int32) (x4 : Int32) (x5 : Int32) : Option (St × Int32) :=
  ((f_X4_comesOf z o0 x5).bind fun r1 => f_X4_boundOf_52 K10 r1.1 o0 x1 x3 x4 x5 (imin x2 r1.2))
theorem b_X4_boundOf_42 {p : Program} {l : Launch} {e : Env} {s : State} {m : MethodId} {args : Array Value} {below : List Frame} {meth : Method} {c : Code} {g : Ga} {A : Nat → Prop} (C : Cx l g A p s m args c cX4_boundOf 6 RX4 (rm_X4_boundOf) (0, 0)) (hr : meth.sig.returnType = (some .int)) (hk : meth.locks = false) {K10 : St → Nat → Int32 → Int32 → Int32 → Int32 → Int32 → Option (St × Int32)} (hK10 : ∀ (z : St) (o0 : Nat) (x1 : Int32) (x2 : Int32) (x3 : Int32) (x4 : Int32) (x5 : Int32) (_ : kd o0 = 4) {res : St × Int32}, K10 z o0 x1 x2 x3 x4 x5 = some res → Zj p l e (rm_X4_boundOf) s m args below meth c g A 6 (0, 0) (QI g A below args s res) z 10 [(0, .ref (g.1 o0)), (1, .int x1), (2, .int x2), (3, .int x3), (4, .int x4), (5, .int x5)] []) (z : St) (o0 : Nat) (x1 : Int32) (x2 : Int32) (x3 : Int32) (x4 : Int32) (x5 : Int32) (ho0 : kd o0 = 4) {res : St × Int32} (hf : f_X4_boundOf_42 K10 z o0 x1 x2 x3 x4 x5 = some res) : Zj p l e (rm_X4_boundOf) s m args below meth c g A 6 (0, 0) (QI g A below args s res) z 42 [(0, .ref (g.1 o0)), (1, .int x1), (2, .int x2), (3, .int x3), (4, .int x4), (5, .int x5)] [] := by
  unfold f_X4_boundOf_42 at hf
  refine z_iload_n C dX4_boundOf_42 rfl 2 rfl ?_
  refine z_aload_n C dX4_boundOf_43 rfl 0 rfl ?_
  refine z_iload C dX4_boundOf_44 5 rfl ?_
  obtain ⟨r1, hc2, hf⟩ := q_bd hf
  refine z_cVi C (st := [.int x2]) (c_X4_comesOf ho0 hc2) mw_X4_comesOf ml_X4_43 ho0 (by decide) rfl dX4_boundOf_46 rfl rfl rfl ⟨Nat.le_of_ble_eq_true rfl, Nat.le_of_ble_eq_true rfl⟩ rfl (Nat.le_of_ble_eq_true rfl) ?_
  refine z_mmin C (st := []) dX4_boundOf_49 ml_X4_55 mm_min.1 mm_i mm_min.2 ⟨Nat.le_of_ble_eq_true rfl, Nat.le_of_ble_eq_true rfl⟩ (Nat.le_of_ble_eq_true rfl) ?_
  exact z_sub [0, 1, 3, 4, 5] rfl (b_X4_boundOf_52 C hr hk hK10 r1.1 o0 x1 x3 x4 x5 (imin x2 r1.2) ho0 hf)
def f_X4_boundOf_28 (K10 : St → Nat → Int32 → Int32 → Int32 → Int32 → Int32 → Option (St × Int32)) (z : St) (o0 : Nat) (x1 : Int32) (x2 : Int32) (x3 : Int32) (x4 : Int32) (x5 : Int32) : Option (St × Int32) :=
  if x2 = ((-1)) then f_X4_boundOf_33 K10 z o0 x1 x3 x4 x5 else f_X4_boundOf_42 K10 z o0 x1 x2 x3 x4 x5
theorem b_X4_boundOf_28 {p : Program} {l : Launch} {e : Env} {s : State} {m : MethodId} {args : Array Value} {below : List Frame} {meth : Method} {c : Code} {g : Ga} {A : Nat → Prop} (C : Cx l g A p s m args c cX4_boundOf 6 RX4 (rm_X4_boundOf) (0, 0)) (hr : meth.sig.returnType = (some .int)) (hk : meth.locks = false) {K10 : St → Nat → Int32 → Int32 → Int32 → Int32 → Int32 → Option (St × Int32)} (hK10 : ∀ (z : St) (o0 : Nat) (x1 : Int32) (x2 : Int32) (x3 : Int32) (x4 : Int32) (x5 : Int32) (_ : kd o0 = 4) {res : St × Int32}, K10 z o0 x1 x2 x3 x4 x5 = some res → Zj p l e (rm_X4_boundOf) s m args below meth c g A 6 (0, 0) (QI g A below args s res) z 10 [(0, .ref (g.1 o0)), (1, .int x1), (2, .int x2), (3, .int x3), (4, .int x4), (5, .int x5)] []) (z : St) (o0 : Nat) (x1 : Int32) (x2 : Int32) (x3 : Int32) (x4 : Int32) (x5 : Int32) (ho0 : kd o0 = 4) {res : St × Int32} (hf : f_X4_boundOf_28 K10 z o0 x1 x2 x3 x4 x5 = some res) : Zj p l e (rm_X4_boundOf) s m args below meth c g A 6 (0, 0) (QI g A below args s res) z 28 [(0, .ref (g.1 o0)), (1, .int x1), (2, .int x2), (3, .int x3), (4, .int x4), (5, .int x5)] [] := by
  unfold f_X4_boundOf_28 at hf
  refine z_iload_n C dX4_boundOf_28 rfl 2 rfl ?_
  refine z_iconst C dX4_boundOf_29 (v := (-1)) (by decide) ?_
  exact z_icmp_ne C dX4_boundOf_30 (by decide) (fun h => z_sub [0, 1, 2, 3, 4, 5] rfl (b_X4_boundOf_42 C hr hk hK10 z o0 x1 x2 x3 x4 x5 ho0 (q_f hf h))) (fun h => z_sub [0, 1, 3, 4, 5] rfl (b_X4_boundOf_33 C hr hk hK10 z o0 x1 x3 x4 x5 ho0 (q_t hf h)))
def f_X4_boundOf_19 (K10 : St → Nat → Int32 → Int32 → Int32 → Int32 → Int32 → Option (St × Int32)) (z : St) (o0 : Nat) (x1 : Int32) (x2 : Int32) (x3 : Int32) (x4 : Int32) (x5 : Int32) : Option (St × Int32) :=
  if ((x1 >>> (x5 &&& 31)) &&& 1) = 0 then f_X4_boundOf_90 K10 z o0 x1 x2 x3 x4 x5 else f_X4_boundOf_28 K10 z o0 x1 x2 x3 x4 x5
theorem b_X4_boundOf_19 {p : Program} {l : Launch} {e : Env} {s : State} {m : MethodId} {args : Array Value} {below : List Frame} {meth : Method} {c : Code} {g : Ga} {A : Nat → Prop} (C : Cx l g A p s m args c cX4_boundOf 6 RX4 (rm_X4_boundOf) (0, 0)) (hr : meth.sig.returnType = (some .int)) (hk : meth.locks = false) {K10 : St → Nat → Int32 → Int32 → Int32 → Int32 → Int32 → Option (St × Int32)} (hK10 : ∀ (z : St) (o0 : Nat) (x1 : Int32) (x2 : Int32) (x3 : Int32) (x4 : Int32) (x5 : Int32) (_ : kd o0 = 4) {res : St × Int32}, K10 z o0 x1 x2 x3 x4 x5 = some res → Zj p l e (rm_X4_boundOf) s m args below meth c g A 6 (0, 0) (QI g A below args s res) z 10 [(0, .ref (g.1 o0)), (1, .int x1), (2, .int x2), (3, .int x3), (4, .int x4), (5, .int x5)] []) (z : St) (o0 : Nat) (x1 : Int32) (x2 : Int32) (x3 : Int32) (x4 : Int32) (x5 : Int32) (ho0 : kd o0 = 4) {res : St × Int32} (hf : f_X4_boundOf_19 K10 z o0 x1 x2 x3 x4 x5 = some res) : Zj p l e (rm_X4_boundOf) s m args below meth c g A 6 (0, 0) (QI g A below args s res) z 19 [(0, .ref (g.1 o0)), (1, .int x1), (2, .int x2), (3, .int x3), (4, .int x4), (5, .int x5)] [] := by
  unfold f_X4_boundOf_19 at hf
  refine z_iload_n C dX4_boundOf_19 rfl 1 rfl ?_
  refine z_iload C dX4_boundOf_20 5 rfl ?_
  refine z_ishr C dX4_boundOf_22 ?_
  refine z_iconst C dX4_boundOf_23 (v := 1) (by decide) ?_
  refine z_iand C dX4_boundOf_24 ?_
  exact z_if_eq C dX4_boundOf_25 (by decide) (fun h => z_sub [0, 1, 2, 3, 4, 5] rfl (b_X4_boundOf_90 C hr hk hK10 z o0 x1 x2 x3 x4 x5 ho0 (q_t hf h))) (fun h => z_sub [0, 1, 2, 3, 4, 5] rfl (b_X4_boundOf_28 C hr hk hK10 z o0 x1 x2 x3 x4 x5 ho0 (q_f hf h)))
def f_X4_boundOf_96  (z : St) (x2 : Int32) (x3 : Int32) (x4 : Int32) : Option (St × Int32) :=
  some (z, (x2 + x3) + x4)
theorem b_X4_boundOf_96 {p : Program} {l : Launch} {e : Env} {s : State} {m : MethodId} {args : Array Value} {below : List Frame} {meth : Method} {c : Code} {g : Ga} {A : Nat → Prop} (C : Cx l g A p s m args c cX4_boundOf 6 RX4 (rm_X4_boundOf) (0, 0)) (hr : meth.sig.returnType = (some .int)) (hk : meth.locks = false)   (z : St) (x2 : Int32) (x3 : Int32) (x4 : Int32)  {res : St × Int32} (hf : f_X4_boundOf_96  z x2 x3 x4 = some res) : Zj p l e (rm_X4_boundOf) s m args below meth c g A 6 (0, 0) (QI g A below args s res) z 96 [(2, .int x2), (3, .int x3), (4, .int x4)] [] := by
  unfold f_X4_boundOf_96 at hf
  refine z_iload_n C dX4_boundOf_96 rfl 0 rfl ?_
  refine z_iload_n C dX4_boundOf_97 rfl 1 rfl ?_
  refine z_iadd C dX4_boundOf_98 ?_
  refine z_iload C dX4_boundOf_99 2 rfl ?_
  refine z_iadd C dX4_boundOf_101 ?_
  cases hf
  exact z_iret C hr hk dX4_boundOf_102
def f_X4_boundOf_10  : Nat → St → Nat → Int32 → Int32 → Int32 → Int32 → Int32 → Option (St × Int32)
  | 0, _, _, _, _, _, _, _ => none
  | n + 1, z, o0, x1, x2, x3, x4, x5 => if (z.1 o0 3) ≤ x5 then f_X4_boundOf_96 z x2 x3 x4 else f_X4_boundOf_19 (f_X4_boundOf_10 n) z o0 x1 x2 x3 x4 x5
theorem b_X4_boundOf_10 {p : Program} {l : Launch} {e : Env} {s : State} {m : MethodId} {args : Array Value} {below : List Frame} {meth : Method} {c : Code} {g : Ga} {A : Nat → Prop} (C : Cx l g A p s m args c cX4_boundOf 6 RX4 (rm_X4_boundOf) (0, 0)) (hr : meth.sig.returnType = (some .int)) (hk : meth.locks = false)   : ∀ (n : Nat) (z : St) (o0 : Nat) (x1 : Int32) (x2 : Int32) (x3 : Int32) (x4 : Int32) (x5 : Int32) (_ : kd o0 = 4) {res : St × Int32} (_ : f_X4_boundOf_10  n z o0 x1 x2 x3 x4 x5 = some res), Zj p l e (rm_X4_boundOf) s m args below meth c g A 6 (0, 0) (QI g A below args s res) z 10 [(0, .ref (g.1 o0)), (1, .int x1), (2, .int x2), (3, .int x3), (4, .int x4), (5, .int x5)] [] := by
  intro n
  induction n with
  | zero =>
    intro z o0 x1 x2 x3 x4 x5 ho0 res hf
    cases hf
  | succ n ih =>
    intro z o0 x1 x2 x3 x4 x5 ho0 res hf
    rw [f_X4_boundOf_10] at hf
    refine z_iload C dX4_boundOf_10 5 rfl ?_
    refine z_aload_n C dX4_boundOf_12 rfl 0 rfl ?_
    refine gf_X4_21 C dX4_boundOf_13 ho0 ?_
    exact z_icmp_ge C dX4_boundOf_16 (by decide) (fun h => z_sub [2, 3, 4] rfl (b_X4_boundOf_96 C hr hk z x2 x3 x4 (q_t hf h))) (fun h => z_sub [0, 1, 2, 3, 4, 5] rfl (b_X4_boundOf_19 C hr hk ih z o0 x1 x2 x3 x4 x5 ho0 (q_f hf h)))
def f_X4_boundOf_0  (z : St) (o0 : Nat) (x1 : Int32) : Option (St × Int32) :=
  f_X4_boundOf_10 FU z o0 x1 ((-1)) 0 ((-1)) 0
theorem b_X4_boundOf_0 {p : Program} {l : Launch} {e : Env} {s : State} {m : MethodId} {args : Array Value} {below : List Frame} {meth : Method} {c : Code} {g : Ga} {A : Nat → Prop} (C : Cx l g A p s m args c cX4_boundOf 6 RX4 (rm_X4_boundOf) (0, 0)) (hr : meth.sig.returnType = (some .int)) (hk : meth.locks = false)   (z : St) (o0 : Nat) (x1 : Int32) (ho0 : kd o0 = 4) {res : St × Int32} (hf : f_X4_boundOf_0  z o0 x1 = some res) : Zj p l e (rm_X4_boundOf) s m args below meth c g A 6 (0, 0) (QI g A below args s res) z 0 [(0, .ref (g.1 o0)), (1, .int x1)] [] := by
  unfold f_X4_boundOf_0 at hf
  refine z_iconst C dX4_boundOf_0 (v := (-1)) (by decide) ?_
  refine z_istore_n C (lv2 := [(2, .int ((-1))), (0, .ref (g.1 o0)), (1, .int x1)]) dX4_boundOf_1 rfl (by decide) rfl ?_
  refine z_iconst C dX4_boundOf_2 (v := 0) (by decide) ?_
  refine z_istore_n C (lv2 := [(3, .int 0), (2, .int ((-1))), (0, .ref (g.1 o0)), (1, .int x1)]) dX4_boundOf_3 rfl (by decide) rfl ?_
  refine z_iconst C dX4_boundOf_4 (v := (-1)) (by decide) ?_
  refine z_istore C (lv2 := [(4, .int ((-1))), (3, .int 0), (2, .int ((-1))), (0, .ref (g.1 o0)), (1, .int x1)]) dX4_boundOf_5 (by decide) rfl ?_
  refine z_iconst C dX4_boundOf_7 (v := 0) (by decide) ?_
  refine z_istore C (lv2 := [(5, .int 0), (4, .int ((-1))), (3, .int 0), (2, .int ((-1))), (0, .ref (g.1 o0)), (1, .int x1)]) dX4_boundOf_8 (by decide) rfl ?_
  exact z_sub [4, 5, 3, 2, 1, 0] rfl (b_X4_boundOf_10 C hr hk FU z o0 x1 ((-1)) 0 ((-1)) 0 ho0 hf)
def f_X4_boundOf (z : St) (o0 : Nat) (x1 : Int32) : Option (St × Int32) := f_X4_boundOf_0 z o0 x1
theorem c_X4_boundOf {l : Launch} {g : Ga} {A : Nat → Prop} {z : St} {o0 : Nat} {x1 : Int32} (ho0 : kd o0 = 4) {res : St × Int32} (hf : f_X4_boundOf z o0 x1 = some res) : CI l g A yX4_boundOf cX4_boundOf 6 (some .int) rm_X4_boundOf [.ref (g.1 o0), .int x1] z res :=
  e_CI (by decide) (Nat.le_of_ble_eq_true rfl) rfl (fun p e s m args below meth c C hr hk => z_sub [0, 1] rfl (b_X4_boundOf_0 C hr hk z o0 x1 ho0 hf))
abbrev rm_X4_strongestSet : Room := { frames := 2, cells := 0, slots := 0, locals := 46 }
def f_X4_strongestSet_53 (K10 : St → Nat → Int32 → Int32 → Int32 → Option (St × Int32)) (z : St) (o0 : Nat) (x1 : Int32) (x2 : Int32) (x3 : Int32) : Option (St × Int32) :=
  K10 z o0 x1 x2 (x3 + 1)
theorem b_X4_strongestSet_53 {p : Program} {l : Launch} {e : Env} {s : State} {m : MethodId} {args : Array Value} {below : List Frame} {meth : Method} {c : Code} {g : Ga} {A : Nat → Prop} (C : Cx l g A p s m args c cX4_strongestSet 5 RX4 (rm_X4_strongestSet) (0, 0)) (hr : meth.sig.returnType = (some .int)) (hk : meth.locks = false) {K10 : St → Nat → Int32 → Int32 → Int32 → Option (St × Int32)} (hK10 : ∀ (z : St) (o0 : Nat) (x1 : Int32) (x2 : Int32) (x3 : Int32) (_ : kd o0 = 4) {res : St × Int32}, K10 z o0 x1 x2 x3 = some res → Zj p l e (rm_X4_strongestSet) s m args below meth c g A 5 (0, 0) (QI g A below args s res) z 10 [(0, .ref (g.1 o0)), (1, .int x1), (2, .int x2), (3, .int x3)] []) (z : St) (o0 : Nat) (x1 : Int32) (x2 : Int32) (x3 : Int32) (ho0 : kd o0 = 4) {res : St × Int32} (hf : f_X4_strongestSet_53 K10 z o0 x1 x2 x3 = some res) : Zj p l e (rm_X4_strongestSet) s m args below meth c g A 5 (0, 0) (QI g A below args s res) z 53 [(0, .ref (g.1 o0)), (1, .int x1), (2, .int x2), (3, .int x3)] [] := by
  unfold f_X4_strongestSet_53 at hf
  refine z_iinc C (k := 3) (v := x3 + 1) (lv2 := [(3, .int (x3 + 1)), (0, .ref (g.1 o0)), (1, .int x1), (2, .int x2)]) dX4_strongestSet_53 rfl rfl (by decide) rfl ?_
  exact z_goto C dX4_strongestSet_56 (by decide) (z_sub [1, 2, 3, 0] rfl (hK10 z o0 x1 x2 (x3 + 1) ho0 hf))
def f_X4_strongestSet_48 (K10 : St → Nat → Int32 → Int32 → Int32 → Option (St × Int32)) (z : St) (o0 : Nat) (x3 : Int32) (x4 : Int32) : Option (St × Int32) :=
  f_X4_strongestSet_53 K10 z o0 x3 x4 x3
theorem b_X4_strongestSet_48 {p : Program} {l : Launch} {e : Env} {s : State} {m : MethodId} {args : Array Value} {below : List Frame} {meth : Method} {c : Code} {g : Ga} {A : Nat → Prop} (C : Cx l g A p s m args c cX4_strongestSet 5 RX4 (rm_X4_strongestSet) (0, 0)) (hr : meth.sig.returnType = (some .int)) (hk : meth.locks = false) {K10 : St → Nat → Int32 → Int32 → Int32 → Option (St × Int32)} (hK10 : ∀ (z : St) (o0 : Nat) (x1 : Int32) (x2 : Int32) (x3 : Int32) (_ : kd o0 = 4) {res : St × Int32}, K10 z o0 x1 x2 x3 = some res → Zj p l e (rm_X4_strongestSet) s m args below meth c g A 5 (0, 0) (QI g A below args s res) z 10 [(0, .ref (g.1 o0)), (1, .int x1), (2, .int x2), (3, .int x3)] []) (z : St) (o0 : Nat) (x3 : Int32) (x4 : Int32) (ho0 : kd o0 = 4) {res : St × Int32} (hf : f_X4_strongestSet_48 K10 z o0 x3 x4 = some res) : Zj p l e (rm_X4_strongestSet) s m args below meth c g A 5 (0, 0) (QI g A below args s res) z 48 [(0, .ref (g.1 o0)), (3, .int x3), (4, .int x4)] [] := by
  unfold f_X4_strongestSet_48 at hf
  refine z_iload_n C dX4_strongestSet_48 rfl 1 rfl ?_
  refine z_istore_n C (lv2 := [(1, .int x3), (0, .ref (g.1 o0)), (3, .int x3), (4, .int x4)]) dX4_strongestSet_49 rfl (by decide) rfl ?_
  refine z_iload C dX4_strongestSet_50 3 rfl ?_
  refine z_istore_n C (lv2 := [(2, .int x4), (1, .int x3), (0, .ref (g.1 o0)), (3, .int x3), (4, .int x4)]) dX4_strongestSet_52 rfl (by decide) rfl ?_
  exact z_sub [2, 1, 0, 3] rfl (b_X4_strongestSet_53 C hr hk hK10 z o0 x3 x4 x3 ho0 hf)
def f_X4_strongestSet_37 (K10 : St → Nat → Int32 → Int32 → Int32 → Option (St × Int32)) (z : St) (o0 : Nat) (x1 : Int32) (x2 : Int32) (x3 : Int32) (x4 : Int32) : Option (St × Int32) :=
  ((f_J6_bitCount_0f7a4 z x3).bind fun r1 => ((f_J6_bitCount_0f7a4 r1.1 x1).bind fun r3 => if r3.2 ≤ r1.2 then f_X4_strongestSet_53 K10 r3.1 o0 x1 x2 x3 else f_X4_strongestSet_48 K10 r3.1 o0 x3 x4))
theorem b_X4_strongestSet_37 {p : Program} {l : Launch} {e : Env} {s : State} {m : MethodId} {args : Array Value} {below : List Frame} {meth : Method} {c : Code} {g : Ga} {A : Nat → Prop} (C : Cx l g A p s m args c cX4_strongestSet 5 RX4 (rm_X4_strongestSet) (0, 0)) (hr : meth.sig.returnType = (some .int)) (hk : meth.locks = false) {K10 : St → Nat → Int32 → Int32 → Int32 → Option (St × Int32)} (hK10 : ∀ (z : St) (o0 : Nat) (x1 : Int32) (x2 : Int32) (x3 : Int32) (_ : kd o0 = 4) {res : St × Int32}, K10 z o0 x1 x2 x3 = some res → Zj p l e (rm_X4_strongestSet) s m args below meth c g A 5 (0, 0) (QI g A below args s res) z 10 [(0, .ref (g.1 o0)), (1, .int x1), (2, .int x2), (3, .int x3)] []) (z : St) (o0 : Nat) (x1 : Int32) (x2 : Int32) (x3 : Int32) (x4 : Int32) (ho0 : kd o0 = 4) {res : St × Int32} (hf : f_X4_strongestSet_37 K10 z o0 x1 x2 x3 x4 = some res) : Zj p l e (rm_X4_strongestSet) s m args below meth c g A 5 (0, 0) (QI g A below args s res) z 37 [(0, .ref (g.1 o0)), (1, .int x1), (2, .int x2), (3, .int x3), (4, .int x4)] [] := by
  unfold f_X4_strongestSet_37 at hf
  refine z_iload_n C dX4_strongestSet_37 rfl 3 rfl ?_
  obtain ⟨r1, hc2, hf⟩ := q_bd hf
  refine z_cSi C (st := []) (c_J6_bitCount_0f7a4  hc2) mw_J6_bitCount_0f7a4 ml_X4_65 dX4_strongestSet_38 rfl rfl rfl ⟨Nat.le_of_ble_eq_true rfl, Nat.le_of_ble_eq_true rfl⟩ rfl (Nat.le_of_ble_eq_true rfl) ?_
  refine z_iload_n C dX4_strongestSet_41 rfl 1 rfl ?_
  obtain ⟨r3, hc4, hf⟩ := q_bd hf
  refine z_cSi C (st := [.int r1.2]) (c_J6_bitCount_0f7a4  hc4) mw_J6_bitCount_0f7a4 ml_X4_65 dX4_strongestSet_42 rfl rfl rfl ⟨Nat.le_of_ble_eq_true rfl, Nat.le_of_ble_eq_true rfl⟩ rfl (Nat.le_of_ble_eq_true rfl) ?_
  exact z_icmp_ge C dX4_strongestSet_45 (by decide) (fun h => z_sub [0, 1, 2, 3] rfl (b_X4_strongestSet_53 C hr hk hK10 r3.1 o0 x1 x2 x3 ho0 (q_t hf h))) (fun h => z_sub [0, 3, 4] rfl (b_X4_strongestSet_48 C hr hk hK10 r3.1 o0 x3 x4 ho0 (q_f hf h)))
def f_X4_strongestSet_31 (K10 : St → Nat → Int32 → Int32 → Int32 → Option (St × Int32)) (z : St) (o0 : Nat) (x1 : Int32) (x2 : Int32) (x3 : Int32) (x4 : Int32) : Option (St × Int32) :=
  if x4 = x2 then f_X4_strongestSet_37 K10 z o0 x1 x2 x3 x4 else f_X4_strongestSet_53 K10 z o0 x1 x2 x3
theorem b_X4_strongestSet_31 {p : Program} {l : Launch} {e : Env} {s : State} {m : MethodId} {args : Array Value} {below : List Frame} {meth : Method} {c : Code} {g : Ga} {A : Nat → Prop} (C : Cx l g A p s m args c cX4_strongestSet 5 RX4 (rm_X4_strongestSet) (0, 0)) (hr : meth.sig.returnType = (some .int)) (hk : meth.locks = false) {K10 : St → Nat → Int32 → Int32 → Int32 → Option (St × Int32)} (hK10 : ∀ (z : St) (o0 : Nat) (x1 : Int32) (x2 : Int32) (x3 : Int32) (_ : kd o0 = 4) {res : St × Int32}, K10 z o0 x1 x2 x3 = some res → Zj p l e (rm_X4_strongestSet) s m args below meth c g A 5 (0, 0) (QI g A below args s res) z 10 [(0, .ref (g.1 o0)), (1, .int x1), (2, .int x2), (3, .int x3)] []) (z : St) (o0 : Nat) (x1 : Int32) (x2 : Int32) (x3 : Int32) (x4 : Int32) (ho0 : kd o0 = 4) {res : St × Int32} (hf : f_X4_strongestSet_31 K10 z o0 x1 x2 x3 x4 = some res) : Zj p l e (rm_X4_strongestSet) s m args below meth c g A 5 (0, 0) (QI g A below args s res) z 31 [(0, .ref (g.1 o0)), (1, .int x1), (2, .int x2), (3, .int x3), (4, .int x4)] [] := by
  unfold f_X4_strongestSet_31 at hf
  refine z_iload C dX4_strongestSet_31 4 rfl ?_
  refine z_iload_n C dX4_strongestSet_33 rfl 2 rfl ?_
  exact z_icmp_ne C dX4_strongestSet_34 (by decide) (fun h => z_sub [0, 1, 2, 3] rfl (b_X4_strongestSet_53 C hr hk hK10 z o0 x1 x2 x3 ho0 (q_f hf h))) (fun h => z_sub [0, 1, 2, 3, 4] rfl (b_X4_strongestSet_37 C hr hk hK10 z o0 x1 x2 x3 x4 ho0 (q_t hf h)))
def f_X4_strongestSet_18 (K10 : St → Nat → Int32 → Int32 → Int32 → Option (St × Int32)) (z : St) (o0 : Nat) (x1 : Int32) (x2 : Int32) (x3 : Int32) : Option (St × Int32) :=
  ((f_X4_boundOf z o0 x3).bind fun r1 => if x2 < r1.2 then f_X4_strongestSet_48 K10 r1.1 o0 x3 r1.2 else f_X4_strongestSet_31 K10 r1.1 o0 x1 x2 x3 r1.2)
theorem b_X4_strongestSet_18 {p : Program} {l : Launch} {e : Env} {s : State} {m : MethodId} {args : Array Value} {below : List Frame} {meth : Method} {c : Code} {g : Ga} {A : Nat → Prop} (C : Cx l g A p s m args c cX4_strongestSet 5 RX4 (rm_X4_strongestSet) (0, 0)) (hr : meth.sig.returnType = (some .int)) (hk : meth.locks = false) {K10 : St → Nat → Int32 → Int32 → Int32 → Option (St × Int32)} (hK10 : ∀ (z : St) (o0 : Nat) (x1 : Int32) (x2 : Int32) (x3 : Int32) (_ : kd o0 = 4) {res : St × Int32}, K10 z o0 x1 x2 x3 = some res → Zj p l e (rm_X4_strongestSet) s m args below meth c g A 5 (0, 0) (QI g A below args s res) z 10 [(0, .ref (g.1 o0)), (1, .int x1), (2, .int x2), (3, .int x3)] []) (z : St) (o0 : Nat) (x1 : Int32) (x2 : Int32) (x3 : Int32) (ho0 : kd o0 = 4) {res : St × Int32} (hf : f_X4_strongestSet_18 K10 z o0 x1 x2 x3 = some res) : Zj p l e (rm_X4_strongestSet) s m args below meth c g A 5 (0, 0) (QI g A below args s res) z 18 [(0, .ref (g.1 o0)), (1, .int x1), (2, .int x2), (3, .int x3)] [] := by
  unfold f_X4_strongestSet_18 at hf
  refine z_aload_n C dX4_strongestSet_18 rfl 0 rfl ?_
  refine z_iload_n C dX4_strongestSet_19 rfl 3 rfl ?_
  obtain ⟨r1, hc2, hf⟩ := q_bd hf
  refine z_cVi C (st := []) (c_X4_boundOf ho0 hc2) mw_X4_boundOf ml_X4_58 ho0 (by decide) rfl dX4_strongestSet_20 rfl rfl rfl ⟨Nat.le_of_ble_eq_true rfl, Nat.le_of_ble_eq_true rfl⟩ rfl (Nat.le_of_ble_eq_true rfl) ?_
  refine z_istore C (lv2 := [(4, .int r1.2), (0, .ref (g.1 o0)), (1, .int x1), (2, .int x2), (3, .int x3)]) dX4_strongestSet_23 (by decide) rfl ?_
  refine z_iload C dX4_strongestSet_25 0 rfl ?_
  refine z_iload_n C dX4_strongestSet_27 rfl 3 rfl ?_
  exact z_icmp_gt C dX4_strongestSet_28 (by decide) (fun h => z_sub [1, 4, 0] rfl (b_X4_strongestSet_48 C hr hk hK10 r1.1 o0 x3 r1.2 ho0 (q_t hf h))) (fun h => z_sub [1, 2, 3, 4, 0] rfl (b_X4_strongestSet_31 C hr hk hK10 r1.1 o0 x1 x2 x3 r1.2 ho0 (q_f hf h)))
def f_X4_strongestSet_59  (z : St) (x1 : Int32) : Option (St × Int32) :=
  some (z, x1)
theorem b_X4_strongestSet_59 {p : Program} {l : Launch} {e : Env} {s : State} {m : MethodId} {args : Array Value} {below : List Frame} {meth : Method} {c : Code} {g : Ga} {A : Nat → Prop} (C : Cx l g A p s m args c cX4_strongestSet 5 RX4 (rm_X4_strongestSet) (0, 0)) (hr : meth.sig.returnType = (some .int)) (hk : meth.locks = false)   (z : St) (x1 : Int32)  {res : St × Int32} (hf : f_X4_strongestSet_59  z x1 = some res) : Zj p l e (rm_X4_strongestSet) s m args below meth c g A 5 (0, 0) (QI g A below args s res) z 59 [(1, .int x1)] [] := by
  unfold f_X4_strongestSet_59 at hf
  refine z_iload_n C dX4_strongestSet_59 rfl 0 rfl ?_
  cases hf
  exact z_iret C hr hk dX4_strongestSet_60
def f_X4_strongestSet_10  : Nat → St → Nat → Int32 → Int32 → Int32 → Option (St × Int32)
  | 0, _, _, _, _, _ => none
  | n + 1, z, o0, x1, x2, x3 => ((f_X4_everyone z o0).bind fun r1 => if r1.2 < x3 then f_X4_strongestSet_59 r1.1 x1 else f_X4_strongestSet_18 (f_X4_strongestSet_10 n) r1.1 o0 x1 x2 x3)
theorem b_X4_strongestSet_10 {p : Program} {l : Launch} {e : Env} {s : State} {m : MethodId} {args : Array Value} {below : List Frame} {meth : Method} {c : Code} {g : Ga} {A : Nat → Prop} (C : Cx l g A p s m args c cX4_strongestSet 5 RX4 (rm_X4_strongestSet) (0, 0)) (hr : meth.sig.returnType = (some .int)) (hk : meth.locks = false)   : ∀ (n : Nat) (z : St) (o0 : Nat) (x1 : Int32) (x2 : Int32) (x3 : Int32) (_ : kd o0 = 4) {res : St × Int32} (_ : f_X4_strongestSet_10  n z o0 x1 x2 x3 = some res), Zj p l e (rm_X4_strongestSet) s m args below meth c g A 5 (0, 0) (QI g A below args s res) z 10 [(0, .ref (g.1 o0)), (1, .int x1), (2, .int x2), (3, .int x3)] [] := by
  intro n
  induction n with
  | zero =>
    intro z o0 x1 x2 x3 ho0 res hf
    cases hf
  | succ n ih =>
    intro z o0 x1 x2 x3 ho0 res hf
    rw [f_X4_strongestSet_10] at hf
    refine z_iload_n C dX4_strongestSet_10 rfl 3 rfl ?_
    refine z_aload_n C dX4_strongestSet_11 rfl 0 rfl ?_
    obtain ⟨r1, hc2, hf⟩ := q_bd hf
    refine z_cVi C (st := [.int x3]) (c_X4_everyone ho0 hc2) mw_X4_everyone ml_X4_61 ho0 (by decide) rfl dX4_strongestSet_12 rfl rfl rfl ⟨Nat.le_of_ble_eq_true rfl, Nat.le_of_ble_eq_true rfl⟩ rfl (Nat.le_of_ble_eq_true rfl) ?_
    exact z_icmp_gt C dX4_strongestSet_15 (by decide) (fun h => z_sub [1] rfl (b_X4_strongestSet_59 C hr hk r1.1 x1 (q_t hf h))) (fun h => z_sub [0, 1, 2, 3] rfl (b_X4_strongestSet_18 C hr hk ih r1.1 o0 x1 x2 x3 ho0 (q_f hf h)))
def f_X4_strongestSet_0  (z : St) (o0 : Nat) : Option (St × Int32) :=
  ((f_X4_boundOf z o0 1).bind fun r1 => f_X4_strongestSet_10 FU r1.1 o0 1 r1.2 2)
theorem b_X4_strongestSet_0 {p : Program} {l : Launch} {e : Env} {s : State} {m : MethodId} {args : Array Value} {below : List Frame} {meth : Method} {c : Code} {g : Ga} {A : Nat → Prop} (C : Cx l g A p s m args c cX4_strongestSet 5 RX4 (rm_X4_strongestSet) (0, 0)) (hr : meth.sig.returnType = (some .int)) (hk : meth.locks = false)   (z : St) (o0 : Nat) (ho0 : kd o0 = 4) {res : St × Int32} (hf : f_X4_strongestSet_0  z o0 = some res) : Zj p l e (rm_X4_strongestSet) s m args below meth c g A 5 (0, 0) (QI g A below args s res) z 0 [(0, .ref (g.1 o0))] [] := by
  unfold f_X4_strongestSet_0 at hf
  refine z_iconst C dX4_strongestSet_0 (v := 1) (by decide) ?_
  refine z_istore_n C (lv2 := [(1, .int 1), (0, .ref (g.1 o0))]) dX4_strongestSet_1 rfl (by decide) rfl ?_
  refine z_aload_n C dX4_strongestSet_2 rfl 1 rfl ?_
  refine z_iload_n C dX4_strongestSet_3 rfl 0 rfl ?_
  obtain ⟨r1, hc2, hf⟩ := q_bd hf
  refine z_cVi C (st := []) (c_X4_boundOf ho0 hc2) mw_X4_boundOf ml_X4_58 ho0 (by decide) rfl dX4_strongestSet_4 rfl rfl rfl ⟨Nat.le_of_ble_eq_true rfl, Nat.le_of_ble_eq_true rfl⟩ rfl (Nat.le_of_ble_eq_true rfl) ?_
  refine z_istore_n C (lv2 := [(2, .int r1.2), (1, .int 1), (0, .ref (g.1 o0))]) dX4_strongestSet_7 rfl (by decide) rfl ?_
  refine z_iconst C dX4_strongestSet_8 (v := 2) (by decide) ?_
  refine z_istore_n C (lv2 := [(3, .int 2), (2, .int r1.2), (1, .int 1), (0, .ref (g.1 o0))]) dX4_strongestSet_9 rfl (by decide) rfl ?_
  exact z_sub [3, 2, 1, 0] rfl (b_X4_strongestSet_10 C hr hk FU r1.1 o0 1 r1.2 2 ho0 hf)
def f_X4_strongestSet (z : St) (o0 : Nat) : Option (St × Int32) := f_X4_strongestSet_0 z o0
theorem c_X4_strongestSet {l : Launch} {g : Ga} {A : Nat → Prop} {z : St} {o0 : Nat} (ho0 : kd o0 = 4) {res : St × Int32} (hf : f_X4_strongestSet z o0 = some res) : CI l g A yX4_strongestSet cX4_strongestSet 5 (some .int) rm_X4_strongestSet [.ref (g.1 o0)] z res :=
  e_CI (by decide) (Nat.le_of_ble_eq_true rfl) rfl (fun p e s m args below meth c C hr hk => z_sub [0] rfl (b_X4_strongestSet_0 C hr hk z o0 ho0 hf))
