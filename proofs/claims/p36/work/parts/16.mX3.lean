abbrev rm_X3_clear : Room := { frames := 0, cells := 0, slots := 0, locals := 0 }
def f_X3_clear_0  (z : St) (o0 : Nat) : Option (St) :=
  some (zI (zI (zI (zI (zI z o0 3 0) o0 4 0) o0 5 0) o0 6 0) o0 7 0)
theorem b_X3_clear_0 {p : Program} {l : Launch} {e : Env} {s : State} {m : MethodId} {args : Array Value} {below : List Frame} {meth : Method} {c : Code} {g : Ga} {A : Nat → Prop} (C : Cx l g A p s m args c cX3_clear 1 RX3 (rm_X3_clear) (0, 0)) (hr : meth.sig.returnType = none) (hk : meth.locks = false)   (z : St) (o0 : Nat) (ho0 : kd o0 = 3) {res : St} (hf : f_X3_clear_0  z o0 = some res) : Zj p l e (rm_X3_clear) s m args below meth c g A 1 (0, 0) (QV g A below args s res) z 0 [(0, .ref (g.1 o0))] [] := by
  unfold f_X3_clear_0 at hf
  refine z_aload_n C dX3_clear_0 rfl 0 rfl ?_
  refine z_iconst C dX3_clear_1 (v := 0) (by decide) ?_
  refine pf_X3_21 C dX3_clear_2 ho0 ?_
  refine z_aload_n C dX3_clear_5 rfl 0 rfl ?_
  refine z_iconst C dX3_clear_6 (v := 0) (by decide) ?_
  refine pf_X3_25 C dX3_clear_7 ho0 ?_
  refine z_aload_n C dX3_clear_10 rfl 0 rfl ?_
  refine z_iconst C dX3_clear_11 (v := 0) (by decide) ?_
  refine pf_X3_28 C dX3_clear_12 ho0 ?_
  refine z_aload_n C dX3_clear_15 rfl 0 rfl ?_
  refine z_iconst C dX3_clear_16 (v := 0) (by decide) ?_
  refine pf_X3_31 C dX3_clear_17 ho0 ?_
  refine z_aload_n C dX3_clear_20 rfl 0 rfl ?_
  refine z_iconst C dX3_clear_21 (v := 0) (by decide) ?_
  refine pf_X3_34 C dX3_clear_22 ho0 ?_
  cases hf
  exact z_vret C hr hk dX3_clear_25
def f_X3_clear (z : St) (o0 : Nat) : Option (St) := f_X3_clear_0 z o0
theorem c_X3_clear {l : Launch} {g : Ga} {A : Nat → Prop} {z : St} {o0 : Nat} (ho0 : kd o0 = 3) {res : St} (hf : f_X3_clear z o0 = some res) : CV l g A yX3_clear cX3_clear 1 none rm_X3_clear [.ref (g.1 o0)] z res :=
  e_CV (by decide) (Nat.le_of_ble_eq_true rfl) rfl (fun p e s m args below meth c C hr hk => z_sub [0] rfl (b_X3_clear_0 C hr hk z o0 ho0 hf))
abbrev rm_X3_has : Room := { frames := 0, cells := 0, slots := 0, locals := 0 }
def f_X3_has_26  (z : St) (s0 : Int32) : Option (St × Int32) :=
  if zb s0 = true then some (z, s0) else none
theorem b_X3_has_26 {p : Program} {l : Launch} {e : Env} {s : State} {m : MethodId} {args : Array Value} {below : List Frame} {meth : Method} {c : Code} {g : Ga} {A : Nat → Prop} (C : Cx l g A p s m args c cX3_has 2 RX3 (rm_X3_has) (0, 0)) (hr : meth.sig.returnType = (some .boolean)) (hk : meth.locks = false)   (z : St) (s0 : Int32)  {res : St × Int32} (hf : f_X3_has_26  z s0 = some res) : Zj p l e (rm_X3_has) s m args below meth c g A 2 (0, 0) (QI g A below args s res) z 26 [] [.int s0] := by
  unfold f_X3_has_26 at hf
  obtain ⟨h1, hf⟩ := q_ck hf
  cases hf
  exact z_zret C hr hk h1 dX3_has_26
def f_X3_has_21  (z : St)  : Option (St × Int32) :=
  f_X3_has_26 z 1
theorem b_X3_has_21 {p : Program} {l : Launch} {e : Env} {s : State} {m : MethodId} {args : Array Value} {below : List Frame} {meth : Method} {c : Code} {g : Ga} {A : Nat → Prop} (C : Cx l g A p s m args c cX3_has 2 RX3 (rm_X3_has) (0, 0)) (hr : meth.sig.returnType = (some .boolean)) (hk : meth.locks = false)   (z : St)   {res : St × Int32} (hf : f_X3_has_21  z  = some res) : Zj p l e (rm_X3_has) s m args below meth c g A 2 (0, 0) (QI g A below args s res) z 21 [] [] := by
  unfold f_X3_has_21 at hf
  refine z_iconst C dX3_has_21 (v := 1) (by decide) ?_
  exact z_goto C dX3_has_22 (by decide) (z_sub [] rfl (b_X3_has_26 C hr hk z 1 hf))
def f_X3_has_25  (z : St)  : Option (St × Int32) :=
  f_X3_has_26 z 0
theorem b_X3_has_25 {p : Program} {l : Launch} {e : Env} {s : State} {m : MethodId} {args : Array Value} {below : List Frame} {meth : Method} {c : Code} {g : Ga} {A : Nat → Prop} (C : Cx l g A p s m args c cX3_has 2 RX3 (rm_X3_has) (0, 0)) (hr : meth.sig.returnType = (some .boolean)) (hk : meth.locks = false)   (z : St)   {res : St × Int32} (hf : f_X3_has_25  z  = some res) : Zj p l e (rm_X3_has) s m args below meth c g A 2 (0, 0) (QI g A below args s res) z 25 [] [] := by
  unfold f_X3_has_25 at hf
  refine z_iconst C dX3_has_25 (v := 0) (by decide) ?_
  exact z_sub [] rfl (b_X3_has_26 C hr hk z 0 hf)
def f_X3_has_10  (z : St) (o0 : Nat) (x1 : Int32) : Option (St × Int32) :=
  if (((z.1 o0 4) >>> (x1 &&& 31)) &&& 1) = 0 then f_X3_has_25 z else f_X3_has_21 z
theorem b_X3_has_10 {p : Program} {l : Launch} {e : Env} {s : State} {m : MethodId} {args : Array Value} {below : List Frame} {meth : Method} {c : Code} {g : Ga} {A : Nat → Prop} (C : Cx l g A p s m args c cX3_has 2 RX3 (rm_X3_has) (0, 0)) (hr : meth.sig.returnType = (some .boolean)) (hk : meth.locks = false)   (z : St) (o0 : Nat) (x1 : Int32) (ho0 : kd o0 = 3) {res : St × Int32} (hf : f_X3_has_10  z o0 x1 = some res) : Zj p l e (rm_X3_has) s m args below meth c g A 2 (0, 0) (QI g A below args s res) z 10 [(0, .ref (g.1 o0)), (1, .int x1)] [] := by
  unfold f_X3_has_10 at hf
  refine z_aload_n C dX3_has_10 rfl 0 rfl ?_
  refine gf_X3_25 C dX3_has_11 ho0 ?_
  refine z_iload_n C dX3_has_14 rfl 1 rfl ?_
  refine z_ishr C dX3_has_15 ?_
  refine z_iconst C dX3_has_16 (v := 1) (by decide) ?_
  refine z_iand C dX3_has_17 ?_
  exact z_if_eq C dX3_has_18 (by decide) (fun h => z_sub [] rfl (b_X3_has_25 C hr hk z (q_t hf h))) (fun h => z_sub [] rfl (b_X3_has_21 C hr hk z (q_f hf h)))
def f_X3_has_4  (z : St) (o0 : Nat) (x1 : Int32) : Option (St × Int32) :=
  if 8 ≤ x1 then f_X3_has_25 z else f_X3_has_10 z o0 x1
theorem b_X3_has_4 {p : Program} {l : Launch} {e : Env} {s : State} {m : MethodId} {args : Array Value} {below : List Frame} {meth : Method} {c : Code} {g : Ga} {A : Nat → Prop} (C : Cx l g A p s m args c cX3_has 2 RX3 (rm_X3_has) (0, 0)) (hr : meth.sig.returnType = (some .boolean)) (hk : meth.locks = false)   (z : St) (o0 : Nat) (x1 : Int32) (ho0 : kd o0 = 3) {res : St × Int32} (hf : f_X3_has_4  z o0 x1 = some res) : Zj p l e (rm_X3_has) s m args below meth c g A 2 (0, 0) (QI g A below args s res) z 4 [(0, .ref (g.1 o0)), (1, .int x1)] [] := by
  unfold f_X3_has_4 at hf
  refine z_iload_n C dX3_has_4 rfl 1 rfl ?_
  refine z_bipush C dX3_has_5 (v := 8) (by decide) ?_
  exact z_icmp_ge C dX3_has_7 (by decide) (fun h => z_sub [] rfl (b_X3_has_25 C hr hk z (q_t hf h))) (fun h => z_sub [0, 1] rfl (b_X3_has_10 C hr hk z o0 x1 ho0 (q_f hf h)))
def f_X3_has_0  (z : St) (o0 : Nat) (x1 : Int32) : Option (St × Int32) :=
  if x1 < 0 then f_X3_has_25 z else f_X3_has_4 z o0 x1
theorem b_X3_has_0 {p : Program} {l : Launch} {e : Env} {s : State} {m : MethodId} {args : Array Value} {below : List Frame} {meth : Method} {c : Code} {g : Ga} {A : Nat → Prop} (C : Cx l g A p s m args c cX3_has 2 RX3 (rm_X3_has) (0, 0)) (hr : meth.sig.returnType = (some .boolean)) (hk : meth.locks = false)   (z : St) (o0 : Nat) (x1 : Int32) (ho0 : kd o0 = 3) {res : St × Int32} (hf : f_X3_has_0  z o0 x1 = some res) : Zj p l e (rm_X3_has) s m args below meth c g A 2 (0, 0) (QI g A below args s res) z 0 [(0, .ref (g.1 o0)), (1, .int x1)] [] := by
  unfold f_X3_has_0 at hf
  refine z_iload_n C dX3_has_0 rfl 1 rfl ?_
  exact z_if_lt C dX3_has_1 (by decide) (fun h => z_sub [] rfl (b_X3_has_25 C hr hk z (q_t hf h))) (fun h => z_sub [0, 1] rfl (b_X3_has_4 C hr hk z o0 x1 ho0 (q_f hf h)))
def f_X3_has (z : St) (o0 : Nat) (x1 : Int32) : Option (St × Int32) := f_X3_has_0 z o0 x1
theorem c_X3_has {l : Launch} {g : Ga} {A : Nat → Prop} {z : St} {o0 : Nat} {x1 : Int32} (ho0 : kd o0 = 3) {res : St × Int32} (hf : f_X3_has z o0 x1 = some res) : CI l g A yX3_has cX3_has 2 (some .boolean) rm_X3_has [.ref (g.1 o0), .int x1] z res :=
  e_CI (by decide) (Nat.le_of_ble_eq_true rfl) rfl (fun p e s m args below meth c C hr hk => z_sub [0, 1] rfl (b_X3_has_0 C hr hk z o0 x1 ho0 hf))
abbrev rm_X3_append : Room := { frames := 1, cells := 0, slots := 0, locals := 21 }
def f_X3_append_38  (z : St)  : Option (St) :=
  some z
theorem b_X3_append_38 {p : Program} {l : Launch} {e : Env} {s : State} {m : MethodId} {args : Array Value} {below : List Frame} {meth : Method} {c : Code} {g : Ga} {A : Nat → Prop} (C : Cx l g A p s m args c cX3_append 4 RX3 (rm_X3_append) (0, 0)) (hr : meth.sig.returnType = none) (hk : meth.locks = false)   (z : St)   {res : St} (hf : f_X3_append_38  z  = some res) : Zj p l e (rm_X3_append) s m args below meth c g A 4 (0, 0) (QV g A below args s res) z 38 [] [] := by
  unfold f_X3_append_38 at hf
  cases hf
  exact z_vret C hr hk dX3_append_38
def f_X3_append_39  (z : St) (o0 : Nat) (o1 : Nat) (x2 : Int32) : Option (St) :=
  ((f_X4_comesOf z o1 x2).bind fun r1 => ((f_X4_takesOf (zI r1.1 o0 7 ((r1.1.1 o0 7) + ((imax (z.1 o0 5) r1.2) - (r1.1.1 o0 5)))) o1 x2).bind fun r3 => ((f_X4_coolsOf (zI r3.1 o0 5 ((imax (z.1 o0 5) r1.2) + r3.2)) o1 x2).bind fun r5 => if inb x2 8 = true then (if inb x2 8 = true then (if inb ((zI (zI (zI (zI r5.1 o0 6 (imax ((zI r3.1 o0 5 ((imax (z.1 o0 5) r1.2) + r3.2)).1 o0 6) (((zI r3.1 o0 5 ((imax (z.1 o0 5) r1.2) + r3.2)).1 o0 5) + r5.2))) (rf o0 1) (Int32.toNatClampNeg x2) (imax (z.1 o0 5) r1.2)) (rf o0 2) (Int32.toNatClampNeg x2) ((zI (zI r5.1 o0 6 (imax ((zI r3.1 o0 5 ((imax (z.1 o0 5) r1.2) + r3.2)).1 o0 6) (((zI r3.1 o0 5 ((imax (z.1 o0 5) r1.2) + r3.2)).1 o0 5) + r5.2))) (rf o0 1) (Int32.toNatClampNeg x2) (imax (z.1 o0 5) r1.2)).1 o0 5)) o0 4 (((zI (zI (zI r5.1 o0 6 (imax ((zI r3.1 o0 5 ((imax (z.1 o0 5) r1.2) + r3.2)).1 o0 6) (((zI r3.1 o0 5 ((imax (z.1 o0 5) r1.2) + r3.2)).1 o0 5) + r5.2))) (rf o0 1) (Int32.toNatClampNeg x2) (imax (z.1 o0 5) r1.2)) (rf o0 2) (Int32.toNatClampNeg x2) ((zI (zI r5.1 o0 6 (imax ((zI r3.1 o0 5 ((imax (z.1 o0 5) r1.2) + r3.2)).1 o0 6) (((zI r3.1 o0 5 ((imax (z.1 o0 5) r1.2) + r3.2)).1 o0 5) + r5.2))) (rf o0 1) (Int32.toNatClampNeg x2) (imax (z.1 o0 5) r1.2)).1 o0 5)).1 o0 4) ||| ((1 : Int32) <<< (x2 &&& 31)))).1 o0 3) 8 = true then (some (zI (zI (zI (zI (zI (zI r5.1 o0 6 (imax ((zI r3.1 o0 5 ((imax (z.1 o0 5) r1.2) + r3.2)).1 o0 6) (((zI r3.1 o0 5 ((imax (z.1 o0 5) r1.2) + r3.2)).1 o0 5) + r5.2))) (rf o0 1) (Int32.toNatClampNeg x2) (imax (z.1 o0 5) r1.2)) (rf o0 2) (Int32.toNatClampNeg x2) ((zI (zI r5.1 o0 6 (imax ((zI r3.1 o0 5 ((imax (z.1 o0 5) r1.2) + r3.2)).1 o0 6) (((zI r3.1 o0 5 ((imax (z.1 o0 5) r1.2) + r3.2)).1 o0 5) + r5.2))) (rf o0 1) (Int32.toNatClampNeg x2) (imax (z.1 o0 5) r1.2)).1 o0 5)) o0 4 (((zI (zI (zI r5.1 o0 6 (imax ((zI r3.1 o0 5 ((imax (z.1 o0 5) r1.2) + r3.2)).1 o0 6) (((zI r3.1 o0 5 ((imax (z.1 o0 5) r1.2) + r3.2)).1 o0 5) + r5.2))) (rf o0 1) (Int32.toNatClampNeg x2) (imax (z.1 o0 5) r1.2)) (rf o0 2) (Int32.toNatClampNeg x2) ((zI (zI r5.1 o0 6 (imax ((zI r3.1 o0 5 ((imax (z.1 o0 5) r1.2) + r3.2)).1 o0 6) (((zI r3.1 o0 5 ((imax (z.1 o0 5) r1.2) + r3.2)).1 o0 5) + r5.2))) (rf o0 1) (Int32.toNatClampNeg x2) (imax (z.1 o0 5) r1.2)).1 o0 5)).1 o0 4) ||| ((1 : Int32) <<< (x2 &&& 31)))) (rf o0 0) (Int32.toNatClampNeg ((zI (zI (zI (zI r5.1 o0 6 (imax ((zI r3.1 o0 5 ((imax (z.1 o0 5) r1.2) + r3.2)).1 o0 6) (((zI r3.1 o0 5 ((imax (z.1 o0 5) r1.2) + r3.2)).1 o0 5) + r5.2))) (rf o0 1) (Int32.toNatClampNeg x2) (imax (z.1 o0 5) r1.2)) (rf o0 2) (Int32.toNatClampNeg x2) ((zI (zI r5.1 o0 6 (imax ((zI r3.1 o0 5 ((imax (z.1 o0 5) r1.2) + r3.2)).1 o0 6) (((zI r3.1 o0 5 ((imax (z.1 o0 5) r1.2) + r3.2)).1 o0 5) + r5.2))) (rf o0 1) (Int32.toNatClampNeg x2) (imax (z.1 o0 5) r1.2)).1 o0 5)) o0 4 (((zI (zI (zI r5.1 o0 6 (imax ((zI r3.1 o0 5 ((imax (z.1 o0 5) r1.2) + r3.2)).1 o0 6) (((zI r3.1 o0 5 ((imax (z.1 o0 5) r1.2) + r3.2)).1 o0 5) + r5.2))) (rf o0 1) (Int32.toNatClampNeg x2) (imax (z.1 o0 5) r1.2)) (rf o0 2) (Int32.toNatClampNeg x2) ((zI (zI r5.1 o0 6 (imax ((zI r3.1 o0 5 ((imax (z.1 o0 5) r1.2) + r3.2)).1 o0 6) (((zI r3.1 o0 5 ((imax (z.1 o0 5) r1.2) + r3.2)).1 o0 5) + r5.2))) (rf o0 1) (Int32.toNatClampNeg x2) (imax (z.1 o0 5) r1.2)).1 o0 5)).1 o0 4) ||| ((1 : Int32) <<< (x2 &&& 31)))).1 o0 3)) x2) o0 3 (((zI (zI (zI (zI (zI r5.1 o0 6 (imax ((zI r3.1 o0 5 ((imax (z.1 o0 5) r1.2) + r3.2)).1 o0 6) (((zI r3.1 o0 5 ((imax (z.1 o0 5) r1.2) + r3.2)).1 o0 5) + r5.2))) (rf o0 1) (Int32.toNatClampNeg x2) (imax (z.1 o0 5) r1.2)) (rf o0 2) (Int32.toNatClampNeg x2) ((zI (zI r5.1 o0 6 (imax ((zI r3.1 o0 5 ((imax (z.1 o0 5) r1.2) + r3.2)).1 o0 6) (((zI r3.1 o0 5 ((imax (z.1 o0 5) r1.2) + r3.2)).1 o0 5) + r5.2))) (rf o0 1) (Int32.toNatClampNeg x2) (imax (z.1 o0 5) r1.2)).1 o0 5)) o0 4 (((zI (zI (zI r5.1 o0 6 (imax ((zI r3.1 o0 5 ((imax (z.1 o0 5) r1.2) + r3.2)).1 o0 6) (((zI r3.1 o0 5 ((imax (z.1 o0 5) r1.2) + r3.2)).1 o0 5) + r5.2))) (rf o0 1) (Int32.toNatClampNeg x2) (imax (z.1 o0 5) r1.2)) (rf o0 2) (Int32.toNatClampNeg x2) ((zI (zI r5.1 o0 6 (imax ((zI r3.1 o0 5 ((imax (z.1 o0 5) r1.2) + r3.2)).1 o0 6) (((zI r3.1 o0 5 ((imax (z.1 o0 5) r1.2) + r3.2)).1 o0 5) + r5.2))) (rf o0 1) (Int32.toNatClampNeg x2) (imax (z.1 o0 5) r1.2)).1 o0 5)).1 o0 4) ||| ((1 : Int32) <<< (x2 &&& 31)))) (rf o0 0) (Int32.toNatClampNeg ((zI (zI (zI (zI r5.1 o0 6 (imax ((zI r3.1 o0 5 ((imax (z.1 o0 5) r1.2) + r3.2)).1 o0 6) (((zI r3.1 o0 5 ((imax (z.1 o0 5) r1.2) + r3.2)).1 o0 5) + r5.2))) (rf o0 1) (Int32.toNatClampNeg x2) (imax (z.1 o0 5) r1.2)) (rf o0 2) (Int32.toNatClampNeg x2) ((zI (zI r5.1 o0 6 (imax ((zI r3.1 o0 5 ((imax (z.1 o0 5) r1.2) + r3.2)).1 o0 6) (((zI r3.1 o0 5 ((imax (z.1 o0 5) r1.2) + r3.2)).1 o0 5) + r5.2))) (rf o0 1) (Int32.toNatClampNeg x2) (imax (z.1 o0 5) r1.2)).1 o0 5)) o0 4 (((zI (zI (zI r5.1 o0 6 (imax ((zI r3.1 o0 5 ((imax (z.1 o0 5) r1.2) + r3.2)).1 o0 6) (((zI r3.1 o0 5 ((imax (z.1 o0 5) r1.2) + r3.2)).1 o0 5) + r5.2))) (rf o0 1) (Int32.toNatClampNeg x2) (imax (z.1 o0 5) r1.2)) (rf o0 2) (Int32.toNatClampNeg x2) ((zI (zI r5.1 o0 6 (imax ((zI r3.1 o0 5 ((imax (z.1 o0 5) r1.2) + r3.2)).1 o0 6) (((zI r3.1 o0 5 ((imax (z.1 o0 5) r1.2) + r3.2)).1 o0 5) + r5.2))) (rf o0 1) (Int32.toNatClampNeg x2) (imax (z.1 o0 5) r1.2)).1 o0 5)).1 o0 4) ||| ((1 : Int32) <<< (x2 &&& 31)))).1 o0 3)) x2).1 o0 3) + 1))) else none) else none) else none)))
theorem b_X3_append_39 {p : Program} {l : Launch} {e : Env} {s : State} {m : MethodId} {args : Array Value} {below : List Frame} {meth : Method} {c : Code} {g : Ga} {A : Nat → Prop} (C : Cx l g A p s m args c cX3_append 4 RX3 (rm_X3_append) (0, 0)) (hr : meth.sig.returnType = none) (hk : meth.locks = false)   (z : St) (o0 : Nat) (o1 : Nat) (x2 : Int32) (ho0 : kd o0 = 3) (ho1 : kd o1 = 4) {res : St} (hf : f_X3_append_39  z o0 o1 x2 = some res) : Zj p l e (rm_X3_append) s m args below meth c g A 4 (0, 0) (QV g A below args s res) z 39 [(0, .ref (g.1 o0)), (1, .ref (g.1 o1)), (2, .int x2)] [] := by
  unfold f_X3_append_39 at hf
  refine z_aload_n C dX3_append_39 rfl 0 rfl ?_
  refine gf_X3_28 C dX3_append_40 ho0 ?_
  refine z_aload_n C dX3_append_43 rfl 1 rfl ?_
  refine z_iload_n C dX3_append_44 rfl 2 rfl ?_
  obtain ⟨r1, hc2, hf⟩ := q_bd hf
  refine z_cVi C (st := [.int (z.1 o0 5)]) (c_X4_comesOf ho1 hc2) mw_X4_comesOf ml_X3_43 ho1 (by decide) rfl dX3_append_45 rfl rfl rfl ⟨Nat.le_of_ble_eq_true rfl, Nat.le_of_ble_eq_true rfl⟩ rfl (Nat.le_of_ble_eq_true rfl) ?_
  refine z_mmax C (st := []) dX3_append_48 ml_X3_47 mm_max.1 mm_i mm_max.2 ⟨Nat.le_of_ble_eq_true rfl, Nat.le_of_ble_eq_true rfl⟩ (Nat.le_of_ble_eq_true rfl) ?_
  refine z_istore_n C (lv2 := [(3, .int (imax (z.1 o0 5) r1.2)), (0, .ref (g.1 o0)), (1, .ref (g.1 o1)), (2, .int x2)]) dX3_append_51 rfl (by decide) rfl ?_
  refine z_aload_n C dX3_append_52 rfl 1 rfl ?_
  refine z_dup C dX3_append_53 rfl ?_
  refine gf_X3_34 C dX3_append_54 ho0 ?_
  refine z_iload_n C dX3_append_57 rfl 0 rfl ?_
  refine z_aload_n C dX3_append_58 rfl 1 rfl ?_
  refine gf_X3_28 C dX3_append_59 ho0 ?_
  refine z_isub C dX3_append_62 ?_
  refine z_iadd C dX3_append_63 ?_
  refine pf_X3_34 C dX3_append_64 ho0 ?_
  refine z_aload_n C dX3_append_67 rfl 1 rfl ?_
  refine z_iload_n C dX3_append_68 rfl 0 rfl ?_
  refine z_aload_n C dX3_append_69 rfl 2 rfl ?_
  refine z_iload_n C dX3_append_70 rfl 3 rfl ?_
  obtain ⟨r3, hc4, hf⟩ := q_bd hf
  refine z_cVi C (st := [.int (imax (z.1 o0 5) r1.2), .ref (g.1 o0)]) (c_X4_takesOf ho1 hc4) mw_X4_takesOf ml_X3_53 ho1 (by decide) rfl dX3_append_71 rfl rfl rfl ⟨Nat.le_of_ble_eq_true rfl, Nat.le_of_ble_eq_true rfl⟩ rfl (Nat.le_of_ble_eq_true rfl) ?_
  refine z_iadd C dX3_append_74 ?_
  refine pf_X3_28 C dX3_append_75 ho0 ?_
  refine z_aload_n C dX3_append_78 rfl 1 rfl ?_
  refine z_aload_n C dX3_append_79 rfl 1 rfl ?_
  refine gf_X3_31 C dX3_append_80 ho0 ?_
  refine z_aload_n C dX3_append_83 rfl 1 rfl ?_
  refine gf_X3_28 C dX3_append_84 ho0 ?_
  refine z_aload_n C dX3_append_87 rfl 2 rfl ?_
  refine z_iload_n C dX3_append_88 rfl 3 rfl ?_
  obtain ⟨r5, hc6, hf⟩ := q_bd hf
  refine z_cVi C (st := [.int ((zI r3.1 o0 5 ((imax (z.1 o0 5) r1.2) + r3.2)).1 o0 5), .int ((zI r3.1 o0 5 ((imax (z.1 o0 5) r1.2) + r3.2)).1 o0 6), .ref (g.1 o0)]) (c_X4_coolsOf ho1 hc6) mw_X4_coolsOf ml_X3_56 ho1 (by decide) rfl dX3_append_89 rfl rfl rfl ⟨Nat.le_of_ble_eq_true rfl, Nat.le_of_ble_eq_true rfl⟩ rfl (Nat.le_of_ble_eq_true rfl) ?_
  refine z_iadd C dX3_append_92 ?_
  refine z_mmax C (st := [.ref (g.1 o0)]) dX3_append_93 ml_X3_47 mm_max.1 mm_i mm_max.2 ⟨Nat.le_of_ble_eq_true rfl, Nat.le_of_ble_eq_true rfl⟩ (Nat.le_of_ble_eq_true rfl) ?_
  refine pf_X3_31 C dX3_append_96 ho0 ?_
  refine z_aload_n C dX3_append_99 rfl 1 rfl ?_
  refine gf_X3_15 C dX3_append_100 ho0 ?_
  refine z_iload_n C dX3_append_103 rfl 3 rfl ?_
  refine z_iload_n C dX3_append_104 rfl 0 rfl ?_
  obtain ⟨h7, hf⟩ := q_ck hf
  refine z_iast C (n := 8) dX3_append_105 (rt_3_1 _ (kd_lt ho0 (by decide)) ho0) (by decide) h7 ?_
  refine z_aload_n C dX3_append_106 rfl 1 rfl ?_
  refine gf_X3_18 C dX3_append_107 ho0 ?_
  refine z_iload_n C dX3_append_110 rfl 3 rfl ?_
  refine z_aload_n C dX3_append_111 rfl 1 rfl ?_
  refine gf_X3_28 C dX3_append_112 ho0 ?_
  obtain ⟨h8, hf⟩ := q_ck hf
  refine z_iast C (n := 8) dX3_append_115 (rt_3_2 _ (kd_lt ho0 (by decide)) ho0) (by decide) h8 ?_
  refine z_aload_n C dX3_append_116 rfl 1 rfl ?_
  refine z_dup C dX3_append_117 rfl ?_
  refine gf_X3_25 C dX3_append_118 ho0 ?_
  refine z_iconst C dX3_append_121 (v := 1) (by decide) ?_
  refine z_iload_n C dX3_append_122 rfl 3 rfl ?_
  refine z_ishl C dX3_append_123 ?_
  refine z_ior C dX3_append_124 ?_
  refine pf_X3_25 C dX3_append_125 ho0 ?_
  refine z_aload_n C dX3_append_128 rfl 1 rfl ?_
  refine gf_X3_9 C dX3_append_129 ho0 ?_
  refine z_aload_n C dX3_append_132 rfl 1 rfl ?_
  refine gf_X3_21 C dX3_append_133 ho0 ?_
  refine z_iload_n C dX3_append_136 rfl 3 rfl ?_
  obtain ⟨h9, hf⟩ := q_ck hf
  refine z_iast C (n := 8) dX3_append_137 (rt_3_0 _ (kd_lt ho0 (by decide)) ho0) (by decide) h9 ?_
  refine z_aload_n C dX3_append_138 rfl 1 rfl ?_
  refine z_dup C dX3_append_139 rfl ?_
  refine gf_X3_21 C dX3_append_140 ho0 ?_
  refine z_iconst C dX3_append_143 (v := 1) (by decide) ?_
  refine z_iadd C dX3_append_144 ?_
  refine pf_X3_21 C dX3_append_145 ho0 ?_
  cases hf
  exact z_vret C hr hk dX3_append_148
def f_X3_append_29  (z : St) (o0 : Nat) (o1 : Nat) (x2 : Int32) : Option (St) :=
  if x2 < 8 then f_X3_append_39 z o0 o1 x2 else f_X3_append_38 z
theorem b_X3_append_29 {p : Program} {l : Launch} {e : Env} {s : State} {m : MethodId} {args : Array Value} {below : List Frame} {meth : Method} {c : Code} {g : Ga} {A : Nat → Prop} (C : Cx l g A p s m args c cX3_append 4 RX3 (rm_X3_append) (0, 0)) (hr : meth.sig.returnType = none) (hk : meth.locks = false)   (z : St) (o0 : Nat) (o1 : Nat) (x2 : Int32) (ho0 : kd o0 = 3) (ho1 : kd o1 = 4) {res : St} (hf : f_X3_append_29  z o0 o1 x2 = some res) : Zj p l e (rm_X3_append) s m args below meth c g A 4 (0, 0) (QV g A below args s res) z 29 [(0, .ref (g.1 o0)), (1, .ref (g.1 o1)), (2, .int x2)] [] := by
  unfold f_X3_append_29 at hf
  refine z_iload_n C dX3_append_29 rfl 2 rfl ?_
  refine z_aload_n C dX3_append_30 rfl 0 rfl ?_
  refine gf_X3_18 C dX3_append_31 ho0 ?_
  refine z_alenI C (n := 8) (v := 8) dX3_append_34 (rt_3_2 _ (kd_lt ho0 (by decide)) ho0) (by decide) rfl ?_
  exact z_icmp_lt C dX3_append_35 (by decide) (fun h => z_sub [0, 1, 2] rfl (b_X3_append_39 C hr hk z o0 o1 x2 ho0 ho1 (q_t hf h))) (fun h => z_sub [] rfl (b_X3_append_38 C hr hk z (q_f hf h)))
def f_X3_append_20  (z : St) (o0 : Nat) (o1 : Nat) (x2 : Int32) : Option (St) :=
  if 8 ≤ x2 then f_X3_append_38 z else f_X3_append_29 z o0 o1 x2
theorem b_X3_append_20 {p : Program} {l : Launch} {e : Env} {s : State} {m : MethodId} {args : Array Value} {below : List Frame} {meth : Method} {c : Code} {g : Ga} {A : Nat → Prop} (C : Cx l g A p s m args c cX3_append 4 RX3 (rm_X3_append) (0, 0)) (hr : meth.sig.returnType = none) (hk : meth.locks = false)   (z : St) (o0 : Nat) (o1 : Nat) (x2 : Int32) (ho0 : kd o0 = 3) (ho1 : kd o1 = 4) {res : St} (hf : f_X3_append_20  z o0 o1 x2 = some res) : Zj p l e (rm_X3_append) s m args below meth c g A 4 (0, 0) (QV g A below args s res) z 20 [(0, .ref (g.1 o0)), (1, .ref (g.1 o1)), (2, .int x2)] [] := by
  unfold f_X3_append_20 at hf
  refine z_iload_n C dX3_append_20 rfl 2 rfl ?_
  refine z_aload_n C dX3_append_21 rfl 0 rfl ?_
  refine gf_X3_15 C dX3_append_22 ho0 ?_
  refine z_alenI C (n := 8) (v := 8) dX3_append_25 (rt_3_1 _ (kd_lt ho0 (by decide)) ho0) (by decide) rfl ?_
  exact z_icmp_ge C dX3_append_26 (by decide) (fun h => z_sub [] rfl (b_X3_append_38 C hr hk z (q_t hf h))) (fun h => z_sub [0, 1, 2] rfl (b_X3_append_29 C hr hk z o0 o1 x2 ho0 ho1 (q_f hf h)))
def f_X3_append_8  (z : St) (o0 : Nat) (o1 : Nat) (x2 : Int32) : Option (St) :=
  if 8 ≤ (z.1 o0 3) then f_X3_append_38 z else f_X3_append_20 z o0 o1 x2
theorem b_X3_append_8 {p : Program} {l : Launch} {e : Env} {s : State} {m : MethodId} {args : Array Value} {below : List Frame} {meth : Method} {c : Code} {g : Ga} {A : Nat → Prop} (C : Cx l g A p s m args c cX3_append 4 RX3 (rm_X3_append) (0, 0)) (hr : meth.sig.returnType = none) (hk : meth.locks = false)   (z : St) (o0 : Nat) (o1 : Nat) (x2 : Int32) (ho0 : kd o0 = 3) (ho1 : kd o1 = 4) {res : St} (hf : f_X3_append_8  z o0 o1 x2 = some res) : Zj p l e (rm_X3_append) s m args below meth c g A 4 (0, 0) (QV g A below args s res) z 8 [(0, .ref (g.1 o0)), (1, .ref (g.1 o1)), (2, .int x2)] [] := by
  unfold f_X3_append_8 at hf
  refine z_aload_n C dX3_append_8 rfl 0 rfl ?_
  refine gf_X3_21 C dX3_append_9 ho0 ?_
  refine z_aload_n C dX3_append_12 rfl 0 rfl ?_
  refine gf_X3_9 C dX3_append_13 ho0 ?_
  refine z_alenI C (n := 8) (v := 8) dX3_append_16 (rt_3_0 _ (kd_lt ho0 (by decide)) ho0) (by decide) rfl ?_
  exact z_icmp_ge C dX3_append_17 (by decide) (fun h => z_sub [] rfl (b_X3_append_38 C hr hk z (q_t hf h))) (fun h => z_sub [0, 1, 2] rfl (b_X3_append_20 C hr hk z o0 o1 x2 ho0 ho1 (q_f hf h)))
def f_X3_append_0  (z : St) (o0 : Nat) (o1 : Nat) (x2 : Int32) : Option (St) :=
  ((f_X4_holds z o1 x2).bind fun r1 => if r1.2 = 0 then f_X3_append_38 r1.1 else f_X3_append_8 r1.1 o0 o1 x2)
theorem b_X3_append_0 {p : Program} {l : Launch} {e : Env} {s : State} {m : MethodId} {args : Array Value} {below : List Frame} {meth : Method} {c : Code} {g : Ga} {A : Nat → Prop} (C : Cx l g A p s m args c cX3_append 4 RX3 (rm_X3_append) (0, 0)) (hr : meth.sig.returnType = none) (hk : meth.locks = false)   (z : St) (o0 : Nat) (o1 : Nat) (x2 : Int32) (ho0 : kd o0 = 3) (ho1 : kd o1 = 4) {res : St} (hf : f_X3_append_0  z o0 o1 x2 = some res) : Zj p l e (rm_X3_append) s m args below meth c g A 4 (0, 0) (QV g A below args s res) z 0 [(0, .ref (g.1 o0)), (1, .ref (g.1 o1)), (2, .int x2)] [] := by
  unfold f_X3_append_0 at hf
  refine z_aload_n C dX3_append_0 rfl 1 rfl ?_
  refine z_iload_n C dX3_append_1 rfl 2 rfl ?_
  obtain ⟨r1, hc2, hf⟩ := q_bd hf
  refine z_cVi C (st := []) (c_X4_holds ho1 hc2) mw_X4_holds ml_X3_37 ho1 (by decide) rfl dX3_append_2 rfl rfl rfl ⟨Nat.le_of_ble_eq_true rfl, Nat.le_of_ble_eq_true rfl⟩ rfl (Nat.le_of_ble_eq_true rfl) ?_
  exact z_if_eq C dX3_append_5 (by decide) (fun h => z_sub [] rfl (b_X3_append_38 C hr hk r1.1 (q_t hf h))) (fun h => z_sub [0, 1, 2] rfl (b_X3_append_8 C hr hk r1.1 o0 o1 x2 ho0 ho1 (q_f hf h)))
def f_X3_append (z : St) (o0 : Nat) (o1 : Nat) (x2 : Int32) : Option (St) := f_X3_append_0 z o0 o1 x2
theorem c_X3_append {l : Launch} {g : Ga} {A : Nat → Prop} {z : St} {o0 : Nat} {o1 : Nat} {x2 : Int32} (ho0 : kd o0 = 3) (ho1 : kd o1 = 4) {res : St} (hf : f_X3_append z o0 o1 x2 = some res) : CV l g A yX3_append cX3_append 4 none rm_X3_append [.ref (g.1 o0), .ref (g.1 o1), .int x2] z res :=
  e_CV (by decide) (Nat.le_of_ble_eq_true rfl) rfl (fun p e s m args below meth c C hr hk => z_sub [0, 1, 2] rfl (b_X3_append_0 C hr hk z o0 o1 x2 ho0 ho1 hf))
abbrev rm_X3_layGreedy : Room := { frames := 2, cells := 0, slots := 0, locals := 45 }
def f_X3_layGreedy_14 (K6 : St → Nat → Nat → Int32 → Option (St)) (z : St) (o0 : Nat) (o1 : Nat) (x2 : Int32) : Option (St) :=
  ((f_X4_hourOfSome z o1 (z.1 o0 4) (z.1 o0 5)).bind fun r1 => ((f_X4_nextToBegin r1.1 o1 (z.1 o0 4) r1.2).bind fun r3 => ((f_X3_append r3.1 o0 o1 r3.2).bind fun r5 => K6 r5 o0 o1 (x2 + 1))))
theorem b_X3_layGreedy_14 {p : Program} {l : Launch} {e : Env} {s : State} {m : MethodId} {args : Array Value} {below : List Frame} {meth : Method} {c : Code} {g : Ga} {A : Nat → Prop} (C : Cx l g A p s m args c cX3_layGreedy 3 RX3 (rm_X3_layGreedy) (0, 0)) (hr : meth.sig.returnType = none) (hk : meth.locks = false) {K6 : St → Nat → Nat → Int32 → Option (St)} (hK6 : ∀ (z : St) (o0 : Nat) (o1 : Nat) (x2 : Int32) (_ : kd o0 = 3) (_ : kd o1 = 4) {res : St}, K6 z o0 o1 x2 = some res → Zj p l e (rm_X3_layGreedy) s m args below meth c g A 3 (0, 0) (QV g A below args s res) z 6 [(0, .ref (g.1 o0)), (1, .ref (g.1 o1)), (2, .int x2)] []) (z : St) (o0 : Nat) (o1 : Nat) (x2 : Int32) (ho0 : kd o0 = 3) (ho1 : kd o1 = 4) {res : St} (hf : f_X3_layGreedy_14 K6 z o0 o1 x2 = some res) : Zj p l e (rm_X3_layGreedy) s m args below meth c g A 3 (0, 0) (QV g A below args s res) z 14 [(0, .ref (g.1 o0)), (1, .ref (g.1 o1)), (2, .int x2)] [] := by
  unfold f_X3_layGreedy_14 at hf
  refine z_aload_n C dX3_layGreedy_14 rfl 0 rfl ?_
  refine z_aload_n C dX3_layGreedy_15 rfl 1 rfl ?_
  refine z_aload_n C dX3_layGreedy_16 rfl 1 rfl ?_
  refine z_aload_n C dX3_layGreedy_17 rfl 0 rfl ?_
  refine gf_X3_25 C dX3_layGreedy_18 ho0 ?_
  refine z_aload_n C dX3_layGreedy_21 rfl 1 rfl ?_
  refine z_aload_n C dX3_layGreedy_22 rfl 0 rfl ?_
  refine gf_X3_25 C dX3_layGreedy_23 ho0 ?_
  refine z_aload_n C dX3_layGreedy_26 rfl 0 rfl ?_
  refine gf_X3_28 C dX3_layGreedy_27 ho0 ?_
  obtain ⟨r1, hc2, hf⟩ := q_bd hf
  refine z_cVi C (st := [.int (z.1 o0 4), .ref (g.1 o1), .ref (g.1 o1), .ref (g.1 o0)]) (c_X4_hourOfSome ho1 hc2) mw_X4_hourOfSome ml_X3_63 ho1 (by decide) rfl dX3_layGreedy_30 rfl rfl rfl ⟨Nat.le_of_ble_eq_true rfl, Nat.le_of_ble_eq_true rfl⟩ rfl (Nat.le_of_ble_eq_true rfl) ?_
  obtain ⟨r3, hc4, hf⟩ := q_bd hf
  refine z_cVi C (st := [.ref (g.1 o1), .ref (g.1 o0)]) (c_X4_nextToBegin ho1 hc4) mw_X4_nextToBegin ml_X3_66 ho1 (by decide) rfl dX3_layGreedy_33 rfl rfl rfl ⟨Nat.le_of_ble_eq_true rfl, Nat.le_of_ble_eq_true rfl⟩ rfl (Nat.le_of_ble_eq_true rfl) ?_
  obtain ⟨r5, hc6, hf⟩ := q_bd hf
  refine z_cVv C (st := []) (c_X3_append ho0 ho1 hc6) mw_X3_append ml_X3_69 ho0 (by decide) rfl dX3_layGreedy_36 rfl rfl rfl ⟨Nat.le_of_ble_eq_true rfl, Nat.le_of_ble_eq_true rfl⟩ rfl (Nat.le_of_ble_eq_true rfl) ?_
  refine z_iinc C (k := 2) (v := x2 + 1) (lv2 := [(2, .int (x2 + 1)), (0, .ref (g.1 o0)), (1, .ref (g.1 o1))]) dX3_layGreedy_39 rfl rfl (by decide) rfl ?_
  exact z_goto C dX3_layGreedy_42 (by decide) (z_sub [1, 2, 0] rfl (hK6 r5 o0 o1 (x2 + 1) ho0 ho1 hf))
def f_X3_layGreedy_45  (z : St)  : Option (St) :=
  some z
theorem b_X3_layGreedy_45 {p : Program} {l : Launch} {e : Env} {s : State} {m : MethodId} {args : Array Value} {below : List Frame} {meth : Method} {c : Code} {g : Ga} {A : Nat → Prop} (C : Cx l g A p s m args c cX3_layGreedy 3 RX3 (rm_X3_layGreedy) (0, 0)) (hr : meth.sig.returnType = none) (hk : meth.locks = false)   (z : St)   {res : St} (hf : f_X3_layGreedy_45  z  = some res) : Zj p l e (rm_X3_layGreedy) s m args below meth c g A 3 (0, 0) (QV g A below args s res) z 45 [] [] := by
  unfold f_X3_layGreedy_45 at hf
  cases hf
  exact z_vret C hr hk dX3_layGreedy_45
def f_X3_layGreedy_6  : Nat → St → Nat → Nat → Int32 → Option (St)
  | 0, _, _, _, _ => none
  | n + 1, z, o0, o1, x2 => if (z.1 o1 3) ≤ x2 then f_X3_layGreedy_45 z else f_X3_layGreedy_14 (f_X3_layGreedy_6 n) z o0 o1 x2
theorem b_X3_layGreedy_6 {p : Program} {l : Launch} {e : Env} {s : State} {m : MethodId} {args : Array Value} {below : List Frame} {meth : Method} {c : Code} {g : Ga} {A : Nat → Prop} (C : Cx l g A p s m args c cX3_layGreedy 3 RX3 (rm_X3_layGreedy) (0, 0)) (hr : meth.sig.returnType = none) (hk : meth.locks = false)   : ∀ (n : Nat) (z : St) (o0 : Nat) (o1 : Nat) (x2 : Int32) (_ : kd o0 = 3) (_ : kd o1 = 4) {res : St} (_ : f_X3_layGreedy_6  n z o0 o1 x2 = some res), Zj p l e (rm_X3_layGreedy) s m args below meth c g A 3 (0, 0) (QV g A below args s res) z 6 [(0, .ref (g.1 o0)), (1, .ref (g.1 o1)), (2, .int x2)] [] := by
  intro n
  induction n with
  | zero =>
    intro z o0 o1 x2 ho0 ho1 res hf
    cases hf
  | succ n ih =>
    intro z o0 o1 x2 ho0 ho1 res hf
    rw [f_X3_layGreedy_6] at hf
    refine z_iload_n C dX3_layGreedy_6 rfl 2 rfl ?_
    refine z_aload_n C dX3_layGreedy_7 rfl 1 rfl ?_
    refine gf_X3_62 C dX3_layGreedy_8 ho1 ?_
    exact z_icmp_ge C dX3_layGreedy_11 (by decide) (fun h => z_sub [] rfl (b_X3_layGreedy_45 C hr hk z (q_t hf h))) (fun h => z_sub [0, 1, 2] rfl (b_X3_layGreedy_14 C hr hk ih z o0 o1 x2 ho0 ho1 (q_f hf h)))
def f_X3_layGreedy_0  (z : St) (o0 : Nat) (o1 : Nat) : Option (St) :=
  ((f_X3_clear z o0).bind fun r1 => f_X3_layGreedy_6 FU r1 o0 o1 0)
theorem b_X3_layGreedy_0 {p : Program} {l : Launch} {e : Env} {s : State} {m : MethodId} {args : Array Value} {below : List Frame} {meth : Method} {c : Code} {g : Ga} {A : Nat → Prop} (C : Cx l g A p s m args c cX3_layGreedy 3 RX3 (rm_X3_layGreedy) (0, 0)) (hr : meth.sig.returnType = none) (hk : meth.locks = false)   (z : St) (o0 : Nat) (o1 : Nat) (ho0 : kd o0 = 3) (ho1 : kd o1 = 4) {res : St} (hf : f_X3_layGreedy_0  z o0 o1 = some res) : Zj p l e (rm_X3_layGreedy) s m args below meth c g A 3 (0, 0) (QV g A below args s res) z 0 [(0, .ref (g.1 o0)), (1, .ref (g.1 o1))] [] := by
  unfold f_X3_layGreedy_0 at hf
  refine z_aload_n C dX3_layGreedy_0 rfl 0 rfl ?_
  obtain ⟨r1, hc2, hf⟩ := q_bd hf
  refine z_cVv C (st := []) (c_X3_clear ho0 hc2) mw_X3_clear ml_X3_59 ho0 (by decide) rfl dX3_layGreedy_1 rfl rfl rfl ⟨Nat.le_of_ble_eq_true rfl, Nat.le_of_ble_eq_true rfl⟩ rfl (Nat.le_of_ble_eq_true rfl) ?_
  refine z_iconst C dX3_layGreedy_4 (v := 0) (by decide) ?_
  refine z_istore_n C (lv2 := [(2, .int 0), (0, .ref (g.1 o0)), (1, .ref (g.1 o1))]) dX3_layGreedy_5 rfl (by decide) rfl ?_
  exact z_sub [1, 2, 0] rfl (b_X3_layGreedy_6 C hr hk FU r1 o0 o1 0 ho0 ho1 hf)
def f_X3_layGreedy (z : St) (o0 : Nat) (o1 : Nat) : Option (St) := f_X3_layGreedy_0 z o0 o1
theorem c_X3_layGreedy {l : Launch} {g : Ga} {A : Nat → Prop} {z : St} {o0 : Nat} {o1 : Nat} (ho0 : kd o0 = 3) (ho1 : kd o1 = 4) {res : St} (hf : f_X3_layGreedy z o0 o1 = some res) : CV l g A yX3_layGreedy cX3_layGreedy 3 none rm_X3_layGreedy [.ref (g.1 o0), .ref (g.1 o1)] z res :=
  e_CV (by decide) (Nat.le_of_ble_eq_true rfl) rfl (fun p e s m args below meth c C hr hk => z_sub [0, 1] rfl (b_X3_layGreedy_0 C hr hk z o0 o1 ho0 ho1 hf))
abbrev rm_X3_jobAt : Room := { frames := 0, cells := 0, slots := 0, locals := 0 }
def f_X3_jobAt_31  (z : St) (s0 : Int32) : Option (St × Int32) :=
  some (z, s0)
theorem b_X3_jobAt_31 {p : Program} {l : Launch} {e : Env} {s : State} {m : MethodId} {args : Array Value} {below : List Frame} {meth : Method} {c : Code} {g : Ga} {A : Nat → Prop} (C : Cx l g A p s m args c cX3_jobAt 2 RX3 (rm_X3_jobAt) (0, 0)) (hr : meth.sig.returnType = (some .int)) (hk : meth.locks = false)   (z : St) (s0 : Int32)  {res : St × Int32} (hf : f_X3_jobAt_31  z s0 = some res) : Zj p l e (rm_X3_jobAt) s m args below meth c g A 2 (0, 0) (QI g A below args s res) z 31 [] [.int s0] := by
  unfold f_X3_jobAt_31 at hf
  cases hf
  exact z_iret C hr hk dX3_jobAt_31
def f_X3_jobAt_21  (z : St) (o0 : Nat) (x1 : Int32) : Option (St × Int32) :=
  if inb x1 8 = true then (f_X3_jobAt_31 z (z.1 (rf o0 0) (Int32.toNatClampNeg x1))) else none
theorem b_X3_jobAt_21 {p : Program} {l : Launch} {e : Env} {s : State} {m : MethodId} {args : Array Value} {below : List Frame} {meth : Method} {c : Code} {g : Ga} {A : Nat → Prop} (C : Cx l g A p s m args c cX3_jobAt 2 RX3 (rm_X3_jobAt) (0, 0)) (hr : meth.sig.returnType = (some .int)) (hk : meth.locks = false)   (z : St) (o0 : Nat) (x1 : Int32) (ho0 : kd o0 = 3) {res : St × Int32} (hf : f_X3_jobAt_21  z o0 x1 = some res) : Zj p l e (rm_X3_jobAt) s m args below meth c g A 2 (0, 0) (QI g A below args s res) z 21 [(0, .ref (g.1 o0)), (1, .int x1)] [] := by
  unfold f_X3_jobAt_21 at hf
  refine z_aload_n C dX3_jobAt_21 rfl 0 rfl ?_
  refine gf_X3_9 C dX3_jobAt_22 ho0 ?_
  refine z_iload_n C dX3_jobAt_25 rfl 1 rfl ?_
  obtain ⟨h1, hf⟩ := q_ck hf
  refine z_iald C (n := 8) dX3_jobAt_26 (rt_3_0 _ (kd_lt ho0 (by decide)) ho0) (by decide) h1 ?_
  exact z_goto C dX3_jobAt_27 (by decide) (z_sub [] rfl (b_X3_jobAt_31 C hr hk z (z.1 (rf o0 0) (Int32.toNatClampNeg x1)) hf))
def f_X3_jobAt_30  (z : St)  : Option (St × Int32) :=
  f_X3_jobAt_31 z ((-1))
theorem b_X3_jobAt_30 {p : Program} {l : Launch} {e : Env} {s : State} {m : MethodId} {args : Array Value} {below : List Frame} {meth : Method} {c : Code} {g : Ga} {A : Nat → Prop} (C : Cx l g A p s m args c cX3_jobAt 2 RX3 (rm_X3_jobAt) (0, 0)) (hr : meth.sig.returnType = (some .int)) (hk : meth.locks = false)   (z : St)   {res : St × Int32} (hf : f_X3_jobAt_30  z  = some res) : Zj p l e (rm_X3_jobAt) s m args below meth c g A 2 (0, 0) (QI g A below args s res) z 30 [] [] := by
  unfold f_X3_jobAt_30 at hf
  refine z_iconst C dX3_jobAt_30 (v := (-1)) (by decide) ?_
  exact z_sub [] rfl (b_X3_jobAt_31 C hr hk z ((-1)) hf)
def f_X3_jobAt_12  (z : St) (o0 : Nat) (x1 : Int32) : Option (St × Int32) :=
  if 8 ≤ x1 then f_X3_jobAt_30 z else f_X3_jobAt_21 z o0 x1
theorem b_X3_jobAt_12 {p : Program} {l : Launch} {e : Env} {s : State} {m : MethodId} {args : Array Value} {below : List Frame} {meth : Method} {c : Code} {g : Ga} {A : Nat → Prop} (C : Cx l g A p s m args c cX3_jobAt 2 RX3 (rm_X3_jobAt) (0, 0)) (hr : meth.sig.returnType = (some .int)) (hk : meth.locks = false)   (z : St) (o0 : Nat) (x1 : Int32) (ho0 : kd o0 = 3) {res : St × Int32} (hf : f_X3_jobAt_12  z o0 x1 = some res) : Zj p l e (rm_X3_jobAt) s m args below meth c g A 2 (0, 0) (QI g A below args s res) z 12 [(0, .ref (g.1 o0)), (1, .int x1)] [] := by
  unfold f_X3_jobAt_12 at hf
  refine z_iload_n C dX3_jobAt_12 rfl 1 rfl ?_
  refine z_aload_n C dX3_jobAt_13 rfl 0 rfl ?_
  refine gf_X3_9 C dX3_jobAt_14 ho0 ?_
  refine z_alenI C (n := 8) (v := 8) dX3_jobAt_17 (rt_3_0 _ (kd_lt ho0 (by decide)) ho0) (by decide) rfl ?_
  exact z_icmp_ge C dX3_jobAt_18 (by decide) (fun h => z_sub [] rfl (b_X3_jobAt_30 C hr hk z (q_t hf h))) (fun h => z_sub [0, 1] rfl (b_X3_jobAt_21 C hr hk z o0 x1 ho0 (q_f hf h)))
def f_X3_jobAt_4  (z : St) (o0 : Nat) (x1 : Int32) : Option (St × Int32) :=
  if (z.1 o0 3) ≤ x1 then f_X3_jobAt_30 z else f_X3_jobAt_12 z o0 x1
theorem b_X3_jobAt_4 {p : Program} {l : Launch} {e : Env} {s : State} {m : MethodId} {args : Array Value} {below : List Frame} {meth : Method} {c : Code} {g : Ga} {A : Nat → Prop} (C : Cx l g A p s m args c cX3_jobAt 2 RX3 (rm_X3_jobAt) (0, 0)) (hr : meth.sig.returnType = (some .int)) (hk : meth.locks = false)   (z : St) (o0 : Nat) (x1 : Int32) (ho0 : kd o0 = 3) {res : St × Int32} (hf : f_X3_jobAt_4  z o0 x1 = some res) : Zj p l e (rm_X3_jobAt) s m args below meth c g A 2 (0, 0) (QI g A below args s res) z 4 [(0, .ref (g.1 o0)), (1, .int x1)] [] := by
  unfold f_X3_jobAt_4 at hf
  refine z_iload_n C dX3_jobAt_4 rfl 1 rfl ?_
  refine z_aload_n C dX3_jobAt_5 rfl 0 rfl ?_
  refine gf_X3_21 C dX3_jobAt_6 ho0 ?_
  exact z_icmp_ge C dX3_jobAt_9 (by decide) (fun h => z_sub [] rfl (b_X3_jobAt_30 C hr hk z (q_t hf h))) (fun h => z_sub [0, 1] rfl (b_X3_jobAt_12 C hr hk z o0 x1 ho0 (q_f hf h)))
def f_X3_jobAt_0  (z : St) (o0 : Nat) (x1 : Int32) : Option (St × Int32) :=
  if x1 < 0 then f_X3_jobAt_30 z else f_X3_jobAt_4 z o0 x1
theorem b_X3_jobAt_0 {p : Program} {l : Launch} {e : Env} {s : State} {m : MethodId} {args : Array Value} {below : List Frame} {meth : Method} {c : Code} {g : Ga} {A : Nat → Prop} (C : Cx l g A p s m args c cX3_jobAt 2 RX3 (rm_X3_jobAt) (0, 0)) (hr : meth.sig.returnType = (some .int)) (hk : meth.locks = false)   (z : St) (o0 : Nat) (x1 : Int32) (ho0 : kd o0 = 3) {res : St × Int32} (hf : f_X3_jobAt_0  z o0 x1 = some res) : Zj p l e (rm_X3_jobAt) s m args below meth c g A 2 (0, 0) (QI g A below args s res) z 0 [(0, .ref (g.1 o0)), (1, .int x1)] [] := by
  unfold f_X3_jobAt_0 at hf
  refine z_iload_n C dX3_jobAt_0 rfl 1 rfl ?_
  exact z_if_lt C dX3_jobAt_1 (by decide) (fun h => z_sub [] rfl (b_X3_jobAt_30 C hr hk z (q_t hf h))) (fun h => z_sub [0, 1] rfl (b_X3_jobAt_4 C hr hk z o0 x1 ho0 (q_f hf h)))
def f_X3_jobAt (z : St) (o0 : Nat) (x1 : Int32) : Option (St × Int32) := f_X3_jobAt_0 z o0 x1
theorem c_X3_jobAt {l : Launch} {g : Ga} {A : Nat → Prop} {z : St} {o0 : Nat} {x1 : Int32} (ho0 : kd o0 = 3) {res : St × Int32} (hf : f_X3_jobAt z o0 x1 = some res) : CI l g A yX3_jobAt cX3_jobAt 2 (some .int) rm_X3_jobAt [.ref (g.1 o0), .int x1] z res :=
  e_CI (by decide) (Nat.le_of_ble_eq_true rfl) rfl (fun p e s m args below meth c C hr hk => z_sub [0, 1] rfl (b_X3_jobAt_0 C hr hk z o0 x1 ho0 hf))
abbrev rm_X3_beginOf : Room := { frames := 0, cells := 0, slots := 0, locals := 0 }
def f_X3_beginOf_34  (z : St) (s0 : Int32) : Option (St × Int32) :=
  some (z, s0)
theorem b_X3_beginOf_34 {p : Program} {l : Launch} {e : Env} {s : State} {m : MethodId} {args : Array Value} {below : List Frame} {meth : Method} {c : Code} {g : Ga} {A : Nat → Prop} (C : Cx l g A p s m args c cX3_beginOf 2 RX3 (rm_X3_beginOf) (0, 0)) (hr : meth.sig.returnType = (some .int)) (hk : meth.locks = false)   (z : St) (s0 : Int32)  {res : St × Int32} (hf : f_X3_beginOf_34  z s0 = some res) : Zj p l e (rm_X3_beginOf) s m args below meth c g A 2 (0, 0) (QI g A below args s res) z 34 [] [.int s0] := by
  unfold f_X3_beginOf_34 at hf
  cases hf
  exact z_iret C hr hk dX3_beginOf_34
def f_X3_beginOf_24  (z : St) (o0 : Nat) (x1 : Int32) : Option (St × Int32) :=
  if inb x1 8 = true then (f_X3_beginOf_34 z (z.1 (rf o0 1) (Int32.toNatClampNeg x1))) else none
theorem b_X3_beginOf_24 {p : Program} {l : Launch} {e : Env} {s : State} {m : MethodId} {args : Array Value} {below : List Frame} {meth : Method} {c : Code} {g : Ga} {A : Nat → Prop} (C : Cx l g A p s m args c cX3_beginOf 2 RX3 (rm_X3_beginOf) (0, 0)) (hr : meth.sig.returnType = (some .int)) (hk : meth.locks = false)   (z : St) (o0 : Nat) (x1 : Int32) (ho0 : kd o0 = 3) {res : St × Int32} (hf : f_X3_beginOf_24  z o0 x1 = some res) : Zj p l e (rm_X3_beginOf) s m args below meth c g A 2 (0, 0) (QI g A below args s res) z 24 [(0, .ref (g.1 o0)), (1, .int x1)] [] := by
  unfold f_X3_beginOf_24 at hf
  refine z_aload_n C dX3_beginOf_24 rfl 0 rfl ?_
  refine gf_X3_15 C dX3_beginOf_25 ho0 ?_
  refine z_iload_n C dX3_beginOf_28 rfl 1 rfl ?_
  obtain ⟨h1, hf⟩ := q_ck hf
  refine z_iald C (n := 8) dX3_beginOf_29 (rt_3_1 _ (kd_lt ho0 (by decide)) ho0) (by decide) h1 ?_
  exact z_goto C dX3_beginOf_30 (by decide) (z_sub [] rfl (b_X3_beginOf_34 C hr hk z (z.1 (rf o0 1) (Int32.toNatClampNeg x1)) hf))
def f_X3_beginOf_33  (z : St)  : Option (St × Int32) :=
  f_X3_beginOf_34 z ((-1))
theorem b_X3_beginOf_33 {p : Program} {l : Launch} {e : Env} {s : State} {m : MethodId} {args : Array Value} {below : List Frame} {meth : Method} {c : Code} {g : Ga} {A : Nat → Prop} (C : Cx l g A p s m args c cX3_beginOf 2 RX3 (rm_X3_beginOf) (0, 0)) (hr : meth.sig.returnType = (some .int)) (hk : meth.locks = false)   (z : St)   {res : St × Int32} (hf : f_X3_beginOf_33  z  = some res) : Zj p l e (rm_X3_beginOf) s m args below meth c g A 2 (0, 0) (QI g A below args s res) z 33 [] [] := by
  unfold f_X3_beginOf_33 at hf
  refine z_iconst C dX3_beginOf_33 (v := (-1)) (by decide) ?_
  exact z_sub [] rfl (b_X3_beginOf_34 C hr hk z ((-1)) hf)
def f_X3_beginOf_13  (z : St) (o0 : Nat) (x1 : Int32) : Option (St × Int32) :=
  if (((z.1 o0 4) >>> (x1 &&& 31)) &&& 1) = 0 then f_X3_beginOf_33 z else f_X3_beginOf_24 z o0 x1
theorem b_X3_beginOf_13 {p : Program} {l : Launch} {e : Env} {s : State} {m : MethodId} {args : Array Value} {below : List Frame} {meth : Method} {c : Code} {g : Ga} {A : Nat → Prop} (C : Cx l g A p s m args c cX3_beginOf 2 RX3 (rm_X3_beginOf) (0, 0)) (hr : meth.sig.returnType = (some .int)) (hk : meth.locks = false)   (z : St) (o0 : Nat) (x1 : Int32) (ho0 : kd o0 = 3) {res : St × Int32} (hf : f_X3_beginOf_13  z o0 x1 = some res) : Zj p l e (rm_X3_beginOf) s m args below meth c g A 2 (0, 0) (QI g A below args s res) z 13 [(0, .ref (g.1 o0)), (1, .int x1)] [] := by
  unfold f_X3_beginOf_13 at hf
  refine z_aload_n C dX3_beginOf_13 rfl 0 rfl ?_
  refine gf_X3_25 C dX3_beginOf_14 ho0 ?_
  refine z_iload_n C dX3_beginOf_17 rfl 1 rfl ?_
  refine z_ishr C dX3_beginOf_18 ?_
  refine z_iconst C dX3_beginOf_19 (v := 1) (by decide) ?_
  refine z_iand C dX3_beginOf_20 ?_
  exact z_if_eq C dX3_beginOf_21 (by decide) (fun h => z_sub [] rfl (b_X3_beginOf_33 C hr hk z (q_t hf h))) (fun h => z_sub [0, 1] rfl (b_X3_beginOf_24 C hr hk z o0 x1 ho0 (q_f hf h)))
def f_X3_beginOf_4  (z : St) (o0 : Nat) (x1 : Int32) : Option (St × Int32) :=
  if 8 ≤ x1 then f_X3_beginOf_33 z else f_X3_beginOf_13 z o0 x1
theorem b_X3_beginOf_4 {p : Program} {l : Launch} {e : Env} {s : State} {m : MethodId} {args : Array Value} {below : List Frame} {meth : Method} {c : Code} {g : Ga} {A : Nat → Prop} (C : Cx l g A p s m args c cX3_beginOf 2 RX3 (rm_X3_beginOf) (0, 0)) (hr : meth.sig.returnType = (some .int)) (hk : meth.locks = false)   (z : St) (o0 : Nat) (x1 : Int32) (ho0 : kd o0 = 3) {res : St × Int32} (hf : f_X3_beginOf_4  z o0 x1 = some res) : Zj p l e (rm_X3_beginOf) s m args below meth c g A 2 (0, 0) (QI g A below args s res) z 4 [(0, .ref (g.1 o0)), (1, .int x1)] [] := by
  unfold f_X3_beginOf_4 at hf
  refine z_iload_n C dX3_beginOf_4 rfl 1 rfl ?_
  refine z_aload_n C dX3_beginOf_5 rfl 0 rfl ?_
  refine gf_X3_15 C dX3_beginOf_6 ho0 ?_
  refine z_alenI C (n := 8) (v := 8) dX3_beginOf_9 (rt_3_1 _ (kd_lt ho0 (by decide)) ho0) (by decide) rfl ?_
  exact z_icmp_ge C dX3_beginOf_10 (by decide) (fun h => z_sub [] rfl (b_X3_beginOf_33 C hr hk z (q_t hf h))) (fun h => z_sub [0, 1] rfl (b_X3_beginOf_13 C hr hk z o0 x1 ho0 (q_f hf h)))
def f_X3_beginOf_0  (z : St) (o0 : Nat) (x1 : Int32) : Option (St × Int32) :=
  if x1 < 0 then f_X3_beginOf_33 z else f_X3_beginOf_4 z o0 x1
theorem b_X3_beginOf_0 {p : Program} {l : Launch} {e : Env} {s : State} {m : MethodId} {args : Array Value} {below : List Frame} {meth : Method} {c : Code} {g : Ga} {A : Nat → Prop} (C : Cx l g A p s m args c cX3_beginOf 2 RX3 (rm_X3_beginOf) (0, 0)) (hr : meth.sig.returnType = (some .int)) (hk : meth.locks = false)   (z : St) (o0 : Nat) (x1 : Int32) (ho0 : kd o0 = 3) {res : St × Int32} (hf : f_X3_beginOf_0  z o0 x1 = some res) : Zj p l e (rm_X3_beginOf) s m args below meth c g A 2 (0, 0) (QI g A below args s res) z 0 [(0, .ref (g.1 o0)), (1, .int x1)] [] := by
  unfold f_X3_beginOf_0 at hf
  refine z_iload_n C dX3_beginOf_0 rfl 1 rfl ?_
  exact z_if_lt C dX3_beginOf_1 (by decide) (fun h => z_sub [] rfl (b_X3_beginOf_33 C hr hk z (q_t hf h))) (fun h => z_sub [0, 1] rfl (b_X3_beginOf_4 C hr hk z o0 x1 ho0 (q_f hf h)))
def f_X3_beginOf (z : St) (o0 : Nat) (x1 : Int32) : Option (St × Int32) := f_X3_beginOf_0 z o0 x1
theorem c_X3_beginOf {l : Launch} {g : Ga} {A : Nat → Prop} {z : St} {o0 : Nat} {x1 : Int32} (ho0 : kd o0 = 3) {res : St × Int32} (hf : f_X3_beginOf z o0 x1 = some res) : CI l g A yX3_beginOf cX3_beginOf 2 (some .int) rm_X3_beginOf [.ref (g.1 o0), .int x1] z res :=
  e_CI (by decide) (Nat.le_of_ble_eq_true rfl) rfl (fun p e s m args below meth c C hr hk => z_sub [0, 1] rfl (b_X3_beginOf_0 C hr hk z o0 x1 ho0 hf))
abbrev rm_X3_endOf : Room := { frames := 0, cells := 0, slots := 0, locals := 0 }
def f_X3_endOf_34  (z : St) (s0 : Int32) : Option (St × Int32) :=
  some (z, s0)
theorem b_X3_endOf_34 {p : Program} {l : Launch} {e : Env} {s : State} {m : MethodId} {args : Array Value} {below : List Frame} {meth : Method} {c : Code} {g : Ga} {A : Nat → Prop} (C : Cx l g A p s m args c cX3_endOf 2 RX3 (rm_X3_endOf) (0, 0)) (hr : meth.sig.returnType = (some .int)) (hk : meth.locks = false)   (z : St) (s0 : Int32)  {res : St × Int32} (hf : f_X3_endOf_34  z s0 = some res) : Zj p l e (rm_X3_endOf) s m args below meth c g A 2 (0, 0) (QI g A below args s res) z 34 [] [.int s0] := by
  unfold f_X3_endOf_34 at hf
  cases hf
  exact z_iret C hr hk dX3_endOf_34
def f_X3_endOf_24  (z : St) (o0 : Nat) (x1 : Int32) : Option (St × Int32) :=
  if inb x1 8 = true then (f_X3_endOf_34 z (z.1 (rf o0 2) (Int32.toNatClampNeg x1))) else none
theorem b_X3_endOf_24 {p : Program} {l : Launch} {e : Env} {s : State} {m : MethodId} {args : Array Value} {below : List Frame} {meth : Method} {c : Code} {g : Ga} {A : Nat → Prop} (C : Cx l g A p s m args c cX3_endOf 2 RX3 (rm_X3_endOf) (0, 0)) (hr : meth.sig.returnType = (some .int)) (hk : meth.locks = false)   (z : St) (o0 : Nat) (x1 : Int32) (ho0 : kd o0 = 3) {res : St × Int32} (hf : f_X3_endOf_24  z o0 x1 = some res) : Zj p l e (rm_X3_endOf) s m args below meth c g A 2 (0, 0) (QI g A below args s res) z 24 [(0, .ref (g.1 o0)), (1, .int x1)] [] := by
  unfold f_X3_endOf_24 at hf
  refine z_aload_n C dX3_endOf_24 rfl 0 rfl ?_
  refine gf_X3_18 C dX3_endOf_25 ho0 ?_
  refine z_iload_n C dX3_endOf_28 rfl 1 rfl ?_
  obtain ⟨h1, hf⟩ := q_ck hf
  refine z_iald C (n := 8) dX3_endOf_29 (rt_3_2 _ (kd_lt ho0 (by decide)) ho0) (by decide) h1 ?_
  exact z_goto C dX3_endOf_30 (by decide) (z_sub [] rfl (b_X3_endOf_34 C hr hk z (z.1 (rf o0 2) (Int32.toNatClampNeg x1)) hf))
def f_X3_endOf_33  (z : St)  : Option (St × Int32) :=
  f_X3_endOf_34 z ((-1))
theorem b_X3_endOf_33 {p : Program} {l : Launch} {e : Env} {s : State} {m : MethodId} {args : Array Value} {below : List Frame} {meth : Method} {c : Code} {g : Ga} {A : Nat → Prop} (C : Cx l g A p s m args c cX3_endOf 2 RX3 (rm_X3_endOf) (0, 0)) (hr : meth.sig.returnType = (some .int)) (hk : meth.locks = false)   (z : St)   {res : St × Int32} (hf : f_X3_endOf_33  z  = some res) : Zj p l e (rm_X3_endOf) s m args below meth c g A 2 (0, 0) (QI g A below args s res) z 33 [] [] := by
  unfold f_X3_endOf_33 at hf
  refine z_iconst C dX3_endOf_33 (v := (-1)) (by decide) ?_
  exact z_sub [] rfl (b_X3_endOf_34 C hr hk z ((-1)) hf)
def f_X3_endOf_13  (z : St) (o0 : Nat) (x1 : Int32) : Option (St × Int32) :=
  if (((z.1 o0 4) >>> (x1 &&& 31)) &&& 1) = 0 then f_X3_endOf_33 z else f_X3_endOf_24 z o0 x1
theorem b_X3_endOf_13 {p : Program} {l : Launch} {e : Env} {s : State} {m : MethodId} {args : Array Value} {below : List Frame} {meth : Method} {c : Code} {g : Ga} {A : Nat → Prop} (C : Cx l g A p s m args c cX3_endOf 2 RX3 (rm_X3_endOf) (0, 0)) (hr : meth.sig.returnType = (some .int)) (hk : meth.locks = false)   (z : St) (o0 : Nat) (x1 : Int32) (ho0 : kd o0 = 3) {res : St × Int32} (hf : f_X3_endOf_13  z o0 x1 = some res) : Zj p l e (rm_X3_endOf) s m args below meth c g A 2 (0, 0) (QI g A below args s res) z 13 [(0, .ref (g.1 o0)), (1, .int x1)] [] := by
  unfold f_X3_endOf_13 at hf
  refine z_aload_n C dX3_endOf_13 rfl 0 rfl ?_
  refine gf_X3_25 C dX3_endOf_14 ho0 ?_
  refine z_iload_n C dX3_endOf_17 rfl 1 rfl ?_
  refine z_ishr C dX3_endOf_18 ?_
  refine z_iconst C dX3_endOf_19 (v := 1) (by decide) ?_
  refine z_iand C dX3_endOf_20 ?_
  exact z_if_eq C dX3_endOf_21 (by decide) (fun h => z_sub [] rfl (b_X3_endOf_33 C hr hk z (q_t hf h))) (fun h => z_sub [0, 1] rfl (b_X3_endOf_24 C hr hk z o0 x1 ho0 (q_f hf h)))
def f_X3_endOf_4  (z : St) (o0 : Nat) (x1 : Int32) : Option (St × Int32) :=
  if 8 ≤ x1 then f_X3_endOf_33 z else f_X3_endOf_13 z o0 x1
theorem b_X3_endOf_4 {p : Program} {l : Launch} {e : Env} {s : State} {m : MethodId} {args : Array Value} {below : List Frame} {meth : Method} {c : Code} {g : Ga} {A : Nat → Prop} (C : Cx l g A p s m args c cX3_endOf 2 RX3 (rm_X3_endOf) (0, 0)) (hr : meth.sig.returnType = (some .int)) (hk : meth.locks = false)   (z : St) (o0 : Nat) (x1 : Int32) (ho0 : kd o0 = 3) {res : St × Int32} (hf : f_X3_endOf_4  z o0 x1 = some res) : Zj p l e (rm_X3_endOf) s m args below meth c g A 2 (0, 0) (QI g A below args s res) z 4 [(0, .ref (g.1 o0)), (1, .int x1)] [] := by
  unfold f_X3_endOf_4 at hf
  refine z_iload_n C dX3_endOf_4 rfl 1 rfl ?_
  refine z_aload_n C dX3_endOf_5 rfl 0 rfl ?_
  refine gf_X3_18 C dX3_endOf_6 ho0 ?_
  refine z_alenI C (n := 8) (v := 8) dX3_endOf_9 (rt_3_2 _ (kd_lt ho0 (by decide)) ho0) (by decide) rfl ?_
  exact z_icmp_ge C dX3_endOf_10 (by decide) (fun h => z_sub [] rfl (b_X3_endOf_33 C hr hk z (q_t hf h))) (fun h => z_sub [0, 1] rfl (b_X3_endOf_13 C hr hk z o0 x1 ho0 (q_f hf h)))
def f_X3_endOf_0  (z : St) (o0 : Nat) (x1 : Int32) : Option (St × Int32) :=
  if x1 < 0 then f_X3_endOf_33 z else f_X3_endOf_4 z o0 x1
theorem b_X3_endOf_0 {p : Program} {l : Launch} {e : Env} {s : State} {m : MethodId} {args : Array Value} {below : List Frame} {meth : Method} {c : Code} {g : Ga} {A : Nat → Prop} (C : Cx l g A p s m args c cX3_endOf 2 RX3 (rm_X3_endOf) (0, 0)) (hr : meth.sig.returnType = (some .int)) (hk : meth.locks = false)   (z : St) (o0 : Nat) (x1 : Int32) (ho0 : kd o0 = 3) {res : St × Int32} (hf : f_X3_endOf_0  z o0 x1 = some res) : Zj p l e (rm_X3_endOf) s m args below meth c g A 2 (0, 0) (QI g A below args s res) z 0 [(0, .ref (g.1 o0)), (1, .int x1)] [] := by
  unfold f_X3_endOf_0 at hf
  refine z_iload_n C dX3_endOf_0 rfl 1 rfl ?_
  exact z_if_lt C dX3_endOf_1 (by decide) (fun h => z_sub [] rfl (b_X3_endOf_33 C hr hk z (q_t hf h))) (fun h => z_sub [0, 1] rfl (b_X3_endOf_4 C hr hk z o0 x1 ho0 (q_f hf h)))
def f_X3_endOf (z : St) (o0 : Nat) (x1 : Int32) : Option (St × Int32) := f_X3_endOf_0 z o0 x1
theorem c_X3_endOf {l : Launch} {g : Ga} {A : Nat → Prop} {z : St} {o0 : Nat} {x1 : Int32} (ho0 : kd o0 = 3) {res : St × Int32} (hf : f_X3_endOf z o0 x1 = some res) : CI l g A yX3_endOf cX3_endOf 2 (some .int) rm_X3_endOf [.ref (g.1 o0), .int x1] z res :=
  e_CI (by decide) (Nat.le_of_ble_eq_true rfl) rfl (fun p e s m args below meth c C hr hk => z_sub [0, 1] rfl (b_X3_endOf_0 C hr hk z o0 x1 ho0 hf))
abbrev rm_X3_laterThan : Room := { frames := 1, cells := 0, slots := 0, locals := 21 }
def f_X3_laterThan_36 (K4 : St → Nat → Nat → Int32 → Int32 → Option (St × Int32)) (z : St) (o0 : Nat) (o1 : Nat) (x2 : Int32) (x3 : Int32) : Option (St × Int32) :=
  K4 z o0 o1 x2 (x3 + 1)
theorem b_X3_laterThan_36 {p : Program} {l : Launch} {e : Env} {s : State} {m : MethodId} {args : Array Value} {below : List Frame} {meth : Method} {c : Code} {g : Ga} {A : Nat → Prop} (C : Cx l g A p s m args c cX3_laterThan 4 RX3 (rm_X3_laterThan) (0, 0)) (hr : meth.sig.returnType = (some .int)) (hk : meth.locks = false) {K4 : St → Nat → Nat → Int32 → Int32 → Option (St × Int32)} (hK4 : ∀ (z : St) (o0 : Nat) (o1 : Nat) (x2 : Int32) (x3 : Int32) (_ : kd o0 = 3) (_ : kd o1 = 3) {res : St × Int32}, K4 z o0 o1 x2 x3 = some res → Zj p l e (rm_X3_laterThan) s m args below meth c g A 4 (0, 0) (QI g A below args s res) z 4 [(0, .ref (g.1 o0)), (1, .ref (g.1 o1)), (2, .int x2), (3, .int x3)] []) (z : St) (o0 : Nat) (o1 : Nat) (x2 : Int32) (x3 : Int32) (ho0 : kd o0 = 3) (ho1 : kd o1 = 3) {res : St × Int32} (hf : f_X3_laterThan_36 K4 z o0 o1 x2 x3 = some res) : Zj p l e (rm_X3_laterThan) s m args below meth c g A 4 (0, 0) (QI g A below args s res) z 36 [(0, .ref (g.1 o0)), (1, .ref (g.1 o1)), (2, .int x2), (3, .int x3)] [] := by
  unfold f_X3_laterThan_36 at hf
  refine z_iinc C (k := 3) (v := x3 + 1) (lv2 := [(3, .int (x3 + 1)), (0, .ref (g.1 o0)), (1, .ref (g.1 o1)), (2, .int x2)]) dX3_laterThan_36 rfl rfl (by decide) rfl ?_
  exact z_goto C dX3_laterThan_39 (by decide) (z_sub [1, 2, 3, 0] rfl (hK4 z o0 o1 x2 (x3 + 1) ho0 ho1 hf))
def f_X3_laterThan_33 (K4 : St → Nat → Nat → Int32 → Int32 → Option (St × Int32)) (z : St) (o0 : Nat) (o1 : Nat) (x2 : Int32) (x3 : Int32) : Option (St × Int32) :=
  f_X3_laterThan_36 K4 z o0 o1 (x2 + 1) x3
theorem b_X3_laterThan_33 {p : Program} {l : Launch} {e : Env} {s : State} {m : MethodId} {args : Array Value} {below : List Frame} {meth : Method} {c : Code} {g : Ga} {A : Nat → Prop} (C : Cx l g A p s m args c cX3_laterThan 4 RX3 (rm_X3_laterThan) (0, 0)) (hr : meth.sig.returnType = (some .int)) (hk : meth.locks = false) {K4 : St → Nat → Nat → Int32 → Int32 → Option (St × Int32)} (hK4 : ∀ (z : St) (o0 : Nat) (o1 : Nat) (x2 : Int32) (x3 : Int32) (_ : kd o0 = 3) (_ : kd o1 = 3) {res : St × Int32}, K4 z o0 o1 x2 x3 = some res → Zj p l e (rm_X3_laterThan) s m args below meth c g A 4 (0, 0) (QI g A below args s res) z 4 [(0, .ref (g.1 o0)), (1, .ref (g.1 o1)), (2, .int x2), (3, .int x3)] []) (z : St) (o0 : Nat) (o1 : Nat) (x2 : Int32) (x3 : Int32) (ho0 : kd o0 = 3) (ho1 : kd o1 = 3) {res : St × Int32} (hf : f_X3_laterThan_33 K4 z o0 o1 x2 x3 = some res) : Zj p l e (rm_X3_laterThan) s m args below meth c g A 4 (0, 0) (QI g A below args s res) z 33 [(0, .ref (g.1 o0)), (1, .ref (g.1 o1)), (2, .int x2), (3, .int x3)] [] := by
  unfold f_X3_laterThan_33 at hf
  refine z_iinc C (k := 2) (v := x2 + 1) (lv2 := [(2, .int (x2 + 1)), (0, .ref (g.1 o0)), (1, .ref (g.1 o1)), (3, .int x3)]) dX3_laterThan_33 rfl rfl (by decide) rfl ?_
  exact z_sub [1, 2, 0, 3] rfl (b_X3_laterThan_36 C hr hk hK4 z o0 o1 (x2 + 1) x3 ho0 ho1 hf)
def f_X3_laterThan_12 (K4 : St → Nat → Nat → Int32 → Int32 → Option (St × Int32)) (z : St) (o0 : Nat) (o1 : Nat) (x2 : Int32) (x3 : Int32) : Option (St × Int32) :=
  ((f_X3_jobAt z o0 x3).bind fun r1 => ((f_X3_beginOf r1.1 o0 r1.2).bind fun r3 => ((f_X3_jobAt r3.1 o0 x3).bind fun r5 => ((f_X3_beginOf r5.1 o1 r5.2).bind fun r7 => if r3.2 ≤ r7.2 then f_X3_laterThan_36 K4 r7.1 o0 o1 x2 x3 else f_X3_laterThan_33 K4 r7.1 o0 o1 x2 x3))))
theorem b_X3_laterThan_12 {p : Program} {l : Launch} {e : Env} {s : State} {m : MethodId} {args : Array Value} {below : List Frame} {meth : Method} {c : Code} {g : Ga} {A : Nat → Prop} (C : Cx l g A p s m args c cX3_laterThan 4 RX3 (rm_X3_laterThan) (0, 0)) (hr : meth.sig.returnType = (some .int)) (hk : meth.locks = false) {K4 : St → Nat → Nat → Int32 → Int32 → Option (St × Int32)} (hK4 : ∀ (z : St) (o0 : Nat) (o1 : Nat) (x2 : Int32) (x3 : Int32) (_ : kd o0 = 3) (_ : kd o1 = 3) {res : St × Int32}, K4 z o0 o1 x2 x3 = some res → Zj p l e (rm_X3_laterThan) s m args below meth c g A 4 (0, 0) (QI g A below args s res) z 4 [(0, .ref (g.1 o0)), (1, .ref (g.1 o1)), (2, .int x2), (3, .int x3)] []) (z : St) (o0 : Nat) (o1 : Nat) (x2 : Int32) (x3 : Int32) (ho0 : kd o0 = 3) (ho1 : kd o1 = 3) {res : St × Int32} (hf : f_X3_laterThan_12 K4 z o0 o1 x2 x3 = some res) : Zj p l e (rm_X3_laterThan) s m args below meth c g A 4 (0, 0) (QI g A below args s res) z 12 [(0, .ref (g.1 o0)), (1, .ref (g.1 o1)), (2, .int x2), (3, .int x3)] [] := by
  unfold f_X3_laterThan_12 at hf
  refine z_aload_n C dX3_laterThan_12 rfl 0 rfl ?_
  refine z_aload_n C dX3_laterThan_13 rfl 0 rfl ?_
  refine z_iload_n C dX3_laterThan_14 rfl 3 rfl ?_
  obtain ⟨r1, hc2, hf⟩ := q_bd hf
  refine z_cVi C (st := [.ref (g.1 o0)]) (c_X3_jobAt ho0 hc2) mw_X3_jobAt ml_X3_73 ho0 (by decide) rfl dX3_laterThan_15 rfl rfl rfl ⟨Nat.le_of_ble_eq_true rfl, Nat.le_of_ble_eq_true rfl⟩ rfl (Nat.le_of_ble_eq_true rfl) ?_
  obtain ⟨r3, hc4, hf⟩ := q_bd hf
  refine z_cVi C (st := []) (c_X3_beginOf ho0 hc4) mw_X3_beginOf ml_X3_76 ho0 (by decide) rfl dX3_laterThan_18 rfl rfl rfl ⟨Nat.le_of_ble_eq_true rfl, Nat.le_of_ble_eq_true rfl⟩ rfl (Nat.le_of_ble_eq_true rfl) ?_
  refine z_aload_n C dX3_laterThan_21 rfl 1 rfl ?_
  refine z_aload_n C dX3_laterThan_22 rfl 0 rfl ?_
  refine z_iload_n C dX3_laterThan_23 rfl 3 rfl ?_
  obtain ⟨r5, hc6, hf⟩ := q_bd hf
  refine z_cVi C (st := [.ref (g.1 o1), .int r3.2]) (c_X3_jobAt ho0 hc6) mw_X3_jobAt ml_X3_73 ho0 (by decide) rfl dX3_laterThan_24 rfl rfl rfl ⟨Nat.le_of_ble_eq_true rfl, Nat.le_of_ble_eq_true rfl⟩ rfl (Nat.le_of_ble_eq_true rfl) ?_
  obtain ⟨r7, hc8, hf⟩ := q_bd hf
  refine z_cVi C (st := [.int r3.2]) (c_X3_beginOf ho1 hc8) mw_X3_beginOf ml_X3_76 ho1 (by decide) rfl dX3_laterThan_27 rfl rfl rfl ⟨Nat.le_of_ble_eq_true rfl, Nat.le_of_ble_eq_true rfl⟩ rfl (Nat.le_of_ble_eq_true rfl) ?_
  exact z_icmp_le C dX3_laterThan_30 (by decide) (fun h => z_sub [0, 1, 2, 3] rfl (b_X3_laterThan_36 C hr hk hK4 r7.1 o0 o1 x2 x3 ho0 ho1 (q_t hf h))) (fun h => z_sub [0, 1, 2, 3] rfl (b_X3_laterThan_33 C hr hk hK4 r7.1 o0 o1 x2 x3 ho0 ho1 (q_f hf h)))
def f_X3_laterThan_42  (z : St) (x2 : Int32) : Option (St × Int32) :=
  some (z, x2)
theorem b_X3_laterThan_42 {p : Program} {l : Launch} {e : Env} {s : State} {m : MethodId} {args : Array Value} {below : List Frame} {meth : Method} {c : Code} {g : Ga} {A : Nat → Prop} (C : Cx l g A p s m args c cX3_laterThan 4 RX3 (rm_X3_laterThan) (0, 0)) (hr : meth.sig.returnType = (some .int)) (hk : meth.locks = false)   (z : St) (x2 : Int32)  {res : St × Int32} (hf : f_X3_laterThan_42  z x2 = some res) : Zj p l e (rm_X3_laterThan) s m args below meth c g A 4 (0, 0) (QI g A below args s res) z 42 [(2, .int x2)] [] := by
  unfold f_X3_laterThan_42 at hf
  refine z_iload_n C dX3_laterThan_42 rfl 0 rfl ?_
  cases hf
  exact z_iret C hr hk dX3_laterThan_43
def f_X3_laterThan_4  : Nat → St → Nat → Nat → Int32 → Int32 → Option (St × Int32)
  | 0, _, _, _, _, _ => none
  | n + 1, z, o0, o1, x2, x3 => if (z.1 o0 3) ≤ x3 then f_X3_laterThan_42 z x2 else f_X3_laterThan_12 (f_X3_laterThan_4 n) z o0 o1 x2 x3
theorem b_X3_laterThan_4 {p : Program} {l : Launch} {e : Env} {s : State} {m : MethodId} {args : Array Value} {below : List Frame} {meth : Method} {c : Code} {g : Ga} {A : Nat → Prop} (C : Cx l g A p s m args c cX3_laterThan 4 RX3 (rm_X3_laterThan) (0, 0)) (hr : meth.sig.returnType = (some .int)) (hk : meth.locks = false)   : ∀ (n : Nat) (z : St) (o0 : Nat) (o1 : Nat) (x2 : Int32) (x3 : Int32) (_ : kd o0 = 3) (_ : kd o1 = 3) {res : St × Int32} (_ : f_X3_laterThan_4  n z o0 o1 x2 x3 = some res), Zj p l e (rm_X3_laterThan) s m args below meth c g A 4 (0, 0) (QI g A below args s res) z 4 [(0, .ref (g.1 o0)), (1, .ref (g.1 o1)), (2, .int x2), (3, .int x3)] [] := by
  intro n
  induction n with
  | zero =>
    intro z o0 o1 x2 x3 ho0 ho1 res hf
    cases hf
  | succ n ih =>
    intro z o0 o1 x2 x3 ho0 ho1 res hf
    rw [f_X3_laterThan_4] at hf
    refine z_iload_n C dX3_laterThan_4 rfl 3 rfl ?_
    refine z_aload_n C dX3_laterThan_5 rfl 0 rfl ?_
    refine gf_X3_21 C dX3_laterThan_6 ho0 ?_
    exact z_icmp_ge C dX3_laterThan_9 (by decide) (fun h => z_sub [2] rfl (b_X3_laterThan_42 C hr hk z x2 (q_t hf h))) (fun h => z_sub [0, 1, 2, 3] rfl (b_X3_laterThan_12 C hr hk ih z o0 o1 x2 x3 ho0 ho1 (q_f hf h)))
def f_X3_laterThan_0  (z : St) (o0 : Nat) (o1 : Nat) : Option (St × Int32) :=
  f_X3_laterThan_4 FU z o0 o1 0 0
theorem b_X3_laterThan_0 {p : Program} {l : Launch} {e : Env} {s : State} {m : MethodId} {args : Array Value} {below : List Frame} {meth : Method} {c : Code} {g : Ga} {A : Nat → Prop} (C : Cx l g A p s m args c cX3_laterThan 4 RX3 (rm_X3_laterThan) (0, 0)) (hr : meth.sig.returnType = (some .int)) (hk : meth.locks = false)   (z : St) (o0 : Nat) (o1 : Nat) (ho0 : kd o0 = 3) (ho1 : kd o1 = 3) {res : St × Int32} (hf : f_X3_laterThan_0  z o0 o1 = some res) : Zj p l e (rm_X3_laterThan) s m args below meth c g A 4 (0, 0) (QI g A below args s res) z 0 [(0, .ref (g.1 o0)), (1, .ref (g.1 o1))] [] := by
  unfold f_X3_laterThan_0 at hf
  refine z_iconst C dX3_laterThan_0 (v := 0) (by decide) ?_
  refine z_istore_n C (lv2 := [(2, .int 0), (0, .ref (g.1 o0)), (1, .ref (g.1 o1))]) dX3_laterThan_1 rfl (by decide) rfl ?_
  refine z_iconst C dX3_laterThan_2 (v := 0) (by decide) ?_
  refine z_istore_n C (lv2 := [(3, .int 0), (2, .int 0), (0, .ref (g.1 o0)), (1, .ref (g.1 o1))]) dX3_laterThan_3 rfl (by decide) rfl ?_
  exact z_sub [2, 3, 1, 0] rfl (b_X3_laterThan_4 C hr hk FU z o0 o1 0 0 ho0 ho1 hf)
def f_X3_laterThan (z : St) (o0 : Nat) (o1 : Nat) : Option (St × Int32) := f_X3_laterThan_0 z o0 o1
theorem c_X3_laterThan {l : Launch} {g : Ga} {A : Nat → Prop} {z : St} {o0 : Nat} {o1 : Nat} (ho0 : kd o0 = 3) (ho1 : kd o1 = 3) {res : St × Int32} (hf : f_X3_laterThan z o0 o1 = some res) : CI l g A yX3_laterThan cX3_laterThan 4 (some .int) rm_X3_laterThan [.ref (g.1 o0), .ref (g.1 o1)] z res :=
  e_CI (by decide) (Nat.le_of_ble_eq_true rfl) rfl (fun p e s m args below meth c C hr hk => z_sub [0, 1] rfl (b_X3_laterThan_0 C hr hk z o0 o1 ho0 ho1 hf))
abbrev rm_X3_longestWait : Room := { frames := 1, cells := 0, slots := 0, locals := 21 }
def f_X3_longestWait_12 (K4 : St → Nat → Nat → Int32 → Int32 → Option (St × Int32)) (z : St) (o0 : Nat) (o1 : Nat) (x2 : Int32) (x3 : Int32) : Option (St × Int32) :=
  ((f_X3_jobAt z o0 x3).bind fun r1 => ((f_X3_beginOf r1.1 o0 r1.2).bind fun r3 => ((f_X3_jobAt r3.1 o0 x3).bind fun r5 => ((f_X4_comesOf r5.1 o1 r5.2).bind fun r7 => K4 r7.1 o0 o1 (imax x2 (r3.2 - r7.2)) (x3 + 1)))))
theorem b_X3_longestWait_12 {p : Program} {l : Launch} {e : Env} {s : State} {m : MethodId} {args : Array Value} {below : List Frame} {meth : Method} {c : Code} {g : Ga} {A : Nat → Prop} (C : Cx l g A p s m args c cX3_longestWait 4 RX3 (rm_X3_longestWait) (0, 0)) (hr : meth.sig.returnType = (some .int)) (hk : meth.locks = false) {K4 : St → Nat → Nat → Int32 → Int32 → Option (St × Int32)} (hK4 : ∀ (z : St) (o0 : Nat) (o1 : Nat) (x2 : Int32) (x3 : Int32) (_ : kd o0 = 3) (_ : kd o1 = 4) {res : St × Int32}, K4 z o0 o1 x2 x3 = some res → Zj p l e (rm_X3_longestWait) s m args below meth c g A 4 (0, 0) (QI g A below args s res) z 4 [(0, .ref (g.1 o0)), (1, .ref (g.1 o1)), (2, .int x2), (3, .int x3)] []) (z : St) (o0 : Nat) (o1 : Nat) (x2 : Int32) (x3 : Int32) (ho0 : kd o0 = 3) (ho1 : kd o1 = 4) {res : St × Int32} (hf : f_X3_longestWait_12 K4 z o0 o1 x2 x3 = some res) : Zj p l e (rm_X3_longestWait) s m args below meth c g A 4 (0, 0) (QI g A below args s res) z 12 [(0, .ref (g.1 o0)), (1, .ref (g.1 o1)), (2, .int x2), (3, .int x3)] [] := by
  unfold f_X3_longestWait_12 at hf
  refine z_iload_n C dX3_longestWait_12 rfl 2 rfl ?_
  refine z_aload_n C dX3_longestWait_13 rfl 0 rfl ?_
  refine z_aload_n C dX3_longestWait_14 rfl 0 rfl ?_
  refine z_iload_n C dX3_longestWait_15 rfl 3 rfl ?_
  obtain ⟨r1, hc2, hf⟩ := q_bd hf
  refine z_cVi C (st := [.ref (g.1 o0), .int x2]) (c_X3_jobAt ho0 hc2) mw_X3_jobAt ml_X3_73 ho0 (by decide) rfl dX3_longestWait_16 rfl rfl rfl ⟨Nat.le_of_ble_eq_true rfl, Nat.le_of_ble_eq_true rfl⟩ rfl (Nat.le_of_ble_eq_true rfl) ?_
  obtain ⟨r3, hc4, hf⟩ := q_bd hf
  refine z_cVi C (st := [.int x2]) (c_X3_beginOf ho0 hc4) mw_X3_beginOf ml_X3_76 ho0 (by decide) rfl dX3_longestWait_19 rfl rfl rfl ⟨Nat.le_of_ble_eq_true rfl, Nat.le_of_ble_eq_true rfl⟩ rfl (Nat.le_of_ble_eq_true rfl) ?_
  refine z_aload_n C dX3_longestWait_22 rfl 1 rfl ?_
  refine z_aload_n C dX3_longestWait_23 rfl 0 rfl ?_
  refine z_iload_n C dX3_longestWait_24 rfl 3 rfl ?_
  obtain ⟨r5, hc6, hf⟩ := q_bd hf
  refine z_cVi C (st := [.ref (g.1 o1), .int r3.2, .int x2]) (c_X3_jobAt ho0 hc6) mw_X3_jobAt ml_X3_73 ho0 (by decide) rfl dX3_longestWait_25 rfl rfl rfl ⟨Nat.le_of_ble_eq_true rfl, Nat.le_of_ble_eq_true rfl⟩ rfl (Nat.le_of_ble_eq_true rfl) ?_
  obtain ⟨r7, hc8, hf⟩ := q_bd hf
  refine z_cVi C (st := [.int r3.2, .int x2]) (c_X4_comesOf ho1 hc8) mw_X4_comesOf ml_X3_43 ho1 (by decide) rfl dX3_longestWait_28 rfl rfl rfl ⟨Nat.le_of_ble_eq_true rfl, Nat.le_of_ble_eq_true rfl⟩ rfl (Nat.le_of_ble_eq_true rfl) ?_
  refine z_isub C dX3_longestWait_31 ?_
  refine z_mmax C (st := []) dX3_longestWait_32 ml_X3_47 mm_max.1 mm_i mm_max.2 ⟨Nat.le_of_ble_eq_true rfl, Nat.le_of_ble_eq_true rfl⟩ (Nat.le_of_ble_eq_true rfl) ?_
  refine z_istore_n C (lv2 := [(2, .int (imax x2 (r3.2 - r7.2))), (0, .ref (g.1 o0)), (1, .ref (g.1 o1)), (3, .int x3)]) dX3_longestWait_35 rfl (by decide) rfl ?_
  refine z_iinc C (k := 3) (v := x3 + 1) (lv2 := [(3, .int (x3 + 1)), (2, .int (imax x2 (r3.2 - r7.2))), (0, .ref (g.1 o0)), (1, .ref (g.1 o1))]) dX3_longestWait_36 rfl rfl (by decide) rfl ?_
  exact z_goto C dX3_longestWait_39 (by decide) (z_sub [2, 3, 1, 0] rfl (hK4 r7.1 o0 o1 (imax x2 (r3.2 - r7.2)) (x3 + 1) ho0 ho1 hf))
def f_X3_longestWait_42  (z : St) (x2 : Int32) : Option (St × Int32) :=
  some (z, x2)
theorem b_X3_longestWait_42 {p : Program} {l : Launch} {e : Env} {s : State} {m : MethodId} {args : Array Value} {below : List Frame} {meth : Method} {c : Code} {g : Ga} {A : Nat → Prop} (C : Cx l g A p s m args c cX3_longestWait 4 RX3 (rm_X3_longestWait) (0, 0)) (hr : meth.sig.returnType = (some .int)) (hk : meth.locks = false)   (z : St) (x2 : Int32)  {res : St × Int32} (hf : f_X3_longestWait_42  z x2 = some res) : Zj p l e (rm_X3_longestWait) s m args below meth c g A 4 (0, 0) (QI g A below args s res) z 42 [(2, .int x2)] [] := by
  unfold f_X3_longestWait_42 at hf
  refine z_iload_n C dX3_longestWait_42 rfl 0 rfl ?_
  cases hf
  exact z_iret C hr hk dX3_longestWait_43
def f_X3_longestWait_4  : Nat → St → Nat → Nat → Int32 → Int32 → Option (St × Int32)
  | 0, _, _, _, _, _ => none
  | n + 1, z, o0, o1, x2, x3 => if (z.1 o0 3) ≤ x3 then f_X3_longestWait_42 z x2 else f_X3_longestWait_12 (f_X3_longestWait_4 n) z o0 o1 x2 x3
theorem b_X3_longestWait_4 {p : Program} {l : Launch} {e : Env} {s : State} {m : MethodId} {args : Array Value} {below : List Frame} {meth : Method} {c : Code} {g : Ga} {A : Nat → Prop} (C : Cx l g A p s m args c cX3_longestWait 4 RX3 (rm_X3_longestWait) (0, 0)) (hr : meth.sig.returnType = (some .int)) (hk : meth.locks = false)   : ∀ (n : Nat) (z : St) (o0 : Nat) (o1 : Nat) (x2 : Int32) (x3 : Int32) (_ : kd o0 = 3) (_ : kd o1 = 4) {res : St × Int32} (_ : f_X3_longestWait_4  n z o0 o1 x2 x3 = some res), Zj p l e (rm_X3_longestWait) s m args below meth c g A 4 (0, 0) (QI g A below args s res) z 4 [(0, .ref (g.1 o0)), (1, .ref (g.1 o1)), (2, .int x2), (3, .int x3)] [] := by
  intro n
  induction n with
  | zero =>
    intro z o0 o1 x2 x3 ho0 ho1 res hf
    cases hf
  | succ n ih =>
    intro z o0 o1 x2 x3 ho0 ho1 res hf
    rw [f_X3_longestWait_4] at hf
    refine z_iload_n C dX3_longestWait_4 rfl 3 rfl ?_
    refine z_aload_n C dX3_longestWait_5 rfl 0 rfl ?_
    refine gf_X3_21 C dX3_longestWait_6 ho0 ?_
    exact z_icmp_ge C dX3_longestWait_9 (by decide) (fun h => z_sub [2] rfl (b_X3_longestWait_42 C hr hk z x2 (q_t hf h))) (fun h => z_sub [0, 1, 2, 3] rfl (b_X3_longestWait_12 C hr hk ih z o0 o1 x2 x3 ho0 ho1 (q_f hf h)))
def f_X3_longestWait_0  (z : St) (o0 : Nat) (o1 : Nat) : Option (St × Int32) :=
  f_X3_longestWait_4 FU z o0 o1 0 0
theorem b_X3_longestWait_0 {p : Program} {l : Launch} {e : Env} {s : State} {m : MethodId} {args : Array Value} {below : List Frame} {meth : Method} {c : Code} {g : Ga} {A : Nat → Prop} (C : Cx l g A p s m args c cX3_longestWait 4 RX3 (rm_X3_longestWait) (0, 0)) (hr : meth.sig.returnType = (some .int)) (hk : meth.locks = false)   (z : St) (o0 : Nat) (o1 : Nat) (ho0 : kd o0 = 3) (ho1 : kd o1 = 4) {res : St × Int32} (hf : f_X3_longestWait_0  z o0 o1 = some res) : Zj p l e (rm_X3_longestWait) s m args below meth c g A 4 (0, 0) (QI g A below args s res) z 0 [(0, .ref (g.1 o0)), (1, .ref (g.1 o1))] [] := by
  unfold f_X3_longestWait_0 at hf
  refine z_iconst C dX3_longestWait_0 (v := 0) (by decide) ?_
  refine z_istore_n C (lv2 := [(2, .int 0), (0, .ref (g.1 o0)), (1, .ref (g.1 o1))]) dX3_longestWait_1 rfl (by decide) rfl ?_
  refine z_iconst C dX3_longestWait_2 (v := 0) (by decide) ?_
  refine z_istore_n C (lv2 := [(3, .int 0), (2, .int 0), (0, .ref (g.1 o0)), (1, .ref (g.1 o1))]) dX3_longestWait_3 rfl (by decide) rfl ?_
  exact z_sub [2, 3, 1, 0] rfl (b_X3_longestWait_4 C hr hk FU z o0 o1 0 0 ho0 ho1 hf)
def f_X3_longestWait (z : St) (o0 : Nat) (o1 : Nat) : Option (St × Int32) := f_X3_longestWait_0 z o0 o1
theorem c_X3_longestWait {l : Launch} {g : Ga} {A : Nat → Prop} {z : St} {o0 : Nat} {o1 : Nat} (ho0 : kd o0 = 3) (ho1 : kd o1 = 4) {res : St × Int32} (hf : f_X3_longestWait z o0 o1 = some res) : CI l g A yX3_longestWait cX3_longestWait 4 (some .int) rm_X3_longestWait [.ref (g.1 o0), .ref (g.1 o1)] z res :=
  e_CI (by decide) (Nat.le_of_ble_eq_true rfl) rfl (fun p e s m args below meth c C hr hk => z_sub [0, 1] rfl (b_X3_longestWait_0 C hr hk z o0 o1 ho0 ho1 hf))
