abbrev rm_J6_bitCount_0f7a4 : Room := { frames := 0, cells := 0, slots := 0, locals := 0 }
def f_J6_bitCount_0f7a4_0  (z : St) (x0 : Int32) : Option (St × Int32) :=
  some (z, (((((((x0 - ((ius x0 1) &&& 1431655765)) &&& 858993459) + ((ius (x0 - ((ius x0 1) &&& 1431655765)) 2) &&& 858993459)) + (ius (((x0 - ((ius x0 1) &&& 1431655765)) &&& 858993459) + ((ius (x0 - ((ius x0 1) &&& 1431655765)) 2) &&& 858993459)) 4)) &&& 252645135) + (ius (((((x0 - ((ius x0 1) &&& 1431655765)) &&& 858993459) + ((ius (x0 - ((ius x0 1) &&& 1431655765)) 2) &&& 858993459)) + (ius (((x0 - ((ius x0 1) &&& 1431655765)) &&& 858993459) + ((ius (x0 - ((ius x0 1) &&& 1431655765)) 2) &&& 858993459)) 4)) &&& 252645135) 8)) + (ius ((((((x0 - ((ius x0 1) &&& 1431655765)) &&& 858993459) + ((ius (x0 - ((ius x0 1) &&& 1431655765)) 2) &&& 858993459)) + (ius (((x0 - ((ius x0 1) &&& 1431655765)) &&& 858993459) + ((ius (x0 - ((ius x0 1) &&& 1431655765)) 2) &&& 858993459)) 4)) &&& 252645135) + (ius (((((x0 - ((ius x0 1) &&& 1431655765)) &&& 858993459) + ((ius (x0 - ((ius x0 1) &&& 1431655765)) 2) &&& 858993459)) + (ius (((x0 - ((ius x0 1) &&& 1431655765)) &&& 858993459) + ((ius (x0 - ((ius x0 1) &&& 1431655765)) 2) &&& 858993459)) 4)) &&& 252645135) 8)) 16)) &&& 63)
theorem b_J6_bitCount_0f7a4_0 {p : Program} {l : Launch} {e : Env} {s : State} {m : MethodId} {args : Array Value} {below : List Frame} {meth : Method} {c : Code} {g : Ga} {A : Nat → Prop} (C : Cx l g A p s m args c cJ6_bitCount_0f7a4 1 RJ6 (rm_J6_bitCount_0f7a4) (0, 0)) (hr : meth.sig.returnType = (some .int)) (hk : meth.locks = false)   (z : St) (x0 : Int32)  {res : St × Int32} (hf : f_J6_bitCount_0f7a4_0  z x0 = some res) : Zj p l e (rm_J6_bitCount_0f7a4) s m args below meth c g A 1 (0, 0) (QI g A below args s res) z 0 [(0, .int x0)] [] := by
  unfold f_J6_bitCount_0f7a4_0 at hf
  refine z_iload_n C dJ6_bitCount_0f7a4_0 rfl 0 rfl ?_
  refine z_iload_n C dJ6_bitCount_0f7a4_1 rfl 0 rfl ?_
  refine z_iconst C dJ6_bitCount_0f7a4_2 (v := 1) (by decide) ?_
  refine z_iushr C dJ6_bitCount_0f7a4_3 ?_
  refine z_ldcw C dJ6_bitCount_0f7a4_4 kc_J6_265 ?_
  refine z_iand C dJ6_bitCount_0f7a4_7 ?_
  refine z_isub C dJ6_bitCount_0f7a4_8 ?_
  refine z_istore_n C (lv2 := [(0, .int (x0 - ((ius x0 1) &&& 1431655765)))]) dJ6_bitCount_0f7a4_9 rfl (by decide) rfl ?_
  refine z_iload_n C dJ6_bitCount_0f7a4_10 rfl 0 rfl ?_
  refine z_ldcw C dJ6_bitCount_0f7a4_11 kc_J6_266 ?_
  refine z_iand C dJ6_bitCount_0f7a4_14 ?_
  refine z_iload_n C dJ6_bitCount_0f7a4_15 rfl 0 rfl ?_
  refine z_iconst C dJ6_bitCount_0f7a4_16 (v := 2) (by decide) ?_
  refine z_iushr C dJ6_bitCount_0f7a4_17 ?_
  refine z_ldcw C dJ6_bitCount_0f7a4_18 kc_J6_266 ?_
  refine z_iand C dJ6_bitCount_0f7a4_21 ?_
  refine z_iadd C dJ6_bitCount_0f7a4_22 ?_
  refine z_istore_n C (lv2 := [(0, .int (((x0 - ((ius x0 1) &&& 1431655765)) &&& 858993459) + ((ius (x0 - ((ius x0 1) &&& 1431655765)) 2) &&& 858993459)))]) dJ6_bitCount_0f7a4_23 rfl (by decide) rfl ?_
  refine z_iload_n C dJ6_bitCount_0f7a4_24 rfl 0 rfl ?_
  refine z_iload_n C dJ6_bitCount_0f7a4_25 rfl 0 rfl ?_
  refine z_iconst C dJ6_bitCount_0f7a4_26 (v := 4) (by decide) ?_
  refine z_iushr C dJ6_bitCount_0f7a4_27 ?_
  refine z_iadd C dJ6_bitCount_0f7a4_28 ?_
  refine z_ldcw C dJ6_bitCount_0f7a4_29 kc_J6_267 ?_
  refine z_iand C dJ6_bitCount_0f7a4_32 ?_
  refine z_istore_n C (lv2 := [(0, .int (((((x0 - ((ius x0 1) &&& 1431655765)) &&& 858993459) + ((ius (x0 - ((ius x0 1) &&& 1431655765)) 2) &&& 858993459)) + (ius (((x0 - ((ius x0 1) &&& 1431655765)) &&& 858993459) + ((ius (x0 - ((ius x0 1) &&& 1431655765)) 2) &&& 858993459)) 4)) &&& 252645135))]) dJ6_bitCount_0f7a4_33 rfl (by decide) rfl ?_
  refine z_iload_n C dJ6_bitCount_0f7a4_34 rfl 0 rfl ?_
  refine z_iload_n C dJ6_bitCount_0f7a4_35 rfl 0 rfl ?_
  refine z_bipush C dJ6_bitCount_0f7a4_36 (v := 8) (by decide) ?_
  refine z_iushr C dJ6_bitCount_0f7a4_38 ?_
  refine z_iadd C dJ6_bitCount_0f7a4_39 ?_
  refine z_istore_n C (lv2 := [(0, .int ((((((x0 - ((ius x0 1) &&& 1431655765)) &&& 858993459) + ((ius (x0 - ((ius x0 1) &&& 1431655765)) 2) &&& 858993459)) + (ius (((x0 - ((ius x0 1) &&& 1431655765)) &&& 858993459) + ((ius (x0 - ((ius x0 1) &&& 1431655765)) 2) &&& 858993459)) 4)) &&& 252645135) + (ius (((((x0 - ((ius x0 1) &&& 1431655765)) &&& 858993459) + ((ius (x0 - ((ius x0 1) &&& 1431655765)) 2) &&& 858993459)) + (ius (((x0 - ((ius x0 1) &&& 1431655765)) &&& 858993459) + ((ius (x0 - ((ius x0 1) &&& 1431655765)) 2) &&& 858993459)) 4)) &&& 252645135) 8)))]) dJ6_bitCount_0f7a4_40 rfl (by decide) rfl ?_
  refine z_iload_n C dJ6_bitCount_0f7a4_41 rfl 0 rfl ?_
  refine z_iload_n C dJ6_bitCount_0f7a4_42 rfl 0 rfl ?_
  refine z_bipush C dJ6_bitCount_0f7a4_43 (v := 16) (by decide) ?_
  refine z_iushr C dJ6_bitCount_0f7a4_45 ?_
  refine z_iadd C dJ6_bitCount_0f7a4_46 ?_
  refine z_istore_n C (lv2 := [(0, .int (((((((x0 - ((ius x0 1) &&& 1431655765)) &&& 858993459) + ((ius (x0 - ((ius x0 1) &&& 1431655765)) 2) &&& 858993459)) + (ius (((x0 - ((ius x0 1) &&& 1431655765)) &&& 858993459) + ((ius (x0 - ((ius x0 1) &&& 1431655765)) 2) &&& 858993459)) 4)) &&& 252645135) + (ius (((((x0 - ((ius x0 1) &&& 1431655765)) &&& 858993459) + ((ius (x0 - ((ius x0 1) &&& 1431655765)) 2) &&& 858993459)) + (ius (((x0 - ((ius x0 1) &&& 1431655765)) &&& 858993459) + ((ius (x0 - ((ius x0 1) &&& 1431655765)) 2) &&& 858993459)) 4)) &&& 252645135) 8)) + (ius ((((((x0 - ((ius x0 1) &&& 1431655765)) &&& 858993459) + ((ius (x0 - ((ius x0 1) &&& 1431655765)) 2) &&& 858993459)) + (ius (((x0 - ((ius x0 1) &&& 1431655765)) &&& 858993459) + ((ius (x0 - ((ius x0 1) &&& 1431655765)) 2) &&& 858993459)) 4)) &&& 252645135) + (ius (((((x0 - ((ius x0 1) &&& 1431655765)) &&& 858993459) + ((ius (x0 - ((ius x0 1) &&& 1431655765)) 2) &&& 858993459)) + (ius (((x0 - ((ius x0 1) &&& 1431655765)) &&& 858993459) + ((ius (x0 - ((ius x0 1) &&& 1431655765)) 2) &&& 858993459)) 4)) &&& 252645135) 8)) 16)))]) dJ6_bitCount_0f7a4_47 rfl (by decide) rfl ?_
  refine z_iload_n C dJ6_bitCount_0f7a4_48 rfl 0 rfl ?_
  refine z_bipush C dJ6_bitCount_0f7a4_49 (v := 63) (by decide) ?_
  refine z_iand C dJ6_bitCount_0f7a4_51 ?_
  cases hf
  exact z_iret C hr hk dJ6_bitCount_0f7a4_52
def f_J6_bitCount_0f7a4 (z : St) (x0 : Int32) : Option (St × Int32) := f_J6_bitCount_0f7a4_0 z x0
theorem c_J6_bitCount_0f7a4 {l : Launch} {g : Ga} {A : Nat → Prop} {z : St} {x0 : Int32}  {res : St × Int32} (hf : f_J6_bitCount_0f7a4 z x0 = some res) : CI l g A yJ6_bitCount_0f7a4 cJ6_bitCount_0f7a4 1 (some .int) rm_J6_bitCount_0f7a4 [.int x0] z res :=
  e_CI (by decide) (Nat.le_of_ble_eq_true rfl) rfl (fun p e s m args below meth c C hr hk => z_sub [0] rfl (b_J6_bitCount_0f7a4_0 C hr hk z x0  hf))
abbrev rm_J7_fill_d0a16 : Room := { frames := 0, cells := 0, slots := 0, locals := 0 }
def f_J7_fill_d0a16_12 (K6 : St → Nat → Int64 → Int32 → Int32 → Option (St)) (z : St) (o0 : Nat) (y1 : Int64) (x3 : Int32) (x4 : Int32) : Option (St) :=
  if inb x3 40 = true then (K6 (zL z o0 (Int32.toNatClampNeg x3) y1) o0 y1 (x3 + 1) x4) else none
theorem b_J7_fill_d0a16_12 {p : Program} {l : Launch} {e : Env} {s : State} {m : MethodId} {args : Array Value} {below : List Frame} {meth : Method} {c : Code} {g : Ga} {A : Nat → Prop} (C : Cx l g A p s m args c cJ7_fill_d0a16 5 RJ7 (rm_J7_fill_d0a16) (0, 0)) (hr : meth.sig.returnType = none) (hk : meth.locks = false) {K6 : St → Nat → Int64 → Int32 → Int32 → Option (St)} (hK6 : ∀ (z : St) (o0 : Nat) (y1 : Int64) (x3 : Int32) (x4 : Int32) (_ : kd o0 = 100040) {res : St}, K6 z o0 y1 x3 x4 = some res → Zj p l e (rm_J7_fill_d0a16) s m args below meth c g A 5 (0, 0) (QV g A below args s res) z 6 [(0, .ref (g.1 o0)), (1, .long y1), (3, .int x3), (4, .int x4)] []) (z : St) (o0 : Nat) (y1 : Int64) (x3 : Int32) (x4 : Int32) (ho0 : kd o0 = 100040) {res : St} (hf : f_J7_fill_d0a16_12 K6 z o0 y1 x3 x4 = some res) : Zj p l e (rm_J7_fill_d0a16) s m args below meth c g A 5 (0, 0) (QV g A below args s res) z 12 [(0, .ref (g.1 o0)), (1, .long y1), (3, .int x3), (4, .int x4)] [] := by
  unfold f_J7_fill_d0a16_12 at hf
  refine z_aload_n C dJ7_fill_d0a16_12 rfl 0 rfl ?_
  refine z_iload_n C dJ7_fill_d0a16_13 rfl 2 rfl ?_
  refine z_lload_n C dJ7_fill_d0a16_14 rfl 1 rfl ?_
  obtain ⟨h1, hf⟩ := q_ck hf
  refine z_last C (n := 40) dJ7_fill_d0a16_15 ho0 (by decide) h1 ?_
  refine z_iinc C (k := 2) (v := x3 + 1) (lv2 := [(3, .int (x3 + 1)), (0, .ref (g.1 o0)), (1, .long y1), (4, .int x4)]) dJ7_fill_d0a16_16 rfl rfl (by decide) rfl ?_
  exact z_goto C dJ7_fill_d0a16_19 (by decide) (z_sub [1, 2, 0, 3] rfl (hK6 (zL z o0 (Int32.toNatClampNeg x3) y1) o0 y1 (x3 + 1) x4 ho0 hf))
def f_J7_fill_d0a16_22  (z : St)  : Option (St) :=
  some z
theorem b_J7_fill_d0a16_22 {p : Program} {l : Launch} {e : Env} {s : State} {m : MethodId} {args : Array Value} {below : List Frame} {meth : Method} {c : Code} {g : Ga} {A : Nat → Prop} (C : Cx l g A p s m args c cJ7_fill_d0a16 5 RJ7 (rm_J7_fill_d0a16) (0, 0)) (hr : meth.sig.returnType = none) (hk : meth.locks = false)   (z : St)   {res : St} (hf : f_J7_fill_d0a16_22  z  = some res) : Zj p l e (rm_J7_fill_d0a16) s m args below meth c g A 5 (0, 0) (QV g A below args s res) z 22 [] [] := by
  unfold f_J7_fill_d0a16_22 at hf
  cases hf
  exact z_vret C hr hk dJ7_fill_d0a16_22
def f_J7_fill_d0a16_6  : Nat → St → Nat → Int64 → Int32 → Int32 → Option (St)
  | 0, _, _, _, _, _ => none
  | n + 1, z, o0, y1, x3, x4 => if x4 ≤ x3 then f_J7_fill_d0a16_22 z else f_J7_fill_d0a16_12 (f_J7_fill_d0a16_6 n) z o0 y1 x3 x4
theorem b_J7_fill_d0a16_6 {p : Program} {l : Launch} {e : Env} {s : State} {m : MethodId} {args : Array Value} {below : List Frame} {meth : Method} {c : Code} {g : Ga} {A : Nat → Prop} (C : Cx l g A p s m args c cJ7_fill_d0a16 5 RJ7 (rm_J7_fill_d0a16) (0, 0)) (hr : meth.sig.returnType = none) (hk : meth.locks = false)   : ∀ (n : Nat) (z : St) (o0 : Nat) (y1 : Int64) (x3 : Int32) (x4 : Int32) (_ : kd o0 = 100040) {res : St} (_ : f_J7_fill_d0a16_6  n z o0 y1 x3 x4 = some res), Zj p l e (rm_J7_fill_d0a16) s m args below meth c g A 5 (0, 0) (QV g A below args s res) z 6 [(0, .ref (g.1 o0)), (1, .long y1), (3, .int x3), (4, .int x4)] [] := by
  intro n
  induction n with
  | zero =>
    intro z o0 y1 x3 x4 ho0 res hf
    cases hf
  | succ n ih =>
    intro z o0 y1 x3 x4 ho0 res hf
    rw [f_J7_fill_d0a16_6] at hf
    refine z_iload_n C dJ7_fill_d0a16_6 rfl 2 rfl ?_
    refine z_iload C dJ7_fill_d0a16_7 3 rfl ?_
    exact z_icmp_ge C dJ7_fill_d0a16_9 (by decide) (fun h => z_sub [] rfl (b_J7_fill_d0a16_22 C hr hk z (q_t hf h))) (fun h => z_sub [0, 1, 2, 3] rfl (b_J7_fill_d0a16_12 C hr hk ih z o0 y1 x3 x4 ho0 (q_f hf h)))
def f_J7_fill_d0a16_0  (z : St) (o0 : Nat) (y1 : Int64) : Option (St) :=
  f_J7_fill_d0a16_6 FU z o0 y1 0 40
theorem b_J7_fill_d0a16_0 {p : Program} {l : Launch} {e : Env} {s : State} {m : MethodId} {args : Array Value} {below : List Frame} {meth : Method} {c : Code} {g : Ga} {A : Nat → Prop} (C : Cx l g A p s m args c cJ7_fill_d0a16 5 RJ7 (rm_J7_fill_d0a16) (0, 0)) (hr : meth.sig.returnType = none) (hk : meth.locks = false)   (z : St) (o0 : Nat) (y1 : Int64) (ho0 : kd o0 = 100040) {res : St} (hf : f_J7_fill_d0a16_0  z o0 y1 = some res) : Zj p l e (rm_J7_fill_d0a16) s m args below meth c g A 5 (0, 0) (QV g A below args s res) z 0 [(0, .ref (g.1 o0)), (1, .long y1)] [] := by
  unfold f_J7_fill_d0a16_0 at hf
  refine z_iconst C dJ7_fill_d0a16_0 (v := 0) (by decide) ?_
  refine z_istore_n C (lv2 := [(3, .int 0), (0, .ref (g.1 o0)), (1, .long y1)]) dJ7_fill_d0a16_1 rfl (by decide) rfl ?_
  refine z_aload_n C dJ7_fill_d0a16_2 rfl 1 rfl ?_
  refine z_alenJ C (n := 40) (v := 40) dJ7_fill_d0a16_3 ho0 (by decide) rfl ?_
  refine z_istore C (lv2 := [(4, .int 40), (3, .int 0), (0, .ref (g.1 o0)), (1, .long y1)]) dJ7_fill_d0a16_4 (by decide) rfl ?_
  exact z_sub [2, 3, 1, 0] rfl (b_J7_fill_d0a16_6 C hr hk FU z o0 y1 0 40 ho0 hf)
def f_J7_fill_d0a16 (z : St) (o0 : Nat) (y1 : Int64) : Option (St) := f_J7_fill_d0a16_0 z o0 y1
theorem c_J7_fill_d0a16 {l : Launch} {g : Ga} {A : Nat → Prop} {z : St} {o0 : Nat} {y1 : Int64} (ho0 : kd o0 = 100040) {res : St} (hf : f_J7_fill_d0a16 z o0 y1 = some res) : CV l g A yJ7_fill_d0a16 cJ7_fill_d0a16 5 none rm_J7_fill_d0a16 [.ref (g.1 o0), .long y1] z res :=
  e_CV (by decide) (Nat.le_of_ble_eq_true rfl) rfl (fun p e s m args below meth c C hr hk => z_sub [0, 1] rfl (b_J7_fill_d0a16_0 C hr hk z o0 y1 ho0 hf))
abbrev rm_J7_fill_53178 : Room := { frames := 0, cells := 0, slots := 0, locals := 0 }
def f_J7_fill_53178_10 (K5 : St → Nat → Int32 → Int32 → Int32 → Option (St)) (z : St) (o0 : Nat) (x1 : Int32) (x2 : Int32) (x3 : Int32) : Option (St) :=
  if inb x2 512 = true then (K5 (zI z o0 (Int32.toNatClampNeg x2) x1) o0 x1 (x2 + 1) x3) else none
theorem b_J7_fill_53178_10 {p : Program} {l : Launch} {e : Env} {s : State} {m : MethodId} {args : Array Value} {below : List Frame} {meth : Method} {c : Code} {g : Ga} {A : Nat → Prop} (C : Cx l g A p s m args c cJ7_fill_53178 4 RJ7 (rm_J7_fill_53178) (0, 0)) (hr : meth.sig.returnType = none) (hk : meth.locks = false) {K5 : St → Nat → Int32 → Int32 → Int32 → Option (St)} (hK5 : ∀ (z : St) (o0 : Nat) (x1 : Int32) (x2 : Int32) (x3 : Int32) (_ : kd o0 = 1512) {res : St}, K5 z o0 x1 x2 x3 = some res → Zj p l e (rm_J7_fill_53178) s m args below meth c g A 4 (0, 0) (QV g A below args s res) z 5 [(0, .ref (g.1 o0)), (1, .int x1), (2, .int x2), (3, .int x3)] []) (z : St) (o0 : Nat) (x1 : Int32) (x2 : Int32) (x3 : Int32) (ho0 : kd o0 = 1512) {res : St} (hf : f_J7_fill_53178_10 K5 z o0 x1 x2 x3 = some res) : Zj p l e (rm_J7_fill_53178) s m args below meth c g A 4 (0, 0) (QV g A below args s res) z 10 [(0, .ref (g.1 o0)), (1, .int x1), (2, .int x2), (3, .int x3)] [] := by
  unfold f_J7_fill_53178_10 at hf
  refine z_aload_n C dJ7_fill_53178_10 rfl 0 rfl ?_
  refine z_iload_n C dJ7_fill_53178_11 rfl 2 rfl ?_
  refine z_iload_n C dJ7_fill_53178_12 rfl 1 rfl ?_
  obtain ⟨h1, hf⟩ := q_ck hf
  refine z_iast C (n := 512) dJ7_fill_53178_13 ho0 (by decide) h1 ?_
  refine z_iinc C (k := 2) (v := x2 + 1) (lv2 := [(2, .int (x2 + 1)), (0, .ref (g.1 o0)), (1, .int x1), (3, .int x3)]) dJ7_fill_53178_14 rfl rfl (by decide) rfl ?_
  exact z_goto C dJ7_fill_53178_17 (by decide) (z_sub [1, 2, 0, 3] rfl (hK5 (zI z o0 (Int32.toNatClampNeg x2) x1) o0 x1 (x2 + 1) x3 ho0 hf))
def f_J7_fill_53178_20  (z : St)  : Option (St) :=
  some z
theorem b_J7_fill_53178_20 {p : Program} {l : Launch} {e : Env} {s : State} {m : MethodId} {args : Array Value} {below : List Frame} {meth : Method} {c : Code} {g : Ga} {A : Nat → Prop} (C : Cx l g A p s m args c cJ7_fill_53178 4 RJ7 (rm_J7_fill_53178) (0, 0)) (hr : meth.sig.returnType = none) (hk : meth.locks = false)   (z : St)   {res : St} (hf : f_J7_fill_53178_20  z  = some res) : Zj p l e (rm_J7_fill_53178) s m args below meth c g A 4 (0, 0) (QV g A below args s res) z 20 [] [] := by
  unfold f_J7_fill_53178_20 at hf
  cases hf
  exact z_vret C hr hk dJ7_fill_53178_20
def f_J7_fill_53178_5  : Nat → St → Nat → Int32 → Int32 → Int32 → Option (St)
  | 0, _, _, _, _, _ => none
  | n + 1, z, o0, x1, x2, x3 => if x3 ≤ x2 then f_J7_fill_53178_20 z else f_J7_fill_53178_10 (f_J7_fill_53178_5 n) z o0 x1 x2 x3
theorem b_J7_fill_53178_5 {p : Program} {l : Launch} {e : Env} {s : State} {m : MethodId} {args : Array Value} {below : List Frame} {meth : Method} {c : Code} {g : Ga} {A : Nat → Prop} (C : Cx l g A p s m args c cJ7_fill_53178 4 RJ7 (rm_J7_fill_53178) (0, 0)) (hr : meth.sig.returnType = none) (hk : meth.locks = false)   : ∀ (n : Nat) (z : St) (o0 : Nat) (x1 : Int32) (x2 : Int32) (x3 : Int32) (_ : kd o0 = 1512) {res : St} (_ : f_J7_fill_53178_5  n z o0 x1 x2 x3 = some res), Zj p l e (rm_J7_fill_53178) s m args below meth c g A 4 (0, 0) (QV g A below args s res) z 5 [(0, .ref (g.1 o0)), (1, .int x1), (2, .int x2), (3, .int x3)] [] := by
  intro n
  induction n with
  | zero =>
    intro z o0 x1 x2 x3 ho0 res hf
    cases hf
  | succ n ih =>
    intro z o0 x1 x2 x3 ho0 res hf
    rw [f_J7_fill_53178_5] at hf
    refine z_iload_n C dJ7_fill_53178_5 rfl 2 rfl ?_
    refine z_iload_n C dJ7_fill_53178_6 rfl 3 rfl ?_
    exact z_icmp_ge C dJ7_fill_53178_7 (by decide) (fun h => z_sub [] rfl (b_J7_fill_53178_20 C hr hk z (q_t hf h))) (fun h => z_sub [0, 1, 2, 3] rfl (b_J7_fill_53178_10 C hr hk ih z o0 x1 x2 x3 ho0 (q_f hf h)))
def f_J7_fill_53178_0  (z : St) (o0 : Nat) (x1 : Int32) : Option (St) :=
  f_J7_fill_53178_5 FU z o0 x1 0 512
theorem b_J7_fill_53178_0 {p : Program} {l : Launch} {e : Env} {s : State} {m : MethodId} {args : Array Value} {below : List Frame} {meth : Method} {c : Code} {g : Ga} {A : Nat → Prop} (C : Cx l g A p s m args c cJ7_fill_53178 4 RJ7 (rm_J7_fill_53178) (0, 0)) (hr : meth.sig.returnType = none) (hk : meth.locks = false)   (z : St) (o0 : Nat) (x1 : Int32) (ho0 : kd o0 = 1512) {res : St} (hf : f_J7_fill_53178_0  z o0 x1 = some res) : Zj p l e (rm_J7_fill_53178) s m args below meth c g A 4 (0, 0) (QV g A below args s res) z 0 [(0, .ref (g.1 o0)), (1, .int x1)] [] := by
  unfold f_J7_fill_53178_0 at hf
  refine z_iconst C dJ7_fill_53178_0 (v := 0) (by decide) ?_
  refine z_istore_n C (lv2 := [(2, .int 0), (0, .ref (g.1 o0)), (1, .int x1)]) dJ7_fill_53178_1 rfl (by decide) rfl ?_
  refine z_aload_n C dJ7_fill_53178_2 rfl 1 rfl ?_
  refine z_alenI C (n := 512) (v := 512) dJ7_fill_53178_3 ho0 (by decide) rfl ?_
  refine z_istore_n C (lv2 := [(3, .int 512), (2, .int 0), (0, .ref (g.1 o0)), (1, .int x1)]) dJ7_fill_53178_4 rfl (by decide) rfl ?_
  exact z_sub [2, 3, 1, 0] rfl (b_J7_fill_53178_5 C hr hk FU z o0 x1 0 512 ho0 hf)
def f_J7_fill_53178 (z : St) (o0 : Nat) (x1 : Int32) : Option (St) := f_J7_fill_53178_0 z o0 x1
theorem c_J7_fill_53178 {l : Launch} {g : Ga} {A : Nat → Prop} {z : St} {o0 : Nat} {x1 : Int32} (ho0 : kd o0 = 1512) {res : St} (hf : f_J7_fill_53178 z o0 x1 = some res) : CV l g A yJ7_fill_53178 cJ7_fill_53178 4 none rm_J7_fill_53178 [.ref (g.1 o0), .int x1] z res :=
  e_CV (by decide) (Nat.le_of_ble_eq_true rfl) rfl (fun p e s m args below meth c C hr hk => z_sub [0, 1] rfl (b_J7_fill_53178_0 C hr hk z o0 x1 ho0 hf))
