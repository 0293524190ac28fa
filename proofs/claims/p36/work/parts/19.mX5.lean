abbrev rm_X5_takenUpOf : Room := { frames := 0, cells := 0, slots := 0, locals := 0 }
def f_X5_takenUpOf_23  (z : St) (s0 : Int32) : Option (St × Int32) :=
  some (z, s0)
theorem b_X5_takenUpOf_23 {p : Program} {l : Launch} {e : Env} {s : State} {m : MethodId} {args : Array Value} {below : List Frame} {meth : Method} {c : Code} {g : Ga} {A : Nat → Prop} (C : Cx l g A p s m args c cX5_takenUpOf 2 RX5 (rm_X5_takenUpOf) (0, 0)) (hr : meth.sig.returnType = (some .int)) (hk : meth.locks = false)   (z : St) (s0 : Int32)  {res : St × Int32} (hf : f_X5_takenUpOf_23  z s0 = some res) : Zj p l e (rm_X5_takenUpOf) s m args below meth c g A 2 (0, 0) (QI g A below args s res) z 23 [] [.int s0] := by
  unfold f_X5_takenUpOf_23 at hf
  cases hf
  exact z_iret C hr hk dX5_takenUpOf_23
def f_X5_takenUpOf_13  (z : St) (o0 : Nat) (x1 : Int32) : Option (St × Int32) :=
  if inb x1 256 = true then (f_X5_takenUpOf_23 z (z.1 (rf o0 1) (Int32.toNatClampNeg x1))) else none
theorem b_X5_takenUpOf_13 {p : Program} {l : Launch} {e : Env} {s : State} {m : MethodId} {args : Array Value} {below : List Frame} {meth : Method} {c : Code} {g : Ga} {A : Nat → Prop} (C : Cx l g A p s m args c cX5_takenUpOf 2 RX5 (rm_X5_takenUpOf) (0, 0)) (hr : meth.sig.returnType = (some .int)) (hk : meth.locks = false)   (z : St) (o0 : Nat) (x1 : Int32) (ho0 : kd o0 = 5) {res : St × Int32} (hf : f_X5_takenUpOf_13  z o0 x1 = some res) : Zj p l e (rm_X5_takenUpOf) s m args below meth c g A 2 (0, 0) (QI g A below args s res) z 13 [(0, .ref (g.1 o0)), (1, .int x1)] [] := by
  unfold f_X5_takenUpOf_13 at hf
  refine z_aload_n C dX5_takenUpOf_13 rfl 0 rfl ?_
  refine gf_X5_15 C dX5_takenUpOf_14 ho0 ?_
  refine z_iload_n C dX5_takenUpOf_17 rfl 1 rfl ?_
  obtain ⟨h1, hf⟩ := q_ck hf
  refine z_iald C (n := 256) dX5_takenUpOf_18 (rt_5_1 _ (kd_lt ho0 (by decide)) ho0) (by decide) h1 ?_
  exact z_goto C dX5_takenUpOf_19 (by decide) (z_sub [] rfl (b_X5_takenUpOf_23 C hr hk z (z.1 (rf o0 1) (Int32.toNatClampNeg x1)) hf))
def f_X5_takenUpOf_22  (z : St)  : Option (St × Int32) :=
  f_X5_takenUpOf_23 z ((-1))
theorem b_X5_takenUpOf_22 {p : Program} {l : Launch} {e : Env} {s : State} {m : MethodId} {args : Array Value} {below : List Frame} {meth : Method} {c : Code} {g : Ga} {A : Nat → Prop} (C : Cx l g A p s m args c cX5_takenUpOf 2 RX5 (rm_X5_takenUpOf) (0, 0)) (hr : meth.sig.returnType = (some .int)) (hk : meth.locks = false)   (z : St)   {res : St × Int32} (hf : f_X5_takenUpOf_22  z  = some res) : Zj p l e (rm_X5_takenUpOf) s m args below meth c g A 2 (0, 0) (QI g A below args s res) z 22 [] [] := by
  unfold f_X5_takenUpOf_22 at hf
  refine z_iconst C dX5_takenUpOf_22 (v := (-1)) (by decide) ?_
  exact z_sub [] rfl (b_X5_takenUpOf_23 C hr hk z ((-1)) hf)
def f_X5_takenUpOf_4  (z : St) (o0 : Nat) (x1 : Int32) : Option (St × Int32) :=
  if 256 ≤ x1 then f_X5_takenUpOf_22 z else f_X5_takenUpOf_13 z o0 x1
theorem b_X5_takenUpOf_4 {p : Program} {l : Launch} {e : Env} {s : State} {m : MethodId} {args : Array Value} {below : List Frame} {meth : Method} {c : Code} {g : Ga} {A : Nat → Prop} (C : Cx l g A p s m args c cX5_takenUpOf 2 RX5 (rm_X5_takenUpOf) (0, 0)) (hr : meth.sig.returnType = (some .int)) (hk : meth.locks = false)   (z : St) (o0 : Nat) (x1 : Int32) (ho0 : kd o0 = 5) {res : St × Int32} (hf : f_X5_takenUpOf_4  z o0 x1 = some res) : Zj p l e (rm_X5_takenUpOf) s m args below meth c g A 2 (0, 0) (QI g A below args s res) z 4 [(0, .ref (g.1 o0)), (1, .int x1)] [] := by
  unfold f_X5_takenUpOf_4 at hf
  refine z_iload_n C dX5_takenUpOf_4 rfl 1 rfl ?_
  refine z_aload_n C dX5_takenUpOf_5 rfl 0 rfl ?_
  refine gf_X5_15 C dX5_takenUpOf_6 ho0 ?_
  refine z_alenI C (n := 256) (v := 256) dX5_takenUpOf_9 (rt_5_1 _ (kd_lt ho0 (by decide)) ho0) (by decide) rfl ?_
  exact z_icmp_ge C dX5_takenUpOf_10 (by decide) (fun h => z_sub [] rfl (b_X5_takenUpOf_22 C hr hk z (q_t hf h))) (fun h => z_sub [0, 1] rfl (b_X5_takenUpOf_13 C hr hk z o0 x1 ho0 (q_f hf h)))
def f_X5_takenUpOf_0  (z : St) (o0 : Nat) (x1 : Int32) : Option (St × Int32) :=
  if x1 < 0 then f_X5_takenUpOf_22 z else f_X5_takenUpOf_4 z o0 x1
theorem b_X5_takenUpOf_0 {p : Program} {l : Launch} {e : Env} {s : State} {m : MethodId} {args : Array Value} {below : List Frame} {meth : Method} {c : Code} {g : Ga} {A : Nat → Prop} (C : Cx l g A p s m args c cX5_takenUpOf 2 RX5 (rm_X5_takenUpOf) (0, 0)) (hr : meth.sig.returnType = (some .int)) (hk : meth.locks = false)   (z : St) (o0 : Nat) (x1 : Int32) (ho0 : kd o0 = 5) {res : St × Int32} (hf : f_X5_takenUpOf_0  z o0 x1 = some res) : Zj p l e (rm_X5_takenUpOf) s m args below meth c g A 2 (0, 0) (QI g A below args s res) z 0 [(0, .ref (g.1 o0)), (1, .int x1)] [] := by
  unfold f_X5_takenUpOf_0 at hf
  refine z_iload_n C dX5_takenUpOf_0 rfl 1 rfl ?_
  exact z_if_lt C dX5_takenUpOf_1 (by decide) (fun h => z_sub [] rfl (b_X5_takenUpOf_22 C hr hk z (q_t hf h))) (fun h => z_sub [0, 1] rfl (b_X5_takenUpOf_4 C hr hk z o0 x1 ho0 (q_f hf h)))
def f_X5_takenUpOf (z : St) (o0 : Nat) (x1 : Int32) : Option (St × Int32) := f_X5_takenUpOf_0 z o0 x1
theorem c_X5_takenUpOf {l : Launch} {g : Ga} {A : Nat → Prop} {z : St} {o0 : Nat} {x1 : Int32} (ho0 : kd o0 = 5) {res : St × Int32} (hf : f_X5_takenUpOf z o0 x1 = some res) : CI l g A yX5_takenUpOf cX5_takenUpOf 2 (some .int) rm_X5_takenUpOf [.ref (g.1 o0), .int x1] z res :=
  e_CI (by decide) (Nat.le_of_ble_eq_true rfl) rfl (fun p e s m args below meth c C hr hk => z_sub [0, 1] rfl (b_X5_takenUpOf_0 C hr hk z o0 x1 ho0 hf))
abbrev rm_X5_latestBegin : Room := { frames := 1, cells := 0, slots := 0, locals := 21 }
def f_X5_latestBegin_0  (z : St) (o0 : Nat) (o1 : Nat) (x2 : Int32) (x3 : Int32) : Option (St × Int32) :=
  ((f_X4_coolsOf z o1 x2).bind fun r1 => ((f_X5_takenUpOf r1.1 o0 x3).bind fun r3 => ((f_X4_takesOf r3.1 o1 x2).bind fun r5 => some (r5.1, (imin ((z.1 o0 5) - r1.2) r3.2) - r5.2))))
theorem b_X5_latestBegin_0 {p : Program} {l : Launch} {e : Env} {s : State} {m : MethodId} {args : Array Value} {below : List Frame} {meth : Method} {c : Code} {g : Ga} {A : Nat → Prop} (C : Cx l g A p s m args c cX5_latestBegin 4 RX5 (rm_X5_latestBegin) (0, 0)) (hr : meth.sig.returnType = (some .int)) (hk : meth.locks = false)   (z : St) (o0 : Nat) (o1 : Nat) (x2 : Int32) (x3 : Int32) (ho0 : kd o0 = 5) (ho1 : kd o1 = 4) {res : St × Int32} (hf : f_X5_latestBegin_0  z o0 o1 x2 x3 = some res) : Zj p l e (rm_X5_latestBegin) s m args below meth c g A 4 (0, 0) (QI g A below args s res) z 0 [(0, .ref (g.1 o0)), (1, .ref (g.1 o1)), (2, .int x2), (3, .int x3)] [] := by
  unfold f_X5_latestBegin_0 at hf
  refine z_aload_n C dX5_latestBegin_0 rfl 0 rfl ?_
  refine gf_X5_33 C dX5_latestBegin_1 ho0 ?_
  refine z_aload_n C dX5_latestBegin_4 rfl 1 rfl ?_
  refine z_iload_n C dX5_latestBegin_5 rfl 2 rfl ?_
  obtain ⟨r1, hc2, hf⟩ := q_bd hf
  refine z_cVi C (st := [.int (z.1 o0 5)]) (c_X4_coolsOf ho1 hc2) mw_X4_coolsOf ml_X5_64 ho1 (by decide) rfl dX5_latestBegin_6 rfl rfl rfl ⟨Nat.le_of_ble_eq_true rfl, Nat.le_of_ble_eq_true rfl⟩ rfl (Nat.le_of_ble_eq_true rfl) ?_
  refine z_isub C dX5_latestBegin_9 ?_
  refine z_aload_n C dX5_latestBegin_10 rfl 0 rfl ?_
  refine z_iload_n C dX5_latestBegin_11 rfl 3 rfl ?_
  obtain ⟨r3, hc4, hf⟩ := q_bd hf
  refine z_cVi C (st := [.int ((z.1 o0 5) - r1.2)]) (c_X5_takenUpOf ho0 hc4) mw_X5_takenUpOf ml_X5_74 ho0 (by decide) rfl dX5_latestBegin_12 rfl rfl rfl ⟨Nat.le_of_ble_eq_true rfl, Nat.le_of_ble_eq_true rfl⟩ rfl (Nat.le_of_ble_eq_true rfl) ?_
  refine z_mmin C (st := []) dX5_latestBegin_15 ml_X5_67 mm_min.1 mm_i mm_min.2 ⟨Nat.le_of_ble_eq_true rfl, Nat.le_of_ble_eq_true rfl⟩ (Nat.le_of_ble_eq_true rfl) ?_
  refine z_aload_n C dX5_latestBegin_18 rfl 1 rfl ?_
  refine z_iload_n C dX5_latestBegin_19 rfl 2 rfl ?_
  obtain ⟨r5, hc6, hf⟩ := q_bd hf
  refine z_cVi C (st := [.int (imin ((z.1 o0 5) - r1.2) r3.2)]) (c_X4_takesOf ho1 hc6) mw_X4_takesOf ml_X5_61 ho1 (by decide) rfl dX5_latestBegin_20 rfl rfl rfl ⟨Nat.le_of_ble_eq_true rfl, Nat.le_of_ble_eq_true rfl⟩ rfl (Nat.le_of_ble_eq_true rfl) ?_
  refine z_isub C dX5_latestBegin_23 ?_
  cases hf
  exact z_iret C hr hk dX5_latestBegin_24
def f_X5_latestBegin (z : St) (o0 : Nat) (o1 : Nat) (x2 : Int32) (x3 : Int32) : Option (St × Int32) := f_X5_latestBegin_0 z o0 o1 x2 x3
theorem c_X5_latestBegin {l : Launch} {g : Ga} {A : Nat → Prop} {z : St} {o0 : Nat} {o1 : Nat} {x2 : Int32} {x3 : Int32} (ho0 : kd o0 = 5) (ho1 : kd o1 = 4) {res : St × Int32} (hf : f_X5_latestBegin z o0 o1 x2 x3 = some res) : CI l g A yX5_latestBegin cX5_latestBegin 4 (some .int) rm_X5_latestBegin [.ref (g.1 o0), .ref (g.1 o1), .int x2, .int x3] z res :=
  e_CI (by decide) (Nat.le_of_ble_eq_true rfl) rfl (fun p e s m args below meth c C hr hk => z_sub [0, 1, 2, 3] rfl (b_X5_latestBegin_0 C hr hk z o0 o1 x2 x3 ho0 ho1 hf))
abbrev rm_X5_latestTakenUp : Room := { frames := 2, cells := 0, slots := 0, locals := 44 }
def f_X5_latestTakenUp_58 (K5 : St → Nat → Nat → Int32 → Int32 → Int32 → Option (St × Int32)) (z : St) (o0 : Nat) (o1 : Nat) (x2 : Int32) (x3 : Int32) (x4 : Int32) : Option (St × Int32) :=
  K5 z o0 o1 x2 x3 (x4 + 1)
theorem b_X5_latestTakenUp_58 {p : Program} {l : Launch} {e : Env} {s : State} {m : MethodId} {args : Array Value} {below : List Frame} {meth : Method} {c : Code} {g : Ga} {A : Nat → Prop} (C : Cx l g A p s m args c cX5_latestTakenUp 6 RX5 (rm_X5_latestTakenUp) (0, 0)) (hr : meth.sig.returnType = (some .int)) (hk : meth.locks = false) {K5 : St → Nat → Nat → Int32 → Int32 → Int32 → Option (St × Int32)} (hK5 : ∀ (z : St) (o0 : Nat) (o1 : Nat) (x2 : Int32) (x3 : Int32) (x4 : Int32) (_ : kd o0 = 5) (_ : kd o1 = 4) {res : St × Int32}, K5 z o0 o1 x2 x3 x4 = some res → Zj p l e (rm_X5_latestTakenUp) s m args below meth c g A 6 (0, 0) (QI g A below args s res) z 5 [(0, .ref (g.1 o0)), (1, .ref (g.1 o1)), (2, .int x2), (3, .int x3), (4, .int x4)] []) (z : St) (o0 : Nat) (o1 : Nat) (x2 : Int32) (x3 : Int32) (x4 : Int32) (ho0 : kd o0 = 5) (ho1 : kd o1 = 4) {res : St × Int32} (hf : f_X5_latestTakenUp_58 K5 z o0 o1 x2 x3 x4 = some res) : Zj p l e (rm_X5_latestTakenUp) s m args below meth c g A 6 (0, 0) (QI g A below args s res) z 58 [(0, .ref (g.1 o0)), (1, .ref (g.1 o1)), (2, .int x2), (3, .int x3), (4, .int x4)] [] := by
  unfold f_X5_latestTakenUp_58 at hf
  refine z_iinc C (k := 4) (v := x4 + 1) (lv2 := [(4, .int (x4 + 1)), (0, .ref (g.1 o0)), (1, .ref (g.1 o1)), (2, .int x2), (3, .int x3)]) dX5_latestTakenUp_58 rfl rfl (by decide) rfl ?_
  exact z_goto C dX5_latestTakenUp_61 (by decide) (z_sub [1, 2, 3, 4, 0] rfl (hK5 z o0 o1 x2 x3 (x4 + 1) ho0 ho1 hf))
def f_X5_latestTakenUp_51 (K5 : St → Nat → Nat → Int32 → Int32 → Int32 → Option (St × Int32)) (z : St) (o0 : Nat) (o1 : Nat) (x2 : Int32) (x3 : Int32) (x4 : Int32) (x5 : Int32) : Option (St × Int32) :=
  f_X5_latestTakenUp_58 K5 z o0 o1 x2 (imax x3 x5) x4
theorem b_X5_latestTakenUp_51 {p : Program} {l : Launch} {e : Env} {s : State} {m : MethodId} {args : Array Value} {below : List Frame} {meth : Method} {c : Code} {g : Ga} {A : Nat → Prop} (C : Cx l g A p s m args c cX5_latestTakenUp 6 RX5 (rm_X5_latestTakenUp) (0, 0)) (hr : meth.sig.returnType = (some .int)) (hk : meth.locks = false) {K5 : St → Nat → Nat → Int32 → Int32 → Int32 → Option (St × Int32)} (hK5 : ∀ (z : St) (o0 : Nat) (o1 : Nat) (x2 : Int32) (x3 : Int32) (x4 : Int32) (_ : kd o0 = 5) (_ : kd o1 = 4) {res : St × Int32}, K5 z o0 o1 x2 x3 x4 = some res → Zj p l e (rm_X5_latestTakenUp) s m args below meth c g A 6 (0, 0) (QI g A below args s res) z 5 [(0, .ref (g.1 o0)), (1, .ref (g.1 o1)), (2, .int x2), (3, .int x3), (4, .int x4)] []) (z : St) (o0 : Nat) (o1 : Nat) (x2 : Int32) (x3 : Int32) (x4 : Int32) (x5 : Int32) (ho0 : kd o0 = 5) (ho1 : kd o1 = 4) {res : St × Int32} (hf : f_X5_latestTakenUp_51 K5 z o0 o1 x2 x3 x4 x5 = some res) : Zj p l e (rm_X5_latestTakenUp) s m args below meth c g A 6 (0, 0) (QI g A below args s res) z 51 [(0, .ref (g.1 o0)), (1, .ref (g.1 o1)), (2, .int x2), (3, .int x3), (4, .int x4), (5, .int x5)] [] := by
  unfold f_X5_latestTakenUp_51 at hf
  refine z_iload_n C dX5_latestTakenUp_51 rfl 3 rfl ?_
  refine z_iload C dX5_latestTakenUp_52 5 rfl ?_
  refine z_mmax C (st := []) dX5_latestTakenUp_54 ml_X5_55 mm_max.1 mm_i mm_max.2 ⟨Nat.le_of_ble_eq_true rfl, Nat.le_of_ble_eq_true rfl⟩ (Nat.le_of_ble_eq_true rfl) ?_
  refine z_istore_n C (lv2 := [(3, .int (imax x3 x5)), (0, .ref (g.1 o0)), (1, .ref (g.1 o1)), (2, .int x2), (4, .int x4), (5, .int x5)]) dX5_latestTakenUp_57 rfl (by decide) rfl ?_
  exact z_sub [1, 2, 3, 0, 4] rfl (b_X5_latestTakenUp_58 C hr hk hK5 z o0 o1 x2 (imax x3 x5) x4 ho0 ho1 hf)
def f_X5_latestTakenUp_23 (K5 : St → Nat → Nat → Int32 → Int32 → Int32 → Option (St × Int32)) (z : St) (o0 : Nat) (o1 : Nat) (x2 : Int32) (x3 : Int32) (x4 : Int32) : Option (St × Int32) :=
  ((f_X5_latestBegin z o0 o1 x4 (x2 &&& (((1 : Int32) <<< (x4 &&& 31)) ^^^ ((-1))))).bind fun r1 => ((f_X4_comesOf r1.1 o1 x4).bind fun r3 => if r1.2 < r3.2 then f_X5_latestTakenUp_58 K5 r3.1 o0 o1 x2 x3 x4 else f_X5_latestTakenUp_51 K5 r3.1 o0 o1 x2 x3 x4 r1.2))
theorem b_X5_latestTakenUp_23 {p : Program} {l : Launch} {e : Env} {s : State} {m : MethodId} {args : Array Value} {below : List Frame} {meth : Method} {c : Code} {g : Ga} {A : Nat → Prop} (C : Cx l g A p s m args c cX5_latestTakenUp 6 RX5 (rm_X5_latestTakenUp) (0, 0)) (hr : meth.sig.returnType = (some .int)) (hk : meth.locks = false) {K5 : St → Nat → Nat → Int32 → Int32 → Int32 → Option (St × Int32)} (hK5 : ∀ (z : St) (o0 : Nat) (o1 : Nat) (x2 : Int32) (x3 : Int32) (x4 : Int32) (_ : kd o0 = 5) (_ : kd o1 = 4) {res : St × Int32}, K5 z o0 o1 x2 x3 x4 = some res → Zj p l e (rm_X5_latestTakenUp) s m args below meth c g A 6 (0, 0) (QI g A below args s res) z 5 [(0, .ref (g.1 o0)), (1, .ref (g.1 o1)), (2, .int x2), (3, .int x3), (4, .int x4)] []) (z : St) (o0 : Nat) (o1 : Nat) (x2 : Int32) (x3 : Int32) (x4 : Int32) (ho0 : kd o0 = 5) (ho1 : kd o1 = 4) {res : St × Int32} (hf : f_X5_latestTakenUp_23 K5 z o0 o1 x2 x3 x4 = some res) : Zj p l e (rm_X5_latestTakenUp) s m args below meth c g A 6 (0, 0) (QI g A below args s res) z 23 [(0, .ref (g.1 o0)), (1, .ref (g.1 o1)), (2, .int x2), (3, .int x3), (4, .int x4)] [] := by
  unfold f_X5_latestTakenUp_23 at hf
  refine z_aload_n C dX5_latestTakenUp_23 rfl 0 rfl ?_
  refine z_aload_n C dX5_latestTakenUp_24 rfl 1 rfl ?_
  refine z_iload C dX5_latestTakenUp_25 4 rfl ?_
  refine z_iload_n C dX5_latestTakenUp_27 rfl 2 rfl ?_
  refine z_iconst C dX5_latestTakenUp_28 (v := 1) (by decide) ?_
  refine z_iload C dX5_latestTakenUp_29 4 rfl ?_
  refine z_ishl C dX5_latestTakenUp_31 ?_
  refine z_iconst C dX5_latestTakenUp_32 (v := (-1)) (by decide) ?_
  refine z_ixor C dX5_latestTakenUp_33 ?_
  refine z_iand C dX5_latestTakenUp_34 ?_
  obtain ⟨r1, hc2, hf⟩ := q_bd hf
  refine z_cVi C (st := []) (c_X5_latestBegin ho0 ho1 hc2) mw_X5_latestBegin ml_X5_70 ho0 (by decide) rfl dX5_latestTakenUp_35 rfl rfl rfl ⟨Nat.le_of_ble_eq_true rfl, Nat.le_of_ble_eq_true rfl⟩ rfl (Nat.le_of_ble_eq_true rfl) ?_
  refine z_istore C (lv2 := [(5, .int r1.2), (0, .ref (g.1 o0)), (1, .ref (g.1 o1)), (2, .int x2), (3, .int x3), (4, .int x4)]) dX5_latestTakenUp_38 (by decide) rfl ?_
  refine z_iload C dX5_latestTakenUp_40 0 rfl ?_
  refine z_aload_n C dX5_latestTakenUp_42 rfl 2 rfl ?_
  refine z_iload C dX5_latestTakenUp_43 5 rfl ?_
  obtain ⟨r3, hc4, hf⟩ := q_bd hf
  refine z_cVi C (st := [.int r1.2]) (c_X4_comesOf ho1 hc4) mw_X4_comesOf ml_X5_52 ho1 (by decide) rfl dX5_latestTakenUp_45 rfl rfl rfl ⟨Nat.le_of_ble_eq_true rfl, Nat.le_of_ble_eq_true rfl⟩ rfl (Nat.le_of_ble_eq_true rfl) ?_
  exact z_icmp_lt C dX5_latestTakenUp_48 (by decide) (fun h => z_sub [1, 2, 3, 4, 5] rfl (b_X5_latestTakenUp_58 C hr hk hK5 r3.1 o0 o1 x2 x3 x4 ho0 ho1 (q_t hf h))) (fun h => z_sub [1, 2, 3, 4, 5, 0] rfl (b_X5_latestTakenUp_51 C hr hk hK5 r3.1 o0 o1 x2 x3 x4 r1.2 ho0 ho1 (q_f hf h)))
def f_X5_latestTakenUp_14 (K5 : St → Nat → Nat → Int32 → Int32 → Int32 → Option (St × Int32)) (z : St) (o0 : Nat) (o1 : Nat) (x2 : Int32) (x3 : Int32) (x4 : Int32) : Option (St × Int32) :=
  if ((x2 >>> (x4 &&& 31)) &&& 1) = 0 then f_X5_latestTakenUp_58 K5 z o0 o1 x2 x3 x4 else f_X5_latestTakenUp_23 K5 z o0 o1 x2 x3 x4
theorem b_X5_latestTakenUp_14 {p : Program} {l : Launch} {e : Env} {s : State} {m : MethodId} {args : Array Value} {below : List Frame} {meth : Method} {c : Code} {g : Ga} {A : Nat → Prop} (C : Cx l g A p s m args c cX5_latestTakenUp 6 RX5 (rm_X5_latestTakenUp) (0, 0)) (hr : meth.sig.returnType = (some .int)) (hk : meth.locks = false) {K5 : St → Nat → Nat → Int32 → Int32 → Int32 → Option (St × Int32)} (hK5 : ∀ (z : St) (o0 : Nat) (o1 : Nat) (x2 : Int32) (x3 : Int32) (x4 : Int32) (_ : kd o0 = 5) (_ : kd o1 = 4) {res : St × Int32}, K5 z o0 o1 x2 x3 x4 = some res → Zj p l e (rm_X5_latestTakenUp) s m args below meth c g A 6 (0, 0) (QI g A below args s res) z 5 [(0, .ref (g.1 o0)), (1, .ref (g.1 o1)), (2, .int x2), (3, .int x3), (4, .int x4)] []) (z : St) (o0 : Nat) (o1 : Nat) (x2 : Int32) (x3 : Int32) (x4 : Int32) (ho0 : kd o0 = 5) (ho1 : kd o1 = 4) {res : St × Int32} (hf : f_X5_latestTakenUp_14 K5 z o0 o1 x2 x3 x4 = some res) : Zj p l e (rm_X5_latestTakenUp) s m args below meth c g A 6 (0, 0) (QI g A below args s res) z 14 [(0, .ref (g.1 o0)), (1, .ref (g.1 o1)), (2, .int x2), (3, .int x3), (4, .int x4)] [] := by
  unfold f_X5_latestTakenUp_14 at hf
  refine z_iload_n C dX5_latestTakenUp_14 rfl 2 rfl ?_
  refine z_iload C dX5_latestTakenUp_15 4 rfl ?_
  refine z_ishr C dX5_latestTakenUp_17 ?_
  refine z_iconst C dX5_latestTakenUp_18 (v := 1) (by decide) ?_
  refine z_iand C dX5_latestTakenUp_19 ?_
  exact z_if_eq C dX5_latestTakenUp_20 (by decide) (fun h => z_sub [0, 1, 2, 3, 4] rfl (b_X5_latestTakenUp_58 C hr hk hK5 z o0 o1 x2 x3 x4 ho0 ho1 (q_t hf h))) (fun h => z_sub [0, 1, 2, 3, 4] rfl (b_X5_latestTakenUp_23 C hr hk hK5 z o0 o1 x2 x3 x4 ho0 ho1 (q_f hf h)))
def f_X5_latestTakenUp_64  (z : St) (x3 : Int32) : Option (St × Int32) :=
  some (z, x3)
theorem b_X5_latestTakenUp_64 {p : Program} {l : Launch} {e : Env} {s : State} {m : MethodId} {args : Array Value} {below : List Frame} {meth : Method} {c : Code} {g : Ga} {A : Nat → Prop} (C : Cx l g A p s m args c cX5_latestTakenUp 6 RX5 (rm_X5_latestTakenUp) (0, 0)) (hr : meth.sig.returnType = (some .int)) (hk : meth.locks = false)   (z : St) (x3 : Int32)  {res : St × Int32} (hf : f_X5_latestTakenUp_64  z x3 = some res) : Zj p l e (rm_X5_latestTakenUp) s m args below meth c g A 6 (0, 0) (QI g A below args s res) z 64 [(3, .int x3)] [] := by
  unfold f_X5_latestTakenUp_64 at hf
  refine z_iload_n C dX5_latestTakenUp_64 rfl 0 rfl ?_
  cases hf
  exact z_iret C hr hk dX5_latestTakenUp_65
def f_X5_latestTakenUp_5  : Nat → St → Nat → Nat → Int32 → Int32 → Int32 → Option (St × Int32)
  | 0, _, _, _, _, _, _ => none
  | n + 1, z, o0, o1, x2, x3, x4 => if (z.1 o1 3) ≤ x4 then f_X5_latestTakenUp_64 z x3 else f_X5_latestTakenUp_14 (f_X5_latestTakenUp_5 n) z o0 o1 x2 x3 x4
theorem b_X5_latestTakenUp_5 {p : Program} {l : Launch} {e : Env} {s : State} {m : MethodId} {args : Array Value} {below : List Frame} {meth : Method} {c : Code} {g : Ga} {A : Nat → Prop} (C : Cx l g A p s m args c cX5_latestTakenUp 6 RX5 (rm_X5_latestTakenUp) (0, 0)) (hr : meth.sig.returnType = (some .int)) (hk : meth.locks = false)   : ∀ (n : Nat) (z : St) (o0 : Nat) (o1 : Nat) (x2 : Int32) (x3 : Int32) (x4 : Int32) (_ : kd o0 = 5) (_ : kd o1 = 4) {res : St × Int32} (_ : f_X5_latestTakenUp_5  n z o0 o1 x2 x3 x4 = some res), Zj p l e (rm_X5_latestTakenUp) s m args below meth c g A 6 (0, 0) (QI g A below args s res) z 5 [(0, .ref (g.1 o0)), (1, .ref (g.1 o1)), (2, .int x2), (3, .int x3), (4, .int x4)] [] := by
  intro n
  induction n with
  | zero =>
    intro z o0 o1 x2 x3 x4 ho0 ho1 res hf
    cases hf
  | succ n ih =>
    intro z o0 o1 x2 x3 x4 ho0 ho1 res hf
    rw [f_X5_latestTakenUp_5] at hf
    refine z_iload C dX5_latestTakenUp_5 4 rfl ?_
    refine z_aload_n C dX5_latestTakenUp_7 rfl 1 rfl ?_
    refine gf_X5_45 C dX5_latestTakenUp_8 ho1 ?_
    exact z_icmp_ge C dX5_latestTakenUp_11 (by decide) (fun h => z_sub [3] rfl (b_X5_latestTakenUp_64 C hr hk z x3 (q_t hf h))) (fun h => z_sub [0, 1, 2, 3, 4] rfl (b_X5_latestTakenUp_14 C hr hk ih z o0 o1 x2 x3 x4 ho0 ho1 (q_f hf h)))
def f_X5_latestTakenUp_0  (z : St) (o0 : Nat) (o1 : Nat) (x2 : Int32) : Option (St × Int32) :=
  f_X5_latestTakenUp_5 FU z o0 o1 x2 ((-1)) 0
theorem b_X5_latestTakenUp_0 {p : Program} {l : Launch} {e : Env} {s : State} {m : MethodId} {args : Array Value} {below : List Frame} {meth : Method} {c : Code} {g : Ga} {A : Nat → Prop} (C : Cx l g A p s m args c cX5_latestTakenUp 6 RX5 (rm_X5_latestTakenUp) (0, 0)) (hr : meth.sig.returnType = (some .int)) (hk : meth.locks = false)   (z : St) (o0 : Nat) (o1 : Nat) (x2 : Int32) (ho0 : kd o0 = 5) (ho1 : kd o1 = 4) {res : St × Int32} (hf : f_X5_latestTakenUp_0  z o0 o1 x2 = some res) : Zj p l e (rm_X5_latestTakenUp) s m args below meth c g A 6 (0, 0) (QI g A below args s res) z 0 [(0, .ref (g.1 o0)), (1, .ref (g.1 o1)), (2, .int x2)] [] := by
  unfold f_X5_latestTakenUp_0 at hf
  refine z_iconst C dX5_latestTakenUp_0 (v := (-1)) (by decide) ?_
  refine z_istore_n C (lv2 := [(3, .int ((-1))), (0, .ref (g.1 o0)), (1, .ref (g.1 o1)), (2, .int x2)]) dX5_latestTakenUp_1 rfl (by decide) rfl ?_
  refine z_iconst C dX5_latestTakenUp_2 (v := 0) (by decide) ?_
  refine z_istore C (lv2 := [(4, .int 0), (3, .int ((-1))), (0, .ref (g.1 o0)), (1, .ref (g.1 o1)), (2, .int x2)]) dX5_latestTakenUp_3 (by decide) rfl ?_
  exact z_sub [2, 3, 4, 1, 0] rfl (b_X5_latestTakenUp_5 C hr hk FU z o0 o1 x2 ((-1)) 0 ho0 ho1 hf)
def f_X5_latestTakenUp (z : St) (o0 : Nat) (o1 : Nat) (x2 : Int32) : Option (St × Int32) := f_X5_latestTakenUp_0 z o0 o1 x2
theorem c_X5_latestTakenUp {l : Launch} {g : Ga} {A : Nat → Prop} {z : St} {o0 : Nat} {o1 : Nat} {x2 : Int32} (ho0 : kd o0 = 5) (ho1 : kd o1 = 4) {res : St × Int32} (hf : f_X5_latestTakenUp z o0 o1 x2 = some res) : CI l g A yX5_latestTakenUp cX5_latestTakenUp 6 (some .int) rm_X5_latestTakenUp [.ref (g.1 o0), .ref (g.1 o1), .int x2] z res :=
  e_CI (by decide) (Nat.le_of_ble_eq_true rfl) rfl (fun p e s m args below meth c C hr hk => z_sub [0, 1, 2] rfl (b_X5_latestTakenUp_0 C hr hk z o0 o1 x2 ho0 ho1 hf))
abbrev rm_X5_throughOf : Room := { frames := 0, cells := 0, slots := 0, locals := 0 }
def f_X5_throughOf_24  (z : St) (s0 : Int32) : Option (St × Int32) :=
  some (z, s0)
theorem b_X5_throughOf_24 {p : Program} {l : Launch} {e : Env} {s : State} {m : MethodId} {args : Array Value} {below : List Frame} {meth : Method} {c : Code} {g : Ga} {A : Nat → Prop} (C : Cx l g A p s m args c cX5_throughOf 2 RX5 (rm_X5_throughOf) (0, 0)) (hr : meth.sig.returnType = (some .int)) (hk : meth.locks = false)   (z : St) (s0 : Int32)  {res : St × Int32} (hf : f_X5_throughOf_24  z s0 = some res) : Zj p l e (rm_X5_throughOf) s m args below meth c g A 2 (0, 0) (QI g A below args s res) z 24 [] [.int s0] := by
  unfold f_X5_throughOf_24 at hf
  cases hf
  exact z_iret C hr hk dX5_throughOf_24
def f_X5_throughOf_13  (z : St) (o0 : Nat) (x1 : Int32) : Option (St × Int32) :=
  if inb x1 256 = true then (f_X5_throughOf_24 z (z.1 (rf o0 0) (Int32.toNatClampNeg x1))) else none
theorem b_X5_throughOf_13 {p : Program} {l : Launch} {e : Env} {s : State} {m : MethodId} {args : Array Value} {below : List Frame} {meth : Method} {c : Code} {g : Ga} {A : Nat → Prop} (C : Cx l g A p s m args c cX5_throughOf 2 RX5 (rm_X5_throughOf) (0, 0)) (hr : meth.sig.returnType = (some .int)) (hk : meth.locks = false)   (z : St) (o0 : Nat) (x1 : Int32) (ho0 : kd o0 = 5) {res : St × Int32} (hf : f_X5_throughOf_13  z o0 x1 = some res) : Zj p l e (rm_X5_throughOf) s m args below meth c g A 2 (0, 0) (QI g A below args s res) z 13 [(0, .ref (g.1 o0)), (1, .int x1)] [] := by
  unfold f_X5_throughOf_13 at hf
  refine z_aload_n C dX5_throughOf_13 rfl 0 rfl ?_
  refine gf_X5_9 C dX5_throughOf_14 ho0 ?_
  refine z_iload_n C dX5_throughOf_17 rfl 1 rfl ?_
  obtain ⟨h1, hf⟩ := q_ck hf
  refine z_iald C (n := 256) dX5_throughOf_18 (rt_5_0 _ (kd_lt ho0 (by decide)) ho0) (by decide) h1 ?_
  exact z_goto C dX5_throughOf_19 (by decide) (z_sub [] rfl (b_X5_throughOf_24 C hr hk z (z.1 (rf o0 0) (Int32.toNatClampNeg x1)) hf))
def f_X5_throughOf_22  (z : St)  : Option (St × Int32) :=
  f_X5_throughOf_24 z 1000000
theorem b_X5_throughOf_22 {p : Program} {l : Launch} {e : Env} {s : State} {m : MethodId} {args : Array Value} {below : List Frame} {meth : Method} {c : Code} {g : Ga} {A : Nat → Prop} (C : Cx l g A p s m args c cX5_throughOf 2 RX5 (rm_X5_throughOf) (0, 0)) (hr : meth.sig.returnType = (some .int)) (hk : meth.locks = false)   (z : St)   {res : St × Int32} (hf : f_X5_throughOf_22  z  = some res) : Zj p l e (rm_X5_throughOf) s m args below meth c g A 2 (0, 0) (QI g A below args s res) z 22 [] [] := by
  unfold f_X5_throughOf_22 at hf
  refine z_ldc C dX5_throughOf_22 kc_X5_44 ?_
  exact z_sub [] rfl (b_X5_throughOf_24 C hr hk z 1000000 hf)
def f_X5_throughOf_4  (z : St) (o0 : Nat) (x1 : Int32) : Option (St × Int32) :=
  if 256 ≤ x1 then f_X5_throughOf_22 z else f_X5_throughOf_13 z o0 x1
theorem b_X5_throughOf_4 {p : Program} {l : Launch} {e : Env} {s : State} {m : MethodId} {args : Array Value} {below : List Frame} {meth : Method} {c : Code} {g : Ga} {A : Nat → Prop} (C : Cx l g A p s m args c cX5_throughOf 2 RX5 (rm_X5_throughOf) (0, 0)) (hr : meth.sig.returnType = (some .int)) (hk : meth.locks = false)   (z : St) (o0 : Nat) (x1 : Int32) (ho0 : kd o0 = 5) {res : St × Int32} (hf : f_X5_throughOf_4  z o0 x1 = some res) : Zj p l e (rm_X5_throughOf) s m args below meth c g A 2 (0, 0) (QI g A below args s res) z 4 [(0, .ref (g.1 o0)), (1, .int x1)] [] := by
  unfold f_X5_throughOf_4 at hf
  refine z_iload_n C dX5_throughOf_4 rfl 1 rfl ?_
  refine z_aload_n C dX5_throughOf_5 rfl 0 rfl ?_
  refine gf_X5_9 C dX5_throughOf_6 ho0 ?_
  refine z_alenI C (n := 256) (v := 256) dX5_throughOf_9 (rt_5_0 _ (kd_lt ho0 (by decide)) ho0) (by decide) rfl ?_
  exact z_icmp_ge C dX5_throughOf_10 (by decide) (fun h => z_sub [] rfl (b_X5_throughOf_22 C hr hk z (q_t hf h))) (fun h => z_sub [0, 1] rfl (b_X5_throughOf_13 C hr hk z o0 x1 ho0 (q_f hf h)))
def f_X5_throughOf_0  (z : St) (o0 : Nat) (x1 : Int32) : Option (St × Int32) :=
  if x1 < 0 then f_X5_throughOf_22 z else f_X5_throughOf_4 z o0 x1
theorem b_X5_throughOf_0 {p : Program} {l : Launch} {e : Env} {s : State} {m : MethodId} {args : Array Value} {below : List Frame} {meth : Method} {c : Code} {g : Ga} {A : Nat → Prop} (C : Cx l g A p s m args c cX5_throughOf 2 RX5 (rm_X5_throughOf) (0, 0)) (hr : meth.sig.returnType = (some .int)) (hk : meth.locks = false)   (z : St) (o0 : Nat) (x1 : Int32) (ho0 : kd o0 = 5) {res : St × Int32} (hf : f_X5_throughOf_0  z o0 x1 = some res) : Zj p l e (rm_X5_throughOf) s m args below meth c g A 2 (0, 0) (QI g A below args s res) z 0 [(0, .ref (g.1 o0)), (1, .int x1)] [] := by
  unfold f_X5_throughOf_0 at hf
  refine z_iload_n C dX5_throughOf_0 rfl 1 rfl ?_
  exact z_if_lt C dX5_throughOf_1 (by decide) (fun h => z_sub [] rfl (b_X5_throughOf_22 C hr hk z (q_t hf h))) (fun h => z_sub [0, 1] rfl (b_X5_throughOf_4 C hr hk z o0 x1 ho0 (q_f hf h)))
def f_X5_throughOf (z : St) (o0 : Nat) (x1 : Int32) : Option (St × Int32) := f_X5_throughOf_0 z o0 x1
theorem c_X5_throughOf {l : Launch} {g : Ga} {A : Nat → Prop} {z : St} {o0 : Nat} {x1 : Int32} (ho0 : kd o0 = 5) {res : St × Int32} (hf : f_X5_throughOf z o0 x1 = some res) : CI l g A yX5_throughOf cX5_throughOf 2 (some .int) rm_X5_throughOf [.ref (g.1 o0), .int x1] z res :=
  e_CI (by decide) (Nat.le_of_ble_eq_true rfl) rfl (fun p e s m args below meth c C hr hk => z_sub [0, 1] rfl (b_X5_throughOf_0 C hr hk z o0 x1 ho0 hf))
abbrev rm_X5_soonestThrough : Room := { frames := 1, cells := 0, slots := 0, locals := 21 }
def f_X5_soonestThrough_77 (K6 : St → Nat → Nat → Int32 → Int32 → Int32 → Option (St × Int32)) (z : St) (o0 : Nat) (o1 : Nat) (x2 : Int32) (x3 : Int32) (x4 : Int32) : Option (St × Int32) :=
  K6 z o0 o1 x2 x3 (x4 + 1)
theorem b_X5_soonestThrough_77 {p : Program} {l : Launch} {e : Env} {s : State} {m : MethodId} {args : Array Value} {below : List Frame} {meth : Method} {c : Code} {g : Ga} {A : Nat → Prop} (C : Cx l g A p s m args c cX5_soonestThrough 6 RX5 (rm_X5_soonestThrough) (0, 0)) (hr : meth.sig.returnType = (some .int)) (hk : meth.locks = false) {K6 : St → Nat → Nat → Int32 → Int32 → Int32 → Option (St × Int32)} (hK6 : ∀ (z : St) (o0 : Nat) (o1 : Nat) (x2 : Int32) (x3 : Int32) (x4 : Int32) (_ : kd o0 = 5) (_ : kd o1 = 4) {res : St × Int32}, K6 z o0 o1 x2 x3 x4 = some res → Zj p l e (rm_X5_soonestThrough) s m args below meth c g A 6 (0, 0) (QI g A below args s res) z 6 [(0, .ref (g.1 o0)), (1, .ref (g.1 o1)), (2, .int x2), (3, .int x3), (4, .int x4)] []) (z : St) (o0 : Nat) (o1 : Nat) (x2 : Int32) (x3 : Int32) (x4 : Int32) (ho0 : kd o0 = 5) (ho1 : kd o1 = 4) {res : St × Int32} (hf : f_X5_soonestThrough_77 K6 z o0 o1 x2 x3 x4 = some res) : Zj p l e (rm_X5_soonestThrough) s m args below meth c g A 6 (0, 0) (QI g A below args s res) z 77 [(0, .ref (g.1 o0)), (1, .ref (g.1 o1)), (2, .int x2), (3, .int x3), (4, .int x4)] [] := by
  unfold f_X5_soonestThrough_77 at hf
  refine z_iinc C (k := 4) (v := x4 + 1) (lv2 := [(4, .int (x4 + 1)), (0, .ref (g.1 o0)), (1, .ref (g.1 o1)), (2, .int x2), (3, .int x3)]) dX5_soonestThrough_77 rfl rfl (by decide) rfl ?_
  exact z_goto C dX5_soonestThrough_80 (by decide) (z_sub [1, 2, 3, 4, 0] rfl (hK6 z o0 o1 x2 x3 (x4 + 1) ho0 ho1 hf))
def f_X5_soonestThrough_70 (K6 : St → Nat → Nat → Int32 → Int32 → Int32 → Option (St × Int32)) (z : St) (o0 : Nat) (o1 : Nat) (x2 : Int32) (x3 : Int32) (x4 : Int32) (x5 : Int32) : Option (St × Int32) :=
  f_X5_soonestThrough_77 K6 z o0 o1 x2 (imin x3 x5) x4
theorem b_X5_soonestThrough_70 {p : Program} {l : Launch} {e : Env} {s : State} {m : MethodId} {args : Array Value} {below : List Frame} {meth : Method} {c : Code} {g : Ga} {A : Nat → Prop} (C : Cx l g A p s m args c cX5_soonestThrough 6 RX5 (rm_X5_soonestThrough) (0, 0)) (hr : meth.sig.returnType = (some .int)) (hk : meth.locks = false) {K6 : St → Nat → Nat → Int32 → Int32 → Int32 → Option (St × Int32)} (hK6 : ∀ (z : St) (o0 : Nat) (o1 : Nat) (x2 : Int32) (x3 : Int32) (x4 : Int32) (_ : kd o0 = 5) (_ : kd o1 = 4) {res : St × Int32}, K6 z o0 o1 x2 x3 x4 = some res → Zj p l e (rm_X5_soonestThrough) s m args below meth c g A 6 (0, 0) (QI g A below args s res) z 6 [(0, .ref (g.1 o0)), (1, .ref (g.1 o1)), (2, .int x2), (3, .int x3), (4, .int x4)] []) (z : St) (o0 : Nat) (o1 : Nat) (x2 : Int32) (x3 : Int32) (x4 : Int32) (x5 : Int32) (ho0 : kd o0 = 5) (ho1 : kd o1 = 4) {res : St × Int32} (hf : f_X5_soonestThrough_70 K6 z o0 o1 x2 x3 x4 x5 = some res) : Zj p l e (rm_X5_soonestThrough) s m args below meth c g A 6 (0, 0) (QI g A below args s res) z 70 [(0, .ref (g.1 o0)), (1, .ref (g.1 o1)), (2, .int x2), (3, .int x3), (4, .int x4), (5, .int x5)] [] := by
  unfold f_X5_soonestThrough_70 at hf
  refine z_iload_n C dX5_soonestThrough_70 rfl 3 rfl ?_
  refine z_iload C dX5_soonestThrough_71 5 rfl ?_
  refine z_mmin C (st := []) dX5_soonestThrough_73 ml_X5_67 mm_min.1 mm_i mm_min.2 ⟨Nat.le_of_ble_eq_true rfl, Nat.le_of_ble_eq_true rfl⟩ (Nat.le_of_ble_eq_true rfl) ?_
  refine z_istore_n C (lv2 := [(3, .int (imin x3 x5)), (0, .ref (g.1 o0)), (1, .ref (g.1 o1)), (2, .int x2), (4, .int x4), (5, .int x5)]) dX5_soonestThrough_76 rfl (by decide) rfl ?_
  exact z_sub [1, 2, 3, 0, 4] rfl (b_X5_soonestThrough_77 C hr hk hK6 z o0 o1 x2 (imin x3 x5) x4 ho0 ho1 hf)
def f_X5_soonestThrough_24 (K6 : St → Nat → Nat → Int32 → Int32 → Int32 → Option (St × Int32)) (z : St) (o0 : Nat) (o1 : Nat) (x2 : Int32) (x3 : Int32) (x4 : Int32) : Option (St × Int32) :=
  ((f_X5_throughOf z o0 (x2 &&& (((1 : Int32) <<< (x4 &&& 31)) ^^^ ((-1))))).bind fun r1 => ((f_X4_comesOf r1.1 o1 x4).bind fun r3 => ((f_X4_takesOf r3.1 o1 x4).bind fun r5 => ((f_X4_coolsOf r5.1 o1 x4).bind fun r7 => if (r7.1.1 o0 5) < (((imax r1.2 r3.2) + r5.2) + r7.2) then f_X5_soonestThrough_77 K6 r7.1 o0 o1 x2 x3 x4 else f_X5_soonestThrough_70 K6 r7.1 o0 o1 x2 x3 x4 ((imax r1.2 r3.2) + r5.2)))))
theorem b_X5_soonestThrough_24 {p : Program} {l : Launch} {e : Env} {s : State} {m : MethodId} {args : Array Value} {below : List Frame} {meth : Method} {c : Code} {g : Ga} {A : Nat → Prop} (C : Cx l g A p s m args c cX5_soonestThrough 6 RX5 (rm_X5_soonestThrough) (0, 0)) (hr : meth.sig.returnType = (some .int)) (hk : meth.locks = false) {K6 : St → Nat → Nat → Int32 → Int32 → Int32 → Option (St × Int32)} (hK6 : ∀ (z : St) (o0 : Nat) (o1 : Nat) (x2 : Int32) (x3 : Int32) (x4 : Int32) (_ : kd o0 = 5) (_ : kd o1 = 4) {res : St × Int32}, K6 z o0 o1 x2 x3 x4 = some res → Zj p l e (rm_X5_soonestThrough) s m args below meth c g A 6 (0, 0) (QI g A below args s res) z 6 [(0, .ref (g.1 o0)), (1, .ref (g.1 o1)), (2, .int x2), (3, .int x3), (4, .int x4)] []) (z : St) (o0 : Nat) (o1 : Nat) (x2 : Int32) (x3 : Int32) (x4 : Int32) (ho0 : kd o0 = 5) (ho1 : kd o1 = 4) {res : St × Int32} (hf : f_X5_soonestThrough_24 K6 z o0 o1 x2 x3 x4 = some res) : Zj p l e (rm_X5_soonestThrough) s m args below meth c g A 6 (0, 0) (QI g A below args s res) z 24 [(0, .ref (g.1 o0)), (1, .ref (g.1 o1)), (2, .int x2), (3, .int x3), (4, .int x4)] [] := by
  unfold f_X5_soonestThrough_24 at hf
  refine z_aload_n C dX5_soonestThrough_24 rfl 0 rfl ?_
  refine z_iload_n C dX5_soonestThrough_25 rfl 2 rfl ?_
  refine z_iconst C dX5_soonestThrough_26 (v := 1) (by decide) ?_
  refine z_iload C dX5_soonestThrough_27 4 rfl ?_
  refine z_ishl C dX5_soonestThrough_29 ?_
  refine z_iconst C dX5_soonestThrough_30 (v := (-1)) (by decide) ?_
  refine z_ixor C dX5_soonestThrough_31 ?_
  refine z_iand C dX5_soonestThrough_32 ?_
  obtain ⟨r1, hc2, hf⟩ := q_bd hf
  refine z_cVi C (st := []) (c_X5_throughOf ho0 hc2) mw_X5_throughOf ml_X5_48 ho0 (by decide) rfl dX5_soonestThrough_33 rfl rfl rfl ⟨Nat.le_of_ble_eq_true rfl, Nat.le_of_ble_eq_true rfl⟩ rfl (Nat.le_of_ble_eq_true rfl) ?_
  refine z_aload_n C dX5_soonestThrough_36 rfl 1 rfl ?_
  refine z_iload C dX5_soonestThrough_37 4 rfl ?_
  obtain ⟨r3, hc4, hf⟩ := q_bd hf
  refine z_cVi C (st := [.int r1.2]) (c_X4_comesOf ho1 hc4) mw_X4_comesOf ml_X5_52 ho1 (by decide) rfl dX5_soonestThrough_39 rfl rfl rfl ⟨Nat.le_of_ble_eq_true rfl, Nat.le_of_ble_eq_true rfl⟩ rfl (Nat.le_of_ble_eq_true rfl) ?_
  refine z_mmax C (st := []) dX5_soonestThrough_42 ml_X5_55 mm_max.1 mm_i mm_max.2 ⟨Nat.le_of_ble_eq_true rfl, Nat.le_of_ble_eq_true rfl⟩ (Nat.le_of_ble_eq_true rfl) ?_
  refine z_aload_n C dX5_soonestThrough_45 rfl 1 rfl ?_
  refine z_iload C dX5_soonestThrough_46 4 rfl ?_
  obtain ⟨r5, hc6, hf⟩ := q_bd hf
  refine z_cVi C (st := [.int (imax r1.2 r3.2)]) (c_X4_takesOf ho1 hc6) mw_X4_takesOf ml_X5_61 ho1 (by decide) rfl dX5_soonestThrough_48 rfl rfl rfl ⟨Nat.le_of_ble_eq_true rfl, Nat.le_of_ble_eq_true rfl⟩ rfl (Nat.le_of_ble_eq_true rfl) ?_
  refine z_iadd C dX5_soonestThrough_51 ?_
  refine z_istore C (lv2 := [(5, .int ((imax r1.2 r3.2) + r5.2)), (0, .ref (g.1 o0)), (1, .ref (g.1 o1)), (2, .int x2), (3, .int x3), (4, .int x4)]) dX5_soonestThrough_52 (by decide) rfl ?_
  refine z_iload C dX5_soonestThrough_54 0 rfl ?_
  refine z_aload_n C dX5_soonestThrough_56 rfl 2 rfl ?_
  refine z_iload C dX5_soonestThrough_57 5 rfl ?_
  obtain ⟨r7, hc8, hf⟩ := q_bd hf
  refine z_cVi C (st := [.int ((imax r1.2 r3.2) + r5.2)]) (c_X4_coolsOf ho1 hc8) mw_X4_coolsOf ml_X5_64 ho1 (by decide) rfl dX5_soonestThrough_59 rfl rfl rfl ⟨Nat.le_of_ble_eq_true rfl, Nat.le_of_ble_eq_true rfl⟩ rfl (Nat.le_of_ble_eq_true rfl) ?_
  refine z_iadd C dX5_soonestThrough_62 ?_
  refine z_aload_n C dX5_soonestThrough_63 rfl 1 rfl ?_
  refine gf_X5_33 C dX5_soonestThrough_64 ho0 ?_
  exact z_icmp_gt C dX5_soonestThrough_67 (by decide) (fun h => z_sub [1, 2, 3, 4, 5] rfl (b_X5_soonestThrough_77 C hr hk hK6 r7.1 o0 o1 x2 x3 x4 ho0 ho1 (q_t hf h))) (fun h => z_sub [1, 2, 3, 4, 5, 0] rfl (b_X5_soonestThrough_70 C hr hk hK6 r7.1 o0 o1 x2 x3 x4 ((imax r1.2 r3.2) + r5.2) ho0 ho1 (q_f hf h)))
def f_X5_soonestThrough_15 (K6 : St → Nat → Nat → Int32 → Int32 → Int32 → Option (St × Int32)) (z : St) (o0 : Nat) (o1 : Nat) (x2 : Int32) (x3 : Int32) (x4 : Int32) : Option (St × Int32) :=
  if ((x2 >>> (x4 &&& 31)) &&& 1) = 0 then f_X5_soonestThrough_77 K6 z o0 o1 x2 x3 x4 else f_X5_soonestThrough_24 K6 z o0 o1 x2 x3 x4
theorem b_X5_soonestThrough_15 {p : Program} {l : Launch} {e : Env} {s : State} {m : MethodId} {args : Array Value} {below : List Frame} {meth : Method} {c : Code} {g : Ga} {A : Nat → Prop} (C : Cx l g A p s m args c cX5_soonestThrough 6 RX5 (rm_X5_soonestThrough) (0, 0)) (hr : meth.sig.returnType = (some .int)) (hk : meth.locks = false) {K6 : St → Nat → Nat → Int32 → Int32 → Int32 → Option (St × Int32)} (hK6 : ∀ (z : St) (o0 : Nat) (o1 : Nat) (x2 : Int32) (x3 : Int32) (x4 : Int32) (_ : kd o0 = 5) (_ : kd o1 = 4) {res : St × Int32}, K6 z o0 o1 x2 x3 x4 = some res → Zj p l e (rm_X5_soonestThrough) s m args below meth c g A 6 (0, 0) (QI g A below args s res) z 6 [(0, .ref (g.1 o0)), (1, .ref (g.1 o1)), (2, .int x2), (3, .int x3), (4, .int x4)] []) (z : St) (o0 : Nat) (o1 : Nat) (x2 : Int32) (x3 : Int32) (x4 : Int32) (ho0 : kd o0 = 5) (ho1 : kd o1 = 4) {res : St × Int32} (hf : f_X5_soonestThrough_15 K6 z o0 o1 x2 x3 x4 = some res) : Zj p l e (rm_X5_soonestThrough) s m args below meth c g A 6 (0, 0) (QI g A below args s res) z 15 [(0, .ref (g.1 o0)), (1, .ref (g.1 o1)), (2, .int x2), (3, .int x3), (4, .int x4)] [] := by
  unfold f_X5_soonestThrough_15 at hf
  refine z_iload_n C dX5_soonestThrough_15 rfl 2 rfl ?_
  refine z_iload C dX5_soonestThrough_16 4 rfl ?_
  refine z_ishr C dX5_soonestThrough_18 ?_
  refine z_iconst C dX5_soonestThrough_19 (v := 1) (by decide) ?_
  refine z_iand C dX5_soonestThrough_20 ?_
  exact z_if_eq C dX5_soonestThrough_21 (by decide) (fun h => z_sub [0, 1, 2, 3, 4] rfl (b_X5_soonestThrough_77 C hr hk hK6 z o0 o1 x2 x3 x4 ho0 ho1 (q_t hf h))) (fun h => z_sub [0, 1, 2, 3, 4] rfl (b_X5_soonestThrough_24 C hr hk hK6 z o0 o1 x2 x3 x4 ho0 ho1 (q_f hf h)))
def f_X5_soonestThrough_83  (z : St) (x3 : Int32) : Option (St × Int32) :=
  some (z, x3)
theorem b_X5_soonestThrough_83 {p : Program} {l : Launch} {e : Env} {s : State} {m : MethodId} {args : Array Value} {below : List Frame} {meth : Method} {c : Code} {g : Ga} {A : Nat → Prop} (C : Cx l g A p s m args c cX5_soonestThrough 6 RX5 (rm_X5_soonestThrough) (0, 0)) (hr : meth.sig.returnType = (some .int)) (hk : meth.locks = false)   (z : St) (x3 : Int32)  {res : St × Int32} (hf : f_X5_soonestThrough_83  z x3 = some res) : Zj p l e (rm_X5_soonestThrough) s m args below meth c g A 6 (0, 0) (QI g A below args s res) z 83 [(3, .int x3)] [] := by
  unfold f_X5_soonestThrough_83 at hf
  refine z_iload_n C dX5_soonestThrough_83 rfl 0 rfl ?_
  cases hf
  exact z_iret C hr hk dX5_soonestThrough_84
def f_X5_soonestThrough_6  : Nat → St → Nat → Nat → Int32 → Int32 → Int32 → Option (St × Int32)
  | 0, _, _, _, _, _, _ => none
  | n + 1, z, o0, o1, x2, x3, x4 => if (z.1 o1 3) ≤ x4 then f_X5_soonestThrough_83 z x3 else f_X5_soonestThrough_15 (f_X5_soonestThrough_6 n) z o0 o1 x2 x3 x4
theorem b_X5_soonestThrough_6 {p : Program} {l : Launch} {e : Env} {s : State} {m : MethodId} {args : Array Value} {below : List Frame} {meth : Method} {c : Code} {g : Ga} {A : Nat → Prop} (C : Cx l g A p s m args c cX5_soonestThrough 6 RX5 (rm_X5_soonestThrough) (0, 0)) (hr : meth.sig.returnType = (some .int)) (hk : meth.locks = false)   : ∀ (n : Nat) (z : St) (o0 : Nat) (o1 : Nat) (x2 : Int32) (x3 : Int32) (x4 : Int32) (_ : kd o0 = 5) (_ : kd o1 = 4) {res : St × Int32} (_ : f_X5_soonestThrough_6  n z o0 o1 x2 x3 x4 = some res), Zj p l e (rm_X5_soonestThrough) s m args below meth c g A 6 (0, 0) (QI g A below args s res) z 6 [(0, .ref (g.1 o0)), (1, .ref (g.1 o1)), (2, .int x2), (3, .int x3), (4, .int x4)] [] := by
  intro n
  induction n with
  | zero =>
    intro z o0 o1 x2 x3 x4 ho0 ho1 res hf
    cases hf
  | succ n ih =>
    intro z o0 o1 x2 x3 x4 ho0 ho1 res hf
    rw [f_X5_soonestThrough_6] at hf
    refine z_iload C dX5_soonestThrough_6 4 rfl ?_
    refine z_aload_n C dX5_soonestThrough_8 rfl 1 rfl ?_
    refine gf_X5_45 C dX5_soonestThrough_9 ho1 ?_
    exact z_icmp_ge C dX5_soonestThrough_12 (by decide) (fun h => z_sub [3] rfl (b_X5_soonestThrough_83 C hr hk z x3 (q_t hf h))) (fun h => z_sub [0, 1, 2, 3, 4] rfl (b_X5_soonestThrough_15 C hr hk ih z o0 o1 x2 x3 x4 ho0 ho1 (q_f hf h)))
def f_X5_soonestThrough_0  (z : St) (o0 : Nat) (o1 : Nat) (x2 : Int32) : Option (St × Int32) :=
  f_X5_soonestThrough_6 FU z o0 o1 x2 1000000 0
theorem b_X5_soonestThrough_0 {p : Program} {l : Launch} {e : Env} {s : State} {m : MethodId} {args : Array Value} {below : List Frame} {meth : Method} {c : Code} {g : Ga} {A : Nat → Prop} (C : Cx l g A p s m args c cX5_soonestThrough 6 RX5 (rm_X5_soonestThrough) (0, 0)) (hr : meth.sig.returnType = (some .int)) (hk : meth.locks = false)   (z : St) (o0 : Nat) (o1 : Nat) (x2 : Int32) (ho0 : kd o0 = 5) (ho1 : kd o1 = 4) {res : St × Int32} (hf : f_X5_soonestThrough_0  z o0 o1 x2 = some res) : Zj p l e (rm_X5_soonestThrough) s m args below meth c g A 6 (0, 0) (QI g A below args s res) z 0 [(0, .ref (g.1 o0)), (1, .ref (g.1 o1)), (2, .int x2)] [] := by
  unfold f_X5_soonestThrough_0 at hf
  refine z_ldc C dX5_soonestThrough_0 kc_X5_44 ?_
  refine z_istore_n C (lv2 := [(3, .int 1000000), (0, .ref (g.1 o0)), (1, .ref (g.1 o1)), (2, .int x2)]) dX5_soonestThrough_2 rfl (by decide) rfl ?_
  refine z_iconst C dX5_soonestThrough_3 (v := 0) (by decide) ?_
  refine z_istore C (lv2 := [(4, .int 0), (3, .int 1000000), (0, .ref (g.1 o0)), (1, .ref (g.1 o1)), (2, .int x2)]) dX5_soonestThrough_4 (by decide) rfl ?_
  exact z_sub [2, 3, 4, 1, 0] rfl (b_X5_soonestThrough_6 C hr hk FU z o0 o1 x2 1000000 0 ho0 ho1 hf)
def f_X5_soonestThrough (z : St) (o0 : Nat) (o1 : Nat) (x2 : Int32) : Option (St × Int32) := f_X5_soonestThrough_0 z o0 o1 x2
theorem c_X5_soonestThrough {l : Launch} {g : Ga} {A : Nat → Prop} {z : St} {o0 : Nat} {o1 : Nat} {x2 : Int32} (ho0 : kd o0 = 5) (ho1 : kd o1 = 4) {res : St × Int32} (hf : f_X5_soonestThrough z o0 o1 x2 = some res) : CI l g A yX5_soonestThrough cX5_soonestThrough 6 (some .int) rm_X5_soonestThrough [.ref (g.1 o0), .ref (g.1 o1), .int x2] z res :=
  e_CI (by decide) (Nat.le_of_ble_eq_true rfl) rfl (fun p e s m args below meth c C hr hk => z_sub [0, 1, 2] rfl (b_X5_soonestThrough_0 C hr hk z o0 o1 x2 ho0 ho1 hf))
abbrev rm_X5_weigh : Room := { frames := 3, cells := 0, slots := 0, locals := 69 }
def f_X5_weigh_45 (K30 : St → Nat → Nat → Int32 → Option (St)) (z : St) (o0 : Nat) (o1 : Nat) (x3 : Int32) : Option (St) :=
  ((f_X5_soonestThrough z o0 o1 x3).bind fun r1 => if inb x3 256 = true then (((f_X5_latestTakenUp (zI r1.1 (rf o0 0) (Int32.toNatClampNeg x3) r1.2) o0 o1 x3).bind fun r4 => if inb x3 256 = true then (K30 (zI r4.1 (rf o0 1) (Int32.toNatClampNeg x3) r4.2) o0 o1 (x3 + 1)) else none)) else none)
theorem b_X5_weigh_45 {p : Program} {l : Launch} {e : Env} {s : State} {m : MethodId} {args : Array Value} {below : List Frame} {meth : Method} {c : Code} {g : Ga} {A : Nat → Prop} (C : Cx l g A p s m args c cX5_weigh 4 RX5 (rm_X5_weigh) (0, 0)) (hr : meth.sig.returnType = none) (hk : meth.locks = false) {K30 : St → Nat → Nat → Int32 → Option (St)} (hK30 : ∀ (z : St) (o0 : Nat) (o1 : Nat) (x3 : Int32) (_ : kd o0 = 5) (_ : kd o1 = 4) {res : St}, K30 z o0 o1 x3 = some res → Zj p l e (rm_X5_weigh) s m args below meth c g A 4 (0, 0) (QV g A below args s res) z 30 [(0, .ref (g.1 o0)), (1, .ref (g.1 o1)), (3, .int x3)] []) (z : St) (o0 : Nat) (o1 : Nat) (x3 : Int32) (ho0 : kd o0 = 5) (ho1 : kd o1 = 4) {res : St} (hf : f_X5_weigh_45 K30 z o0 o1 x3 = some res) : Zj p l e (rm_X5_weigh) s m args below meth c g A 4 (0, 0) (QV g A below args s res) z 45 [(0, .ref (g.1 o0)), (1, .ref (g.1 o1)), (3, .int x3)] [] := by
  unfold f_X5_weigh_45 at hf
  refine z_aload_n C dX5_weigh_45 rfl 0 rfl ?_
  refine gf_X5_9 C dX5_weigh_46 ho0 ?_
  refine z_iload_n C dX5_weigh_49 rfl 2 rfl ?_
  refine z_aload_n C dX5_weigh_50 rfl 0 rfl ?_
  refine z_aload_n C dX5_weigh_51 rfl 1 rfl ?_
  refine z_iload_n C dX5_weigh_52 rfl 2 rfl ?_
  obtain ⟨r1, hc2, hf⟩ := q_bd hf
  refine z_cVi C (st := [.int x3, .ref (g.1 (rf o0 0))]) (c_X5_soonestThrough ho0 ho1 hc2) mw_X5_soonestThrough ml_X5_37 ho0 (by decide) rfl dX5_weigh_53 rfl rfl rfl ⟨Nat.le_of_ble_eq_true rfl, Nat.le_of_ble_eq_true rfl⟩ rfl (Nat.le_of_ble_eq_true rfl) ?_
  obtain ⟨h3, hf⟩ := q_ck hf
  refine z_iast C (n := 256) dX5_weigh_56 (rt_5_0 _ (kd_lt ho0 (by decide)) ho0) (by decide) h3 ?_
  refine z_aload_n C dX5_weigh_57 rfl 0 rfl ?_
  refine gf_X5_15 C dX5_weigh_58 ho0 ?_
  refine z_iload_n C dX5_weigh_61 rfl 2 rfl ?_
  refine z_aload_n C dX5_weigh_62 rfl 0 rfl ?_
  refine z_aload_n C dX5_weigh_63 rfl 1 rfl ?_
  refine z_iload_n C dX5_weigh_64 rfl 2 rfl ?_
  obtain ⟨r4, hc5, hf⟩ := q_bd hf
  refine z_cVi C (st := [.int x3, .ref (g.1 (rf o0 1))]) (c_X5_latestTakenUp ho0 ho1 hc5) mw_X5_latestTakenUp ml_X5_41 ho0 (by decide) rfl dX5_weigh_65 rfl rfl rfl ⟨Nat.le_of_ble_eq_true rfl, Nat.le_of_ble_eq_true rfl⟩ rfl (Nat.le_of_ble_eq_true rfl) ?_
  obtain ⟨h6, hf⟩ := q_ck hf
  refine z_iast C (n := 256) dX5_weigh_68 (rt_5_1 _ (kd_lt ho0 (by decide)) ho0) (by decide) h6 ?_
  refine z_iinc C (k := 2) (v := x3 + 1) (lv2 := [(3, .int (x3 + 1)), (0, .ref (g.1 o0)), (1, .ref (g.1 o1))]) dX5_weigh_69 rfl rfl (by decide) rfl ?_
  exact z_goto C dX5_weigh_72 (by decide) (z_sub [1, 2, 0] rfl (hK30 (zI r4.1 (rf o0 1) (Int32.toNatClampNeg x3) r4.2) o0 o1 (x3 + 1) ho0 ho1 hf))
def f_X5_weigh_75  (z : St)  : Option (St) :=
  some z
theorem b_X5_weigh_75 {p : Program} {l : Launch} {e : Env} {s : State} {m : MethodId} {args : Array Value} {below : List Frame} {meth : Method} {c : Code} {g : Ga} {A : Nat → Prop} (C : Cx l g A p s m args c cX5_weigh 4 RX5 (rm_X5_weigh) (0, 0)) (hr : meth.sig.returnType = none) (hk : meth.locks = false)   (z : St)   {res : St} (hf : f_X5_weigh_75  z  = some res) : Zj p l e (rm_X5_weigh) s m args below meth c g A 4 (0, 0) (QV g A below args s res) z 75 [] [] := by
  unfold f_X5_weigh_75 at hf
  cases hf
  exact z_vret C hr hk dX5_weigh_75
def f_X5_weigh_38 (K30 : St → Nat → Nat → Int32 → Option (St)) (z : St) (o0 : Nat) (o1 : Nat) (x3 : Int32) : Option (St) :=
  if 256 ≤ x3 then f_X5_weigh_75 z else f_X5_weigh_45 K30 z o0 o1 x3
theorem b_X5_weigh_38 {p : Program} {l : Launch} {e : Env} {s : State} {m : MethodId} {args : Array Value} {below : List Frame} {meth : Method} {c : Code} {g : Ga} {A : Nat → Prop} (C : Cx l g A p s m args c cX5_weigh 4 RX5 (rm_X5_weigh) (0, 0)) (hr : meth.sig.returnType = none) (hk : meth.locks = false) {K30 : St → Nat → Nat → Int32 → Option (St)} (hK30 : ∀ (z : St) (o0 : Nat) (o1 : Nat) (x3 : Int32) (_ : kd o0 = 5) (_ : kd o1 = 4) {res : St}, K30 z o0 o1 x3 = some res → Zj p l e (rm_X5_weigh) s m args below meth c g A 4 (0, 0) (QV g A below args s res) z 30 [(0, .ref (g.1 o0)), (1, .ref (g.1 o1)), (3, .int x3)] []) (z : St) (o0 : Nat) (o1 : Nat) (x3 : Int32) (ho0 : kd o0 = 5) (ho1 : kd o1 = 4) {res : St} (hf : f_X5_weigh_38 K30 z o0 o1 x3 = some res) : Zj p l e (rm_X5_weigh) s m args below meth c g A 4 (0, 0) (QV g A below args s res) z 38 [(0, .ref (g.1 o0)), (1, .ref (g.1 o1)), (3, .int x3)] [] := by
  unfold f_X5_weigh_38 at hf
  refine z_iload_n C dX5_weigh_38 rfl 2 rfl ?_
  refine z_sipush C dX5_weigh_39 (v := 256) (by decide) ?_
  exact z_icmp_ge C dX5_weigh_42 (by decide) (fun h => z_sub [] rfl (b_X5_weigh_75 C hr hk z (q_t hf h))) (fun h => z_sub [0, 1, 2] rfl (b_X5_weigh_45 C hr hk hK30 z o0 o1 x3 ho0 ho1 (q_f hf h)))
def f_X5_weigh_30  : Nat → St → Nat → Nat → Int32 → Option (St)
  | 0, _, _, _, _ => none
  | n + 1, z, o0, o1, x3 => if (z.1 o0 4) < x3 then f_X5_weigh_75 z else f_X5_weigh_38 (f_X5_weigh_30 n) z o0 o1 x3
theorem b_X5_weigh_30 {p : Program} {l : Launch} {e : Env} {s : State} {m : MethodId} {args : Array Value} {below : List Frame} {meth : Method} {c : Code} {g : Ga} {A : Nat → Prop} (C : Cx l g A p s m args c cX5_weigh 4 RX5 (rm_X5_weigh) (0, 0)) (hr : meth.sig.returnType = none) (hk : meth.locks = false)   : ∀ (n : Nat) (z : St) (o0 : Nat) (o1 : Nat) (x3 : Int32) (_ : kd o0 = 5) (_ : kd o1 = 4) {res : St} (_ : f_X5_weigh_30  n z o0 o1 x3 = some res), Zj p l e (rm_X5_weigh) s m args below meth c g A 4 (0, 0) (QV g A below args s res) z 30 [(0, .ref (g.1 o0)), (1, .ref (g.1 o1)), (3, .int x3)] [] := by
  intro n
  induction n with
  | zero =>
    intro z o0 o1 x3 ho0 ho1 res hf
    cases hf
  | succ n ih =>
    intro z o0 o1 x3 ho0 ho1 res hf
    rw [f_X5_weigh_30] at hf
    refine z_iload_n C dX5_weigh_30 rfl 2 rfl ?_
    refine z_aload_n C dX5_weigh_31 rfl 0 rfl ?_
    refine gf_X5_30 C dX5_weigh_32 ho0 ?_
    exact z_icmp_gt C dX5_weigh_35 (by decide) (fun h => z_sub [] rfl (b_X5_weigh_75 C hr hk z (q_t hf h))) (fun h => z_sub [0, 1, 2] rfl (b_X5_weigh_38 C hr hk ih z o0 o1 x3 ho0 ho1 (q_f hf h)))
def f_X5_weigh_0  (z : St) (o0 : Nat) (o1 : Nat) (x2 : Int32) : Option (St) :=
  ((f_X4_everyone z o1).bind fun r1 => if inb 0 256 = true then (if inb 0 256 = true then (f_X5_weigh_30 FU (zI (zI (zI (zI r1.1 o0 4 r1.2) o0 5 x2) (rf o0 0) (Int32.toNatClampNeg 0) 0) (rf o0 1) (Int32.toNatClampNeg 0) 100000) o0 o1 1) else none) else none)
theorem b_X5_weigh_0 {p : Program} {l : Launch} {e : Env} {s : State} {m : MethodId} {args : Array Value} {below : List Frame} {meth : Method} {c : Code} {g : Ga} {A : Nat → Prop} (C : Cx l g A p s m args c cX5_weigh 4 RX5 (rm_X5_weigh) (0, 0)) (hr : meth.sig.returnType = none) (hk : meth.locks = false)   (z : St) (o0 : Nat) (o1 : Nat) (x2 : Int32) (ho0 : kd o0 = 5) (ho1 : kd o1 = 4) {res : St} (hf : f_X5_weigh_0  z o0 o1 x2 = some res) : Zj p l e (rm_X5_weigh) s m args below meth c g A 4 (0, 0) (QV g A below args s res) z 0 [(0, .ref (g.1 o0)), (1, .ref (g.1 o1)), (2, .int x2)] [] := by
  unfold f_X5_weigh_0 at hf
  refine z_aload_n C dX5_weigh_0 rfl 0 rfl ?_
  refine z_aload_n C dX5_weigh_1 rfl 1 rfl ?_
  obtain ⟨r1, hc2, hf⟩ := q_bd hf
  refine z_cVi C (st := [.ref (g.1 o0)]) (c_X4_everyone ho1 hc2) mw_X4_everyone ml_X5_24 ho1 (by decide) rfl dX5_weigh_2 rfl rfl rfl ⟨Nat.le_of_ble_eq_true rfl, Nat.le_of_ble_eq_true rfl⟩ rfl (Nat.le_of_ble_eq_true rfl) ?_
  refine pf_X5_30 C dX5_weigh_5 ho0 ?_
  refine z_aload_n C dX5_weigh_8 rfl 0 rfl ?_
  refine z_iload_n C dX5_weigh_9 rfl 2 rfl ?_
  refine pf_X5_33 C dX5_weigh_10 ho0 ?_
  refine z_aload_n C dX5_weigh_13 rfl 0 rfl ?_
  refine gf_X5_9 C dX5_weigh_14 ho0 ?_
  refine z_iconst C dX5_weigh_17 (v := 0) (by decide) ?_
  refine z_iconst C dX5_weigh_18 (v := 0) (by decide) ?_
  obtain ⟨h3, hf⟩ := q_ck hf
  refine z_iast C (n := 256) dX5_weigh_19 (rt_5_0 _ (kd_lt ho0 (by decide)) ho0) (by decide) h3 ?_
  refine z_aload_n C dX5_weigh_20 rfl 0 rfl ?_
  refine gf_X5_15 C dX5_weigh_21 ho0 ?_
  refine z_iconst C dX5_weigh_24 (v := 0) (by decide) ?_
  refine z_ldc C dX5_weigh_25 kc_X5_36 ?_
  obtain ⟨h4, hf⟩ := q_ck hf
  refine z_iast C (n := 256) dX5_weigh_27 (rt_5_1 _ (kd_lt ho0 (by decide)) ho0) (by decide) h4 ?_
  refine z_iconst C dX5_weigh_28 (v := 1) (by decide) ?_
  refine z_istore_n C (lv2 := [(3, .int 1), (0, .ref (g.1 o0)), (1, .ref (g.1 o1)), (2, .int x2)]) dX5_weigh_29 rfl (by decide) rfl ?_
  exact z_sub [1, 2, 0] rfl (b_X5_weigh_30 C hr hk FU (zI (zI (zI (zI r1.1 o0 4 r1.2) o0 5 x2) (rf o0 0) (Int32.toNatClampNeg 0) 0) (rf o0 1) (Int32.toNatClampNeg 0) 100000) o0 o1 1 ho0 ho1 hf)
def f_X5_weigh (z : St) (o0 : Nat) (o1 : Nat) (x2 : Int32) : Option (St) := f_X5_weigh_0 z o0 o1 x2
theorem c_X5_weigh {l : Launch} {g : Ga} {A : Nat → Prop} {z : St} {o0 : Nat} {o1 : Nat} {x2 : Int32} (ho0 : kd o0 = 5) (ho1 : kd o1 = 4) {res : St} (hf : f_X5_weigh z o0 o1 x2 = some res) : CV l g A yX5_weigh cX5_weigh 4 none rm_X5_weigh [.ref (g.1 o0), .ref (g.1 o1), .int x2] z res :=
  e_CV (by decide) (Nat.le_of_ble_eq_true rfl) rfl (fun p e s m args below meth c C hr hk => z_sub [0, 1, 2] rfl (b_X5_weigh_0 C hr hk z o0 o1 x2 ho0 ho1 hf))
abbrev rm_X5_canStandAhead : Room := { frames := 1, cells := 0, slots := 0, locals := 21 }
def f_X5_canStandAhead_25  (z : St) (s0 : Int32) : Option (St × Int32) :=
  if zb s0 = true then some (z, s0) else none
theorem b_X5_canStandAhead_25 {p : Program} {l : Launch} {e : Env} {s : State} {m : MethodId} {args : Array Value} {below : List Frame} {meth : Method} {c : Code} {g : Ga} {A : Nat → Prop} (C : Cx l g A p s m args c cX5_canStandAhead 2 RX5 (rm_X5_canStandAhead) (0, 0)) (hr : meth.sig.returnType = (some .boolean)) (hk : meth.locks = false)   (z : St) (s0 : Int32)  {res : St × Int32} (hf : f_X5_canStandAhead_25  z s0 = some res) : Zj p l e (rm_X5_canStandAhead) s m args below meth c g A 2 (0, 0) (QI g A below args s res) z 25 [] [.int s0] := by
  unfold f_X5_canStandAhead_25 at hf
  obtain ⟨h1, hf⟩ := q_ck hf
  cases hf
  exact z_zret C hr hk h1 dX5_canStandAhead_25
def f_X5_canStandAhead_20  (z : St)  : Option (St × Int32) :=
  f_X5_canStandAhead_25 z 1
theorem b_X5_canStandAhead_20 {p : Program} {l : Launch} {e : Env} {s : State} {m : MethodId} {args : Array Value} {below : List Frame} {meth : Method} {c : Code} {g : Ga} {A : Nat → Prop} (C : Cx l g A p s m args c cX5_canStandAhead 2 RX5 (rm_X5_canStandAhead) (0, 0)) (hr : meth.sig.returnType = (some .boolean)) (hk : meth.locks = false)   (z : St)   {res : St × Int32} (hf : f_X5_canStandAhead_20  z  = some res) : Zj p l e (rm_X5_canStandAhead) s m args below meth c g A 2 (0, 0) (QI g A below args s res) z 20 [] [] := by
  unfold f_X5_canStandAhead_20 at hf
  refine z_iconst C dX5_canStandAhead_20 (v := 1) (by decide) ?_
  exact z_goto C dX5_canStandAhead_21 (by decide) (z_sub [] rfl (b_X5_canStandAhead_25 C hr hk z 1 hf))
def f_X5_canStandAhead_24  (z : St)  : Option (St × Int32) :=
  f_X5_canStandAhead_25 z 0
theorem b_X5_canStandAhead_24 {p : Program} {l : Launch} {e : Env} {s : State} {m : MethodId} {args : Array Value} {below : List Frame} {meth : Method} {c : Code} {g : Ga} {A : Nat → Prop} (C : Cx l g A p s m args c cX5_canStandAhead 2 RX5 (rm_X5_canStandAhead) (0, 0)) (hr : meth.sig.returnType = (some .boolean)) (hk : meth.locks = false)   (z : St)   {res : St × Int32} (hf : f_X5_canStandAhead_24  z  = some res) : Zj p l e (rm_X5_canStandAhead) s m args below meth c g A 2 (0, 0) (QI g A below args s res) z 24 [] [] := by
  unfold f_X5_canStandAhead_24 at hf
  refine z_iconst C dX5_canStandAhead_24 (v := 0) (by decide) ?_
  exact z_sub [] rfl (b_X5_canStandAhead_25 C hr hk z 0 hf)
def f_X5_canStandAhead_0  (z : St) (o0 : Nat) (x1 : Int32) : Option (St × Int32) :=
  ((f_X5_throughOf z o0 x1).bind fun r1 => ((f_X5_takenUpOf r1.1 o0 ((r1.1.1 o0 4) &&& (x1 ^^^ ((-1))))).bind fun r3 => if r3.2 < r1.2 then f_X5_canStandAhead_24 r3.1 else f_X5_canStandAhead_20 r3.1))
theorem b_X5_canStandAhead_0 {p : Program} {l : Launch} {e : Env} {s : State} {m : MethodId} {args : Array Value} {below : List Frame} {meth : Method} {c : Code} {g : Ga} {A : Nat → Prop} (C : Cx l g A p s m args c cX5_canStandAhead 2 RX5 (rm_X5_canStandAhead) (0, 0)) (hr : meth.sig.returnType = (some .boolean)) (hk : meth.locks = false)   (z : St) (o0 : Nat) (x1 : Int32) (ho0 : kd o0 = 5) {res : St × Int32} (hf : f_X5_canStandAhead_0  z o0 x1 = some res) : Zj p l e (rm_X5_canStandAhead) s m args below meth c g A 2 (0, 0) (QI g A below args s res) z 0 [(0, .ref (g.1 o0)), (1, .int x1)] [] := by
  unfold f_X5_canStandAhead_0 at hf
  refine z_aload_n C dX5_canStandAhead_0 rfl 0 rfl ?_
  refine z_iload_n C dX5_canStandAhead_1 rfl 1 rfl ?_
  obtain ⟨r1, hc2, hf⟩ := q_bd hf
  refine z_cVi C (st := []) (c_X5_throughOf ho0 hc2) mw_X5_throughOf ml_X5_48 ho0 (by decide) rfl dX5_canStandAhead_2 rfl rfl rfl ⟨Nat.le_of_ble_eq_true rfl, Nat.le_of_ble_eq_true rfl⟩ rfl (Nat.le_of_ble_eq_true rfl) ?_
  refine z_aload_n C dX5_canStandAhead_5 rfl 0 rfl ?_
  refine z_aload_n C dX5_canStandAhead_6 rfl 0 rfl ?_
  refine gf_X5_30 C dX5_canStandAhead_7 ho0 ?_
  refine z_iload_n C dX5_canStandAhead_10 rfl 1 rfl ?_
  refine z_iconst C dX5_canStandAhead_11 (v := (-1)) (by decide) ?_
  refine z_ixor C dX5_canStandAhead_12 ?_
  refine z_iand C dX5_canStandAhead_13 ?_
  obtain ⟨r3, hc4, hf⟩ := q_bd hf
  refine z_cVi C (st := [.int r1.2]) (c_X5_takenUpOf ho0 hc4) mw_X5_takenUpOf ml_X5_74 ho0 (by decide) rfl dX5_canStandAhead_14 rfl rfl rfl ⟨Nat.le_of_ble_eq_true rfl, Nat.le_of_ble_eq_true rfl⟩ rfl (Nat.le_of_ble_eq_true rfl) ?_
  exact z_icmp_gt C dX5_canStandAhead_17 (by decide) (fun h => z_sub [] rfl (b_X5_canStandAhead_24 C hr hk r3.1 (q_t hf h))) (fun h => z_sub [] rfl (b_X5_canStandAhead_20 C hr hk r3.1 (q_f hf h)))
def f_X5_canStandAhead (z : St) (o0 : Nat) (x1 : Int32) : Option (St × Int32) := f_X5_canStandAhead_0 z o0 x1
theorem c_X5_canStandAhead {l : Launch} {g : Ga} {A : Nat → Prop} {z : St} {o0 : Nat} {x1 : Int32} (ho0 : kd o0 = 5) {res : St × Int32} (hf : f_X5_canStandAhead z o0 x1 = some res) : CI l g A yX5_canStandAhead cX5_canStandAhead 2 (some .boolean) rm_X5_canStandAhead [.ref (g.1 o0), .int x1] z res :=
  e_CI (by decide) (Nat.le_of_ble_eq_true rfl) rfl (fun p e s m args below meth c C hr hk => z_sub [0, 1] rfl (b_X5_canStandAhead_0 C hr hk z o0 x1 ho0 hf))
abbrev rm_X5_aheadOf : Room := { frames := 2, cells := 0, slots := 0, locals := 42 }
def f_X5_aheadOf_35 (K7 : St → Nat → Int32 → Int32 → Int32 → Option (St × Int32)) (z : St) (o0 : Nat) (x1 : Int32) (x2 : Int32) (x3 : Int32) : Option (St × Int32) :=
  K7 z o0 x1 x2 (x3 + 1)
theorem b_X5_aheadOf_35 {p : Program} {l : Launch} {e : Env} {s : State} {m : MethodId} {args : Array Value} {below : List Frame} {meth : Method} {c : Code} {g : Ga} {A : Nat → Prop} (C : Cx l g A p s m args c cX5_aheadOf 4 RX5 (rm_X5_aheadOf) (0, 0)) (hr : meth.sig.returnType = (some .int)) (hk : meth.locks = false) {K7 : St → Nat → Int32 → Int32 → Int32 → Option (St × Int32)} (hK7 : ∀ (z : St) (o0 : Nat) (x1 : Int32) (x2 : Int32) (x3 : Int32) (_ : kd o0 = 5) {res : St × Int32}, K7 z o0 x1 x2 x3 = some res → Zj p l e (rm_X5_aheadOf) s m args below meth c g A 4 (0, 0) (QI g A below args s res) z 7 [(0, .ref (g.1 o0)), (1, .int x1), (2, .int x2), (3, .int x3)] []) (z : St) (o0 : Nat) (x1 : Int32) (x2 : Int32) (x3 : Int32) (ho0 : kd o0 = 5) {res : St × Int32} (hf : f_X5_aheadOf_35 K7 z o0 x1 x2 x3 = some res) : Zj p l e (rm_X5_aheadOf) s m args below meth c g A 4 (0, 0) (QI g A below args s res) z 35 [(0, .ref (g.1 o0)), (1, .int x1), (2, .int x2), (3, .int x3)] [] := by
  unfold f_X5_aheadOf_35 at hf
  refine z_iinc C (k := 3) (v := x3 + 1) (lv2 := [(3, .int (x3 + 1)), (0, .ref (g.1 o0)), (1, .int x1), (2, .int x2)]) dX5_aheadOf_35 rfl rfl (by decide) rfl ?_
  exact z_goto C dX5_aheadOf_38 (by decide) (z_sub [1, 2, 3, 0] rfl (hK7 z o0 x1 x2 (x3 + 1) ho0 hf))
def f_X5_aheadOf_31 (K7 : St → Nat → Int32 → Int32 → Int32 → Option (St × Int32)) (z : St) (o0 : Nat) (x1 : Int32) (x2 : Int32) (x3 : Int32) : Option (St × Int32) :=
  f_X5_aheadOf_35 K7 z o0 x1 (x2 &&& x3) x3
theorem b_X5_aheadOf_31 {p : Program} {l : Launch} {e : Env} {s : State} {m : MethodId} {args : Array Value} {below : List Frame} {meth : Method} {c : Code} {g : Ga} {A : Nat → Prop} (C : Cx l g A p s m args c cX5_aheadOf 4 RX5 (rm_X5_aheadOf) (0, 0)) (hr : meth.sig.returnType = (some .int)) (hk : meth.locks = false) {K7 : St → Nat → Int32 → Int32 → Int32 → Option (St × Int32)} (hK7 : ∀ (z : St) (o0 : Nat) (x1 : Int32) (x2 : Int32) (x3 : Int32) (_ : kd o0 = 5) {res : St × Int32}, K7 z o0 x1 x2 x3 = some res → Zj p l e (rm_X5_aheadOf) s m args below meth c g A 4 (0, 0) (QI g A below args s res) z 7 [(0, .ref (g.1 o0)), (1, .int x1), (2, .int x2), (3, .int x3)] []) (z : St) (o0 : Nat) (x1 : Int32) (x2 : Int32) (x3 : Int32) (ho0 : kd o0 = 5) {res : St × Int32} (hf : f_X5_aheadOf_31 K7 z o0 x1 x2 x3 = some res) : Zj p l e (rm_X5_aheadOf) s m args below meth c g A 4 (0, 0) (QI g A below args s res) z 31 [(0, .ref (g.1 o0)), (1, .int x1), (2, .int x2), (3, .int x3)] [] := by
  unfold f_X5_aheadOf_31 at hf
  refine z_iload_n C dX5_aheadOf_31 rfl 2 rfl ?_
  refine z_iload_n C dX5_aheadOf_32 rfl 3 rfl ?_
  refine z_iand C dX5_aheadOf_33 ?_
  refine z_istore_n C (lv2 := [(2, .int (x2 &&& x3)), (0, .ref (g.1 o0)), (1, .int x1), (3, .int x3)]) dX5_aheadOf_34 rfl (by decide) rfl ?_
  exact z_sub [1, 2, 0, 3] rfl (b_X5_aheadOf_35 C hr hk hK7 z o0 x1 (x2 &&& x3) x3 ho0 hf)
def f_X5_aheadOf_23 (K7 : St → Nat → Int32 → Int32 → Int32 → Option (St × Int32)) (z : St) (o0 : Nat) (x1 : Int32) (x2 : Int32) (x3 : Int32) : Option (St × Int32) :=
  ((f_X5_canStandAhead z o0 x3).bind fun r1 => if r1.2 = 0 then f_X5_aheadOf_35 K7 r1.1 o0 x1 x2 x3 else f_X5_aheadOf_31 K7 r1.1 o0 x1 x2 x3)
theorem b_X5_aheadOf_23 {p : Program} {l : Launch} {e : Env} {s : State} {m : MethodId} {args : Array Value} {below : List Frame} {meth : Method} {c : Code} {g : Ga} {A : Nat → Prop} (C : Cx l g A p s m args c cX5_aheadOf 4 RX5 (rm_X5_aheadOf) (0, 0)) (hr : meth.sig.returnType = (some .int)) (hk : meth.locks = false) {K7 : St → Nat → Int32 → Int32 → Int32 → Option (St × Int32)} (hK7 : ∀ (z : St) (o0 : Nat) (x1 : Int32) (x2 : Int32) (x3 : Int32) (_ : kd o0 = 5) {res : St × Int32}, K7 z o0 x1 x2 x3 = some res → Zj p l e (rm_X5_aheadOf) s m args below meth c g A 4 (0, 0) (QI g A below args s res) z 7 [(0, .ref (g.1 o0)), (1, .int x1), (2, .int x2), (3, .int x3)] []) (z : St) (o0 : Nat) (x1 : Int32) (x2 : Int32) (x3 : Int32) (ho0 : kd o0 = 5) {res : St × Int32} (hf : f_X5_aheadOf_23 K7 z o0 x1 x2 x3 = some res) : Zj p l e (rm_X5_aheadOf) s m args below meth c g A 4 (0, 0) (QI g A below args s res) z 23 [(0, .ref (g.1 o0)), (1, .int x1), (2, .int x2), (3, .int x3)] [] := by
  unfold f_X5_aheadOf_23 at hf
  refine z_aload_n C dX5_aheadOf_23 rfl 0 rfl ?_
  refine z_iload_n C dX5_aheadOf_24 rfl 3 rfl ?_
  obtain ⟨r1, hc2, hf⟩ := q_bd hf
  refine z_cVi C (st := []) (c_X5_canStandAhead ho0 hc2) mw_X5_canStandAhead ml_X5_77 ho0 (by decide) rfl dX5_aheadOf_25 rfl rfl rfl ⟨Nat.le_of_ble_eq_true rfl, Nat.le_of_ble_eq_true rfl⟩ rfl (Nat.le_of_ble_eq_true rfl) ?_
  exact z_if_eq C dX5_aheadOf_28 (by decide) (fun h => z_sub [0, 1, 2, 3] rfl (b_X5_aheadOf_35 C hr hk hK7 r1.1 o0 x1 x2 x3 ho0 (q_t hf h))) (fun h => z_sub [0, 1, 2, 3] rfl (b_X5_aheadOf_31 C hr hk hK7 r1.1 o0 x1 x2 x3 ho0 (q_f hf h)))
def f_X5_aheadOf_15 (K7 : St → Nat → Int32 → Int32 → Int32 → Option (St × Int32)) (z : St) (o0 : Nat) (x1 : Int32) (x2 : Int32) (x3 : Int32) : Option (St × Int32) :=
  if ((x3 >>> (x1 &&& 31)) &&& 1) = 0 then f_X5_aheadOf_35 K7 z o0 x1 x2 x3 else f_X5_aheadOf_23 K7 z o0 x1 x2 x3
theorem b_X5_aheadOf_15 {p : Program} {l : Launch} {e : Env} {s : State} {m : MethodId} {args : Array Value} {below : List Frame} {meth : Method} {c : Code} {g : Ga} {A : Nat → Prop} (C : Cx l g A p s m args c cX5_aheadOf 4 RX5 (rm_X5_aheadOf) (0, 0)) (hr : meth.sig.returnType = (some .int)) (hk : meth.locks = false) {K7 : St → Nat → Int32 → Int32 → Int32 → Option (St × Int32)} (hK7 : ∀ (z : St) (o0 : Nat) (x1 : Int32) (x2 : Int32) (x3 : Int32) (_ : kd o0 = 5) {res : St × Int32}, K7 z o0 x1 x2 x3 = some res → Zj p l e (rm_X5_aheadOf) s m args below meth c g A 4 (0, 0) (QI g A below args s res) z 7 [(0, .ref (g.1 o0)), (1, .int x1), (2, .int x2), (3, .int x3)] []) (z : St) (o0 : Nat) (x1 : Int32) (x2 : Int32) (x3 : Int32) (ho0 : kd o0 = 5) {res : St × Int32} (hf : f_X5_aheadOf_15 K7 z o0 x1 x2 x3 = some res) : Zj p l e (rm_X5_aheadOf) s m args below meth c g A 4 (0, 0) (QI g A below args s res) z 15 [(0, .ref (g.1 o0)), (1, .int x1), (2, .int x2), (3, .int x3)] [] := by
  unfold f_X5_aheadOf_15 at hf
  refine z_iload_n C dX5_aheadOf_15 rfl 3 rfl ?_
  refine z_iload_n C dX5_aheadOf_16 rfl 1 rfl ?_
  refine z_ishr C dX5_aheadOf_17 ?_
  refine z_iconst C dX5_aheadOf_18 (v := 1) (by decide) ?_
  refine z_iand C dX5_aheadOf_19 ?_
  exact z_if_eq C dX5_aheadOf_20 (by decide) (fun h => z_sub [0, 1, 2, 3] rfl (b_X5_aheadOf_35 C hr hk hK7 z o0 x1 x2 x3 ho0 (q_t hf h))) (fun h => z_sub [0, 1, 2, 3] rfl (b_X5_aheadOf_23 C hr hk hK7 z o0 x1 x2 x3 ho0 (q_f hf h)))
def f_X5_aheadOf_41  (z : St) (x1 : Int32) (x2 : Int32) : Option (St × Int32) :=
  some (z, x2 &&& (((1 : Int32) <<< (x1 &&& 31)) ^^^ ((-1))))
theorem b_X5_aheadOf_41 {p : Program} {l : Launch} {e : Env} {s : State} {m : MethodId} {args : Array Value} {below : List Frame} {meth : Method} {c : Code} {g : Ga} {A : Nat → Prop} (C : Cx l g A p s m args c cX5_aheadOf 4 RX5 (rm_X5_aheadOf) (0, 0)) (hr : meth.sig.returnType = (some .int)) (hk : meth.locks = false)   (z : St) (x1 : Int32) (x2 : Int32)  {res : St × Int32} (hf : f_X5_aheadOf_41  z x1 x2 = some res) : Zj p l e (rm_X5_aheadOf) s m args below meth c g A 4 (0, 0) (QI g A below args s res) z 41 [(1, .int x1), (2, .int x2)] [] := by
  unfold f_X5_aheadOf_41 at hf
  refine z_iload_n C dX5_aheadOf_41 rfl 1 rfl ?_
  refine z_iconst C dX5_aheadOf_42 (v := 1) (by decide) ?_
  refine z_iload_n C dX5_aheadOf_43 rfl 0 rfl ?_
  refine z_ishl C dX5_aheadOf_44 ?_
  refine z_iconst C dX5_aheadOf_45 (v := (-1)) (by decide) ?_
  refine z_ixor C dX5_aheadOf_46 ?_
  refine z_iand C dX5_aheadOf_47 ?_
  cases hf
  exact z_iret C hr hk dX5_aheadOf_48
def f_X5_aheadOf_7  : Nat → St → Nat → Int32 → Int32 → Int32 → Option (St × Int32)
  | 0, _, _, _, _, _ => none
  | n + 1, z, o0, x1, x2, x3 => if (z.1 o0 4) < x3 then f_X5_aheadOf_41 z x1 x2 else f_X5_aheadOf_15 (f_X5_aheadOf_7 n) z o0 x1 x2 x3
theorem b_X5_aheadOf_7 {p : Program} {l : Launch} {e : Env} {s : State} {m : MethodId} {args : Array Value} {below : List Frame} {meth : Method} {c : Code} {g : Ga} {A : Nat → Prop} (C : Cx l g A p s m args c cX5_aheadOf 4 RX5 (rm_X5_aheadOf) (0, 0)) (hr : meth.sig.returnType = (some .int)) (hk : meth.locks = false)   : ∀ (n : Nat) (z : St) (o0 : Nat) (x1 : Int32) (x2 : Int32) (x3 : Int32) (_ : kd o0 = 5) {res : St × Int32} (_ : f_X5_aheadOf_7  n z o0 x1 x2 x3 = some res), Zj p l e (rm_X5_aheadOf) s m args below meth c g A 4 (0, 0) (QI g A below args s res) z 7 [(0, .ref (g.1 o0)), (1, .int x1), (2, .int x2), (3, .int x3)] [] := by
  intro n
  induction n with
  | zero =>
    intro z o0 x1 x2 x3 ho0 res hf
    cases hf
  | succ n ih =>
    intro z o0 x1 x2 x3 ho0 res hf
    rw [f_X5_aheadOf_7] at hf
    refine z_iload_n C dX5_aheadOf_7 rfl 3 rfl ?_
    refine z_aload_n C dX5_aheadOf_8 rfl 0 rfl ?_
    refine gf_X5_30 C dX5_aheadOf_9 ho0 ?_
    exact z_icmp_gt C dX5_aheadOf_12 (by decide) (fun h => z_sub [1, 2] rfl (b_X5_aheadOf_41 C hr hk z x1 x2 (q_t hf h))) (fun h => z_sub [0, 1, 2, 3] rfl (b_X5_aheadOf_15 C hr hk ih z o0 x1 x2 x3 ho0 (q_f hf h)))
def f_X5_aheadOf_0  (z : St) (o0 : Nat) (x1 : Int32) : Option (St × Int32) :=
  f_X5_aheadOf_7 FU z o0 x1 (z.1 o0 4) 1
theorem b_X5_aheadOf_0 {p : Program} {l : Launch} {e : Env} {s : State} {m : MethodId} {args : Array Value} {below : List Frame} {meth : Method} {c : Code} {g : Ga} {A : Nat → Prop} (C : Cx l g A p s m args c cX5_aheadOf 4 RX5 (rm_X5_aheadOf) (0, 0)) (hr : meth.sig.returnType = (some .int)) (hk : meth.locks = false)   (z : St) (o0 : Nat) (x1 : Int32) (ho0 : kd o0 = 5) {res : St × Int32} (hf : f_X5_aheadOf_0  z o0 x1 = some res) : Zj p l e (rm_X5_aheadOf) s m args below meth c g A 4 (0, 0) (QI g A below args s res) z 0 [(0, .ref (g.1 o0)), (1, .int x1)] [] := by
  unfold f_X5_aheadOf_0 at hf
  refine z_aload_n C dX5_aheadOf_0 rfl 0 rfl ?_
  refine gf_X5_30 C dX5_aheadOf_1 ho0 ?_
  refine z_istore_n C (lv2 := [(2, .int (z.1 o0 4)), (0, .ref (g.1 o0)), (1, .int x1)]) dX5_aheadOf_4 rfl (by decide) rfl ?_
  refine z_iconst C dX5_aheadOf_5 (v := 1) (by decide) ?_
  refine z_istore_n C (lv2 := [(3, .int 1), (2, .int (z.1 o0 4)), (0, .ref (g.1 o0)), (1, .int x1)]) dX5_aheadOf_6 rfl (by decide) rfl ?_
  exact z_sub [2, 3, 1, 0] rfl (b_X5_aheadOf_7 C hr hk FU z o0 x1 (z.1 o0 4) 1 ho0 hf)
def f_X5_aheadOf (z : St) (o0 : Nat) (x1 : Int32) : Option (St × Int32) := f_X5_aheadOf_0 z o0 x1
theorem c_X5_aheadOf {l : Launch} {g : Ga} {A : Nat → Prop} {z : St} {o0 : Nat} {x1 : Int32} (ho0 : kd o0 = 5) {res : St × Int32} (hf : f_X5_aheadOf z o0 x1 = some res) : CI l g A yX5_aheadOf cX5_aheadOf 4 (some .int) rm_X5_aheadOf [.ref (g.1 o0), .int x1] z res :=
  e_CI (by decide) (Nat.le_of_ble_eq_true rfl) rfl (fun p e s m args below meth c C hr hk => z_sub [0, 1] rfl (b_X5_aheadOf_0 C hr hk z o0 x1 ho0 hf))
abbrev rm_X5_roomOf : Room := { frames := 2, cells := 0, slots := 0, locals := 44 }
def f_X5_roomOf_70 (K5 : St → Nat → Nat → Int32 → Int32 → Int32 → Option (St × Int32)) (z : St) (o0 : Nat) (o1 : Nat) (x2 : Int32) (x3 : Int32) (x4 : Int32) : Option (St × Int32) :=
  K5 z o0 o1 x2 x3 (x4 + 1)
theorem b_X5_roomOf_70 {p : Program} {l : Launch} {e : Env} {s : State} {m : MethodId} {args : Array Value} {below : List Frame} {meth : Method} {c : Code} {g : Ga} {A : Nat → Prop} (C : Cx l g A p s m args c cX5_roomOf 6 RX5 (rm_X5_roomOf) (0, 0)) (hr : meth.sig.returnType = (some .int)) (hk : meth.locks = false) {K5 : St → Nat → Nat → Int32 → Int32 → Int32 → Option (St × Int32)} (hK5 : ∀ (z : St) (o0 : Nat) (o1 : Nat) (x2 : Int32) (x3 : Int32) (x4 : Int32) (_ : kd o0 = 5) (_ : kd o1 = 4) {res : St × Int32}, K5 z o0 o1 x2 x3 x4 = some res → Zj p l e (rm_X5_roomOf) s m args below meth c g A 6 (0, 0) (QI g A below args s res) z 5 [(0, .ref (g.1 o0)), (1, .ref (g.1 o1)), (2, .int x2), (3, .int x3), (4, .int x4)] []) (z : St) (o0 : Nat) (o1 : Nat) (x2 : Int32) (x3 : Int32) (x4 : Int32) (ho0 : kd o0 = 5) (ho1 : kd o1 = 4) {res : St × Int32} (hf : f_X5_roomOf_70 K5 z o0 o1 x2 x3 x4 = some res) : Zj p l e (rm_X5_roomOf) s m args below meth c g A 6 (0, 0) (QI g A below args s res) z 70 [(0, .ref (g.1 o0)), (1, .ref (g.1 o1)), (2, .int x2), (3, .int x3), (4, .int x4)] [] := by
  unfold f_X5_roomOf_70 at hf
  refine z_iinc C (k := 4) (v := x4 + 1) (lv2 := [(4, .int (x4 + 1)), (0, .ref (g.1 o0)), (1, .ref (g.1 o1)), (2, .int x2), (3, .int x3)]) dX5_roomOf_70 rfl rfl (by decide) rfl ?_
  exact z_goto C dX5_roomOf_73 (by decide) (z_sub [1, 2, 3, 4, 0] rfl (hK5 z o0 o1 x2 x3 (x4 + 1) ho0 ho1 hf))
def f_X5_roomOf_57 (K5 : St → Nat → Nat → Int32 → Int32 → Int32 → Option (St × Int32)) (z : St) (o0 : Nat) (o1 : Nat) (x2 : Int32) (x3 : Int32) (x4 : Int32) (x5 : Int32) : Option (St × Int32) :=
  ((f_X4_comesOf z o1 x2).bind fun r1 => f_X5_roomOf_70 K5 r1.1 o0 o1 x2 (imax x3 (x5 - r1.2)) x4)
theorem b_X5_roomOf_57 {p : Program} {l : Launch} {e : Env} {s : State} {m : MethodId} {args : Array Value} {below : List Frame} {meth : Method} {c : Code} {g : Ga} {A : Nat → Prop} (C : Cx l g A p s m args c cX5_roomOf 6 RX5 (rm_X5_roomOf) (0, 0)) (hr : meth.sig.returnType = (some .int)) (hk : meth.locks = false) {K5 : St → Nat → Nat → Int32 → Int32 → Int32 → Option (St × Int32)} (hK5 : ∀ (z : St) (o0 : Nat) (o1 : Nat) (x2 : Int32) (x3 : Int32) (x4 : Int32) (_ : kd o0 = 5) (_ : kd o1 = 4) {res : St × Int32}, K5 z o0 o1 x2 x3 x4 = some res → Zj p l e (rm_X5_roomOf) s m args below meth c g A 6 (0, 0) (QI g A below args s res) z 5 [(0, .ref (g.1 o0)), (1, .ref (g.1 o1)), (2, .int x2), (3, .int x3), (4, .int x4)] []) (z : St) (o0 : Nat) (o1 : Nat) (x2 : Int32) (x3 : Int32) (x4 : Int32) (x5 : Int32) (ho0 : kd o0 = 5) (ho1 : kd o1 = 4) {res : St × Int32} (hf : f_X5_roomOf_57 K5 z o0 o1 x2 x3 x4 x5 = some res) : Zj p l e (rm_X5_roomOf) s m args below meth c g A 6 (0, 0) (QI g A below args s res) z 57 [(0, .ref (g.1 o0)), (1, .ref (g.1 o1)), (2, .int x2), (3, .int x3), (4, .int x4), (5, .int x5)] [] := by
  unfold f_X5_roomOf_57 at hf
  refine z_iload_n C dX5_roomOf_57 rfl 3 rfl ?_
  refine z_iload C dX5_roomOf_58 5 rfl ?_
  refine z_aload_n C dX5_roomOf_60 rfl 1 rfl ?_
  refine z_iload_n C dX5_roomOf_61 rfl 2 rfl ?_
  obtain ⟨r1, hc2, hf⟩ := q_bd hf
  refine z_cVi C (st := [.int x5, .int x3]) (c_X4_comesOf ho1 hc2) mw_X4_comesOf ml_X5_52 ho1 (by decide) rfl dX5_roomOf_62 rfl rfl rfl ⟨Nat.le_of_ble_eq_true rfl, Nat.le_of_ble_eq_true rfl⟩ rfl (Nat.le_of_ble_eq_true rfl) ?_
  refine z_isub C dX5_roomOf_65 ?_
  refine z_mmax C (st := []) dX5_roomOf_66 ml_X5_55 mm_max.1 mm_i mm_max.2 ⟨Nat.le_of_ble_eq_true rfl, Nat.le_of_ble_eq_true rfl⟩ (Nat.le_of_ble_eq_true rfl) ?_
  refine z_istore_n C (lv2 := [(3, .int (imax x3 (x5 - r1.2))), (0, .ref (g.1 o0)), (1, .ref (g.1 o1)), (2, .int x2), (4, .int x4), (5, .int x5)]) dX5_roomOf_69 rfl (by decide) rfl ?_
  exact z_sub [1, 2, 3, 0, 4] rfl (b_X5_roomOf_70 C hr hk hK5 r1.1 o0 o1 x2 (imax x3 (x5 - r1.2)) x4 ho0 ho1 hf)
def f_X5_roomOf_23 (K5 : St → Nat → Nat → Int32 → Int32 → Int32 → Option (St × Int32)) (z : St) (o0 : Nat) (o1 : Nat) (x2 : Int32) (x3 : Int32) (x4 : Int32) : Option (St × Int32) :=
  ((f_X5_latestBegin z o0 o1 x2 (((z.1 o0 4) &&& (x4 ^^^ ((-1)))) &&& (((1 : Int32) <<< (x2 &&& 31)) ^^^ ((-1))))).bind fun r1 => ((f_X5_throughOf r1.1 o0 x4).bind fun r3 => if r1.2 < r3.2 then f_X5_roomOf_70 K5 r3.1 o0 o1 x2 x3 x4 else f_X5_roomOf_57 K5 r3.1 o0 o1 x2 x3 x4 r1.2))
theorem b_X5_roomOf_23 {p : Program} {l : Launch} {e : Env} {s : State} {m : MethodId} {args : Array Value} {below : List Frame} {meth : Method} {c : Code} {g : Ga} {A : Nat → Prop} (C : Cx l g A p s m args c cX5_roomOf 6 RX5 (rm_X5_roomOf) (0, 0)) (hr : meth.sig.returnType = (some .int)) (hk : meth.locks = false) {K5 : St → Nat → Nat → Int32 → Int32 → Int32 → Option (St × Int32)} (hK5 : ∀ (z : St) (o0 : Nat) (o1 : Nat) (x2 : Int32) (x3 : Int32) (x4 : Int32) (_ : kd o0 = 5) (_ : kd o1 = 4) {res : St × Int32}, K5 z o0 o1 x2 x3 x4 = some res → Zj p l e (rm_X5_roomOf) s m args below meth c g A 6 (0, 0) (QI g A below args s res) z 5 [(0, .ref (g.1 o0)), (1, .ref (g.1 o1)), (2, .int x2), (3, .int x3), (4, .int x4)] []) (z : St) (o0 : Nat) (o1 : Nat) (x2 : Int32) (x3 : Int32) (x4 : Int32) (ho0 : kd o0 = 5) (ho1 : kd o1 = 4) {res : St × Int32} (hf : f_X5_roomOf_23 K5 z o0 o1 x2 x3 x4 = some res) : Zj p l e (rm_X5_roomOf) s m args below meth c g A 6 (0, 0) (QI g A below args s res) z 23 [(0, .ref (g.1 o0)), (1, .ref (g.1 o1)), (2, .int x2), (3, .int x3), (4, .int x4)] [] := by
  unfold f_X5_roomOf_23 at hf
  refine z_aload_n C dX5_roomOf_23 rfl 0 rfl ?_
  refine z_aload_n C dX5_roomOf_24 rfl 1 rfl ?_
  refine z_iload_n C dX5_roomOf_25 rfl 2 rfl ?_
  refine z_aload_n C dX5_roomOf_26 rfl 0 rfl ?_
  refine gf_X5_30 C dX5_roomOf_27 ho0 ?_
  refine z_iload C dX5_roomOf_30 4 rfl ?_
  refine z_iconst C dX5_roomOf_32 (v := (-1)) (by decide) ?_
  refine z_ixor C dX5_roomOf_33 ?_
  refine z_iand C dX5_roomOf_34 ?_
  refine z_iconst C dX5_roomOf_35 (v := 1) (by decide) ?_
  refine z_iload_n C dX5_roomOf_36 rfl 2 rfl ?_
  refine z_ishl C dX5_roomOf_37 ?_
  refine z_iconst C dX5_roomOf_38 (v := (-1)) (by decide) ?_
  refine z_ixor C dX5_roomOf_39 ?_
  refine z_iand C dX5_roomOf_40 ?_
  obtain ⟨r1, hc2, hf⟩ := q_bd hf
  refine z_cVi C (st := []) (c_X5_latestBegin ho0 ho1 hc2) mw_X5_latestBegin ml_X5_70 ho0 (by decide) rfl dX5_roomOf_41 rfl rfl rfl ⟨Nat.le_of_ble_eq_true rfl, Nat.le_of_ble_eq_true rfl⟩ rfl (Nat.le_of_ble_eq_true rfl) ?_
  refine z_istore C (lv2 := [(5, .int r1.2), (0, .ref (g.1 o0)), (1, .ref (g.1 o1)), (2, .int x2), (3, .int x3), (4, .int x4)]) dX5_roomOf_44 (by decide) rfl ?_
  refine z_iload C dX5_roomOf_46 0 rfl ?_
  refine z_aload_n C dX5_roomOf_48 rfl 1 rfl ?_
  refine z_iload C dX5_roomOf_49 5 rfl ?_
  obtain ⟨r3, hc4, hf⟩ := q_bd hf
  refine z_cVi C (st := [.int r1.2]) (c_X5_throughOf ho0 hc4) mw_X5_throughOf ml_X5_48 ho0 (by decide) rfl dX5_roomOf_51 rfl rfl rfl ⟨Nat.le_of_ble_eq_true rfl, Nat.le_of_ble_eq_true rfl⟩ rfl (Nat.le_of_ble_eq_true rfl) ?_
  exact z_icmp_lt C dX5_roomOf_54 (by decide) (fun h => z_sub [1, 2, 3, 4, 5] rfl (b_X5_roomOf_70 C hr hk hK5 r3.1 o0 o1 x2 x3 x4 ho0 ho1 (q_t hf h))) (fun h => z_sub [1, 2, 3, 4, 5, 0] rfl (b_X5_roomOf_57 C hr hk hK5 r3.1 o0 o1 x2 x3 x4 r1.2 ho0 ho1 (q_f hf h)))
def f_X5_roomOf_14 (K5 : St → Nat → Nat → Int32 → Int32 → Int32 → Option (St × Int32)) (z : St) (o0 : Nat) (o1 : Nat) (x2 : Int32) (x3 : Int32) (x4 : Int32) : Option (St × Int32) :=
  if ((x4 >>> (x2 &&& 31)) &&& 1) = 0 then f_X5_roomOf_23 K5 z o0 o1 x2 x3 x4 else f_X5_roomOf_70 K5 z o0 o1 x2 x3 x4
theorem b_X5_roomOf_14 {p : Program} {l : Launch} {e : Env} {s : State} {m : MethodId} {args : Array Value} {below : List Frame} {meth : Method} {c : Code} {g : Ga} {A : Nat → Prop} (C : Cx l g A p s m args c cX5_roomOf 6 RX5 (rm_X5_roomOf) (0, 0)) (hr : meth.sig.returnType = (some .int)) (hk : meth.locks = false) {K5 : St → Nat → Nat → Int32 → Int32 → Int32 → Option (St × Int32)} (hK5 : ∀ (z : St) (o0 : Nat) (o1 : Nat) (x2 : Int32) (x3 : Int32) (x4 : Int32) (_ : kd o0 = 5) (_ : kd o1 = 4) {res : St × Int32}, K5 z o0 o1 x2 x3 x4 = some res → Zj p l e (rm_X5_roomOf) s m args below meth c g A 6 (0, 0) (QI g A below args s res) z 5 [(0, .ref (g.1 o0)), (1, .ref (g.1 o1)), (2, .int x2), (3, .int x3), (4, .int x4)] []) (z : St) (o0 : Nat) (o1 : Nat) (x2 : Int32) (x3 : Int32) (x4 : Int32) (ho0 : kd o0 = 5) (ho1 : kd o1 = 4) {res : St × Int32} (hf : f_X5_roomOf_14 K5 z o0 o1 x2 x3 x4 = some res) : Zj p l e (rm_X5_roomOf) s m args below meth c g A 6 (0, 0) (QI g A below args s res) z 14 [(0, .ref (g.1 o0)), (1, .ref (g.1 o1)), (2, .int x2), (3, .int x3), (4, .int x4)] [] := by
  unfold f_X5_roomOf_14 at hf
  refine z_iload C dX5_roomOf_14 4 rfl ?_
  refine z_iload_n C dX5_roomOf_16 rfl 2 rfl ?_
  refine z_ishr C dX5_roomOf_17 ?_
  refine z_iconst C dX5_roomOf_18 (v := 1) (by decide) ?_
  refine z_iand C dX5_roomOf_19 ?_
  exact z_if_ne C dX5_roomOf_20 (by decide) (fun h => z_sub [0, 1, 2, 3, 4] rfl (b_X5_roomOf_70 C hr hk hK5 z o0 o1 x2 x3 x4 ho0 ho1 (q_f hf h))) (fun h => z_sub [0, 1, 2, 3, 4] rfl (b_X5_roomOf_23 C hr hk hK5 z o0 o1 x2 x3 x4 ho0 ho1 (q_t hf h)))
def f_X5_roomOf_76  (z : St) (x3 : Int32) : Option (St × Int32) :=
  some (z, imin x3 99)
theorem b_X5_roomOf_76 {p : Program} {l : Launch} {e : Env} {s : State} {m : MethodId} {args : Array Value} {below : List Frame} {meth : Method} {c : Code} {g : Ga} {A : Nat → Prop} (C : Cx l g A p s m args c cX5_roomOf 6 RX5 (rm_X5_roomOf) (0, 0)) (hr : meth.sig.returnType = (some .int)) (hk : meth.locks = false)   (z : St) (x3 : Int32)  {res : St × Int32} (hf : f_X5_roomOf_76  z x3 = some res) : Zj p l e (rm_X5_roomOf) s m args below meth c g A 6 (0, 0) (QI g A below args s res) z 76 [(3, .int x3)] [] := by
  unfold f_X5_roomOf_76 at hf
  refine z_iload_n C dX5_roomOf_76 rfl 0 rfl ?_
  refine z_bipush C dX5_roomOf_77 (v := 99) (by decide) ?_
  refine z_mmin C (st := []) dX5_roomOf_79 ml_X5_67 mm_min.1 mm_i mm_min.2 ⟨Nat.le_of_ble_eq_true rfl, Nat.le_of_ble_eq_true rfl⟩ (Nat.le_of_ble_eq_true rfl) ?_
  cases hf
  exact z_iret C hr hk dX5_roomOf_82
def f_X5_roomOf_5  : Nat → St → Nat → Nat → Int32 → Int32 → Int32 → Option (St × Int32)
  | 0, _, _, _, _, _, _ => none
  | n + 1, z, o0, o1, x2, x3, x4 => if (z.1 o0 4) < x4 then f_X5_roomOf_76 z x3 else f_X5_roomOf_14 (f_X5_roomOf_5 n) z o0 o1 x2 x3 x4
theorem b_X5_roomOf_5 {p : Program} {l : Launch} {e : Env} {s : State} {m : MethodId} {args : Array Value} {below : List Frame} {meth : Method} {c : Code} {g : Ga} {A : Nat → Prop} (C : Cx l g A p s m args c cX5_roomOf 6 RX5 (rm_X5_roomOf) (0, 0)) (hr : meth.sig.returnType = (some .int)) (hk : meth.locks = false)   : ∀ (n : Nat) (z : St) (o0 : Nat) (o1 : Nat) (x2 : Int32) (x3 : Int32) (x4 : Int32) (_ : kd o0 = 5) (_ : kd o1 = 4) {res : St × Int32} (_ : f_X5_roomOf_5  n z o0 o1 x2 x3 x4 = some res), Zj p l e (rm_X5_roomOf) s m args below meth c g A 6 (0, 0) (QI g A below args s res) z 5 [(0, .ref (g.1 o0)), (1, .ref (g.1 o1)), (2, .int x2), (3, .int x3), (4, .int x4)] [] := by
  intro n
  induction n with
  | zero =>
    intro z o0 o1 x2 x3 x4 ho0 ho1 res hf
    cases hf
  | succ n ih =>
    intro z o0 o1 x2 x3 x4 ho0 ho1 res hf
    rw [f_X5_roomOf_5] at hf
    refine z_iload C dX5_roomOf_5 4 rfl ?_
    refine z_aload_n C dX5_roomOf_7 rfl 0 rfl ?_
    refine gf_X5_30 C dX5_roomOf_8 ho0 ?_
    exact z_icmp_gt C dX5_roomOf_11 (by decide) (fun h => z_sub [3] rfl (b_X5_roomOf_76 C hr hk z x3 (q_t hf h))) (fun h => z_sub [0, 1, 2, 3, 4] rfl (b_X5_roomOf_14 C hr hk ih z o0 o1 x2 x3 x4 ho0 ho1 (q_f hf h)))
def f_X5_roomOf_0  (z : St) (o0 : Nat) (o1 : Nat) (x2 : Int32) : Option (St × Int32) :=
  f_X5_roomOf_5 FU z o0 o1 x2 0 0
theorem b_X5_roomOf_0 {p : Program} {l : Launch} {e : Env} {s : State} {m : MethodId} {args : Array Value} {below : List Frame} {meth : Method} {c : Code} {g : Ga} {A : Nat → Prop} (C : Cx l g A p s m args c cX5_roomOf 6 RX5 (rm_X5_roomOf) (0, 0)) (hr : meth.sig.returnType = (some .int)) (hk : meth.locks = false)   (z : St) (o0 : Nat) (o1 : Nat) (x2 : Int32) (ho0 : kd o0 = 5) (ho1 : kd o1 = 4) {res : St × Int32} (hf : f_X5_roomOf_0  z o0 o1 x2 = some res) : Zj p l e (rm_X5_roomOf) s m args below meth c g A 6 (0, 0) (QI g A below args s res) z 0 [(0, .ref (g.1 o0)), (1, .ref (g.1 o1)), (2, .int x2)] [] := by
  unfold f_X5_roomOf_0 at hf
  refine z_iconst C dX5_roomOf_0 (v := 0) (by decide) ?_
  refine z_istore_n C (lv2 := [(3, .int 0), (0, .ref (g.1 o0)), (1, .ref (g.1 o1)), (2, .int x2)]) dX5_roomOf_1 rfl (by decide) rfl ?_
  refine z_iconst C dX5_roomOf_2 (v := 0) (by decide) ?_
  refine z_istore C (lv2 := [(4, .int 0), (3, .int 0), (0, .ref (g.1 o0)), (1, .ref (g.1 o1)), (2, .int x2)]) dX5_roomOf_3 (by decide) rfl ?_
  exact z_sub [2, 3, 4, 1, 0] rfl (b_X5_roomOf_5 C hr hk FU z o0 o1 x2 0 0 ho0 ho1 hf)
def f_X5_roomOf (z : St) (o0 : Nat) (o1 : Nat) (x2 : Int32) : Option (St × Int32) := f_X5_roomOf_0 z o0 o1 x2
theorem c_X5_roomOf {l : Launch} {g : Ga} {A : Nat → Prop} {z : St} {o0 : Nat} {o1 : Nat} {x2 : Int32} (ho0 : kd o0 = 5) (ho1 : kd o1 = 4) {res : St × Int32} (hf : f_X5_roomOf z o0 o1 x2 = some res) : CI l g A yX5_roomOf cX5_roomOf 6 (some .int) rm_X5_roomOf [.ref (g.1 o0), .ref (g.1 o1), .int x2] z res :=
  e_CI (by decide) (Nat.le_of_ble_eq_true rfl) rfl (fun p e s m args below meth c C hr hk => z_sub [0, 1, 2] rfl (b_X5_roomOf_0 C hr hk z o0 o1 x2 ho0 ho1 hf))
abbrev rm_X5_firstToGoOn : Room := { frames := 2, cells := 0, slots := 0, locals := 44 }
def f_X5_firstToGoOn_68  (z : St) (x4 : Int32) : Option (St × Int32) :=
  some (z, x4)
theorem b_X5_firstToGoOn_68 {p : Program} {l : Launch} {e : Env} {s : State} {m : MethodId} {args : Array Value} {below : List Frame} {meth : Method} {c : Code} {g : Ga} {A : Nat → Prop} (C : Cx l g A p s m args c cX5_firstToGoOn 6 RX5 (rm_X5_firstToGoOn) (0, 0)) (hr : meth.sig.returnType = (some .int)) (hk : meth.locks = false)   (z : St) (x4 : Int32)  {res : St × Int32} (hf : f_X5_firstToGoOn_68  z x4 = some res) : Zj p l e (rm_X5_firstToGoOn) s m args below meth c g A 6 (0, 0) (QI g A below args s res) z 68 [(4, .int x4)] [] := by
  unfold f_X5_firstToGoOn_68 at hf
  refine z_iload C dX5_firstToGoOn_68 0 rfl ?_
  cases hf
  exact z_iret C hr hk dX5_firstToGoOn_70
def f_X5_firstToGoOn_71 (K15 : St → Nat → Nat → Nat → Int32 → Int32 → Option (St × Int32)) (z : St) (o0 : Nat) (o1 : Nat) (o2 : Nat) (x3 : Int32) (x4 : Int32) : Option (St × Int32) :=
  K15 z o0 o1 o2 x3 (x4 + 1)
theorem b_X5_firstToGoOn_71 {p : Program} {l : Launch} {e : Env} {s : State} {m : MethodId} {args : Array Value} {below : List Frame} {meth : Method} {c : Code} {g : Ga} {A : Nat → Prop} (C : Cx l g A p s m args c cX5_firstToGoOn 6 RX5 (rm_X5_firstToGoOn) (0, 0)) (hr : meth.sig.returnType = (some .int)) (hk : meth.locks = false) {K15 : St → Nat → Nat → Nat → Int32 → Int32 → Option (St × Int32)} (hK15 : ∀ (z : St) (o0 : Nat) (o1 : Nat) (o2 : Nat) (x3 : Int32) (x4 : Int32) (_ : kd o0 = 5) (_ : kd o1 = 4) (_ : kd o2 = 3) {res : St × Int32}, K15 z o0 o1 o2 x3 x4 = some res → Zj p l e (rm_X5_firstToGoOn) s m args below meth c g A 6 (0, 0) (QI g A below args s res) z 15 [(0, .ref (g.1 o0)), (1, .ref (g.1 o1)), (2, .ref (g.1 o2)), (3, .int x3), (4, .int x4)] []) (z : St) (o0 : Nat) (o1 : Nat) (o2 : Nat) (x3 : Int32) (x4 : Int32) (ho0 : kd o0 = 5) (ho1 : kd o1 = 4) (ho2 : kd o2 = 3) {res : St × Int32} (hf : f_X5_firstToGoOn_71 K15 z o0 o1 o2 x3 x4 = some res) : Zj p l e (rm_X5_firstToGoOn) s m args below meth c g A 6 (0, 0) (QI g A below args s res) z 71 [(0, .ref (g.1 o0)), (1, .ref (g.1 o1)), (2, .ref (g.1 o2)), (3, .int x3), (4, .int x4)] [] := by
  unfold f_X5_firstToGoOn_71 at hf
  refine z_iinc C (k := 4) (v := x4 + 1) (lv2 := [(4, .int (x4 + 1)), (0, .ref (g.1 o0)), (1, .ref (g.1 o1)), (2, .ref (g.1 o2)), (3, .int x3)]) dX5_firstToGoOn_71 rfl rfl (by decide) rfl ?_
  exact z_goto C dX5_firstToGoOn_74 (by decide) (z_sub [1, 2, 3, 4, 0] rfl (hK15 z o0 o1 o2 x3 (x4 + 1) ho0 ho1 ho2 hf))
def f_X5_firstToGoOn_33 (K15 : St → Nat → Nat → Nat → Int32 → Int32 → Option (St × Int32)) (z : St) (o0 : Nat) (o1 : Nat) (o2 : Nat) (x3 : Int32) (x4 : Int32) : Option (St × Int32) :=
  ((f_X4_comesOf z o1 x4).bind fun r1 => ((f_X5_latestBegin r1.1 o0 o1 x4 (x3 &&& (((1 : Int32) <<< (x4 &&& 31)) ^^^ ((-1))))).bind fun r3 => if r3.2 < (imax (z.1 o2 5) r1.2) then f_X5_firstToGoOn_71 K15 r3.1 o0 o1 o2 x3 x4 else f_X5_firstToGoOn_68 r3.1 x4))
theorem b_X5_firstToGoOn_33 {p : Program} {l : Launch} {e : Env} {s : State} {m : MethodId} {args : Array Value} {below : List Frame} {meth : Method} {c : Code} {g : Ga} {A : Nat → Prop} (C : Cx l g A p s m args c cX5_firstToGoOn 6 RX5 (rm_X5_firstToGoOn) (0, 0)) (hr : meth.sig.returnType = (some .int)) (hk : meth.locks = false) {K15 : St → Nat → Nat → Nat → Int32 → Int32 → Option (St × Int32)} (hK15 : ∀ (z : St) (o0 : Nat) (o1 : Nat) (o2 : Nat) (x3 : Int32) (x4 : Int32) (_ : kd o0 = 5) (_ : kd o1 = 4) (_ : kd o2 = 3) {res : St × Int32}, K15 z o0 o1 o2 x3 x4 = some res → Zj p l e (rm_X5_firstToGoOn) s m args below meth c g A 6 (0, 0) (QI g A below args s res) z 15 [(0, .ref (g.1 o0)), (1, .ref (g.1 o1)), (2, .ref (g.1 o2)), (3, .int x3), (4, .int x4)] []) (z : St) (o0 : Nat) (o1 : Nat) (o2 : Nat) (x3 : Int32) (x4 : Int32) (ho0 : kd o0 = 5) (ho1 : kd o1 = 4) (ho2 : kd o2 = 3) {res : St × Int32} (hf : f_X5_firstToGoOn_33 K15 z o0 o1 o2 x3 x4 = some res) : Zj p l e (rm_X5_firstToGoOn) s m args below meth c g A 6 (0, 0) (QI g A below args s res) z 33 [(0, .ref (g.1 o0)), (1, .ref (g.1 o1)), (2, .ref (g.1 o2)), (3, .int x3), (4, .int x4)] [] := by
  unfold f_X5_firstToGoOn_33 at hf
  refine z_aload_n C dX5_firstToGoOn_33 rfl 2 rfl ?_
  refine gf_X5_97 C dX5_firstToGoOn_34 ho2 ?_
  refine z_aload_n C dX5_firstToGoOn_37 rfl 1 rfl ?_
  refine z_iload C dX5_firstToGoOn_38 4 rfl ?_
  obtain ⟨r1, hc2, hf⟩ := q_bd hf
  refine z_cVi C (st := [.int (z.1 o2 5)]) (c_X4_comesOf ho1 hc2) mw_X4_comesOf ml_X5_52 ho1 (by decide) rfl dX5_firstToGoOn_40 rfl rfl rfl ⟨Nat.le_of_ble_eq_true rfl, Nat.le_of_ble_eq_true rfl⟩ rfl (Nat.le_of_ble_eq_true rfl) ?_
  refine z_mmax C (st := []) dX5_firstToGoOn_43 ml_X5_55 mm_max.1 mm_i mm_max.2 ⟨Nat.le_of_ble_eq_true rfl, Nat.le_of_ble_eq_true rfl⟩ (Nat.le_of_ble_eq_true rfl) ?_
  refine z_istore C (lv2 := [(5, .int (imax (z.1 o2 5) r1.2)), (0, .ref (g.1 o0)), (1, .ref (g.1 o1)), (2, .ref (g.1 o2)), (3, .int x3), (4, .int x4)]) dX5_firstToGoOn_46 (by decide) rfl ?_
  refine z_iload C dX5_firstToGoOn_48 0 rfl ?_
  refine z_aload_n C dX5_firstToGoOn_50 rfl 1 rfl ?_
  refine z_aload_n C dX5_firstToGoOn_51 rfl 2 rfl ?_
  refine z_iload C dX5_firstToGoOn_52 5 rfl ?_
  refine z_iload_n C dX5_firstToGoOn_54 rfl 4 rfl ?_
  refine z_iconst C dX5_firstToGoOn_55 (v := 1) (by decide) ?_
  refine z_iload C dX5_firstToGoOn_56 5 rfl ?_
  refine z_ishl C dX5_firstToGoOn_58 ?_
  refine z_iconst C dX5_firstToGoOn_59 (v := (-1)) (by decide) ?_
  refine z_ixor C dX5_firstToGoOn_60 ?_
  refine z_iand C dX5_firstToGoOn_61 ?_
  obtain ⟨r3, hc4, hf⟩ := q_bd hf
  refine z_cVi C (st := [.int (imax (z.1 o2 5) r1.2)]) (c_X5_latestBegin ho0 ho1 hc4) mw_X5_latestBegin ml_X5_70 ho0 (by decide) rfl dX5_firstToGoOn_62 rfl rfl rfl ⟨Nat.le_of_ble_eq_true rfl, Nat.le_of_ble_eq_true rfl⟩ rfl (Nat.le_of_ble_eq_true rfl) ?_
  exact z_icmp_gt C dX5_firstToGoOn_65 (by decide) (fun h => z_sub [1, 2, 3, 4, 5] rfl (b_X5_firstToGoOn_71 C hr hk hK15 r3.1 o0 o1 o2 x3 x4 ho0 ho1 ho2 (q_t hf h))) (fun h => z_sub [5] rfl (b_X5_firstToGoOn_68 C hr hk r3.1 x4 (q_f hf h)))
def f_X5_firstToGoOn_24 (K15 : St → Nat → Nat → Nat → Int32 → Int32 → Option (St × Int32)) (z : St) (o0 : Nat) (o1 : Nat) (o2 : Nat) (x3 : Int32) (x4 : Int32) : Option (St × Int32) :=
  if ((x3 >>> (x4 &&& 31)) &&& 1) = 0 then f_X5_firstToGoOn_71 K15 z o0 o1 o2 x3 x4 else f_X5_firstToGoOn_33 K15 z o0 o1 o2 x3 x4
theorem b_X5_firstToGoOn_24 {p : Program} {l : Launch} {e : Env} {s : State} {m : MethodId} {args : Array Value} {below : List Frame} {meth : Method} {c : Code} {g : Ga} {A : Nat → Prop} (C : Cx l g A p s m args c cX5_firstToGoOn 6 RX5 (rm_X5_firstToGoOn) (0, 0)) (hr : meth.sig.returnType = (some .int)) (hk : meth.locks = false) {K15 : St → Nat → Nat → Nat → Int32 → Int32 → Option (St × Int32)} (hK15 : ∀ (z : St) (o0 : Nat) (o1 : Nat) (o2 : Nat) (x3 : Int32) (x4 : Int32) (_ : kd o0 = 5) (_ : kd o1 = 4) (_ : kd o2 = 3) {res : St × Int32}, K15 z o0 o1 o2 x3 x4 = some res → Zj p l e (rm_X5_firstToGoOn) s m args below meth c g A 6 (0, 0) (QI g A below args s res) z 15 [(0, .ref (g.1 o0)), (1, .ref (g.1 o1)), (2, .ref (g.1 o2)), (3, .int x3), (4, .int x4)] []) (z : St) (o0 : Nat) (o1 : Nat) (o2 : Nat) (x3 : Int32) (x4 : Int32) (ho0 : kd o0 = 5) (ho1 : kd o1 = 4) (ho2 : kd o2 = 3) {res : St × Int32} (hf : f_X5_firstToGoOn_24 K15 z o0 o1 o2 x3 x4 = some res) : Zj p l e (rm_X5_firstToGoOn) s m args below meth c g A 6 (0, 0) (QI g A below args s res) z 24 [(0, .ref (g.1 o0)), (1, .ref (g.1 o1)), (2, .ref (g.1 o2)), (3, .int x3), (4, .int x4)] [] := by
  unfold f_X5_firstToGoOn_24 at hf
  refine z_iload_n C dX5_firstToGoOn_24 rfl 3 rfl ?_
  refine z_iload C dX5_firstToGoOn_25 4 rfl ?_
  refine z_ishr C dX5_firstToGoOn_27 ?_
  refine z_iconst C dX5_firstToGoOn_28 (v := 1) (by decide) ?_
  refine z_iand C dX5_firstToGoOn_29 ?_
  exact z_if_eq C dX5_firstToGoOn_30 (by decide) (fun h => z_sub [0, 1, 2, 3, 4] rfl (b_X5_firstToGoOn_71 C hr hk hK15 z o0 o1 o2 x3 x4 ho0 ho1 ho2 (q_t hf h))) (fun h => z_sub [0, 1, 2, 3, 4] rfl (b_X5_firstToGoOn_33 C hr hk hK15 z o0 o1 o2 x3 x4 ho0 ho1 ho2 (q_f hf h)))
def f_X5_firstToGoOn_77  (z : St)  : Option (St × Int32) :=
  some (z, (-1))
theorem b_X5_firstToGoOn_77 {p : Program} {l : Launch} {e : Env} {s : State} {m : MethodId} {args : Array Value} {below : List Frame} {meth : Method} {c : Code} {g : Ga} {A : Nat → Prop} (C : Cx l g A p s m args c cX5_firstToGoOn 6 RX5 (rm_X5_firstToGoOn) (0, 0)) (hr : meth.sig.returnType = (some .int)) (hk : meth.locks = false)   (z : St)   {res : St × Int32} (hf : f_X5_firstToGoOn_77  z  = some res) : Zj p l e (rm_X5_firstToGoOn) s m args below meth c g A 6 (0, 0) (QI g A below args s res) z 77 [] [] := by
  unfold f_X5_firstToGoOn_77 at hf
  refine z_iconst C dX5_firstToGoOn_77 (v := (-1)) (by decide) ?_
  cases hf
  exact z_iret C hr hk dX5_firstToGoOn_78
def f_X5_firstToGoOn_15  : Nat → St → Nat → Nat → Nat → Int32 → Int32 → Option (St × Int32)
  | 0, _, _, _, _, _, _ => none
  | n + 1, z, o0, o1, o2, x3, x4 => if (z.1 o1 3) ≤ x4 then f_X5_firstToGoOn_77 z else f_X5_firstToGoOn_24 (f_X5_firstToGoOn_15 n) z o0 o1 o2 x3 x4
theorem b_X5_firstToGoOn_15 {p : Program} {l : Launch} {e : Env} {s : State} {m : MethodId} {args : Array Value} {below : List Frame} {meth : Method} {c : Code} {g : Ga} {A : Nat → Prop} (C : Cx l g A p s m args c cX5_firstToGoOn 6 RX5 (rm_X5_firstToGoOn) (0, 0)) (hr : meth.sig.returnType = (some .int)) (hk : meth.locks = false)   : ∀ (n : Nat) (z : St) (o0 : Nat) (o1 : Nat) (o2 : Nat) (x3 : Int32) (x4 : Int32) (_ : kd o0 = 5) (_ : kd o1 = 4) (_ : kd o2 = 3) {res : St × Int32} (_ : f_X5_firstToGoOn_15  n z o0 o1 o2 x3 x4 = some res), Zj p l e (rm_X5_firstToGoOn) s m args below meth c g A 6 (0, 0) (QI g A below args s res) z 15 [(0, .ref (g.1 o0)), (1, .ref (g.1 o1)), (2, .ref (g.1 o2)), (3, .int x3), (4, .int x4)] [] := by
  intro n
  induction n with
  | zero =>
    intro z o0 o1 o2 x3 x4 ho0 ho1 ho2 res hf
    cases hf
  | succ n ih =>
    intro z o0 o1 o2 x3 x4 ho0 ho1 ho2 res hf
    rw [f_X5_firstToGoOn_15] at hf
    refine z_iload C dX5_firstToGoOn_15 4 rfl ?_
    refine z_aload_n C dX5_firstToGoOn_17 rfl 1 rfl ?_
    refine gf_X5_45 C dX5_firstToGoOn_18 ho1 ?_
    exact z_icmp_ge C dX5_firstToGoOn_21 (by decide) (fun h => z_sub [] rfl (b_X5_firstToGoOn_77 C hr hk z (q_t hf h))) (fun h => z_sub [0, 1, 2, 3, 4] rfl (b_X5_firstToGoOn_24 C hr hk ih z o0 o1 o2 x3 x4 ho0 ho1 ho2 (q_f hf h)))
def f_X5_firstToGoOn_0  (z : St) (o0 : Nat) (o1 : Nat) (o2 : Nat) : Option (St × Int32) :=
  f_X5_firstToGoOn_15 FU z o0 o1 o2 ((z.1 o0 4) &&& ((z.1 o2 4) ^^^ ((-1)))) 0
theorem b_X5_firstToGoOn_0 {p : Program} {l : Launch} {e : Env} {s : State} {m : MethodId} {args : Array Value} {below : List Frame} {meth : Method} {c : Code} {g : Ga} {A : Nat → Prop} (C : Cx l g A p s m args c cX5_firstToGoOn 6 RX5 (rm_X5_firstToGoOn) (0, 0)) (hr : meth.sig.returnType = (some .int)) (hk : meth.locks = false)   (z : St) (o0 : Nat) (o1 : Nat) (o2 : Nat) (ho0 : kd o0 = 5) (ho1 : kd o1 = 4) (ho2 : kd o2 = 3) {res : St × Int32} (hf : f_X5_firstToGoOn_0  z o0 o1 o2 = some res) : Zj p l e (rm_X5_firstToGoOn) s m args below meth c g A 6 (0, 0) (QI g A below args s res) z 0 [(0, .ref (g.1 o0)), (1, .ref (g.1 o1)), (2, .ref (g.1 o2))] [] := by
  unfold f_X5_firstToGoOn_0 at hf
  refine z_aload_n C dX5_firstToGoOn_0 rfl 0 rfl ?_
  refine gf_X5_30 C dX5_firstToGoOn_1 ho0 ?_
  refine z_aload_n C dX5_firstToGoOn_4 rfl 2 rfl ?_
  refine gf_X5_94 C dX5_firstToGoOn_5 ho2 ?_
  refine z_iconst C dX5_firstToGoOn_8 (v := (-1)) (by decide) ?_
  refine z_ixor C dX5_firstToGoOn_9 ?_
  refine z_iand C dX5_firstToGoOn_10 ?_
  refine z_istore_n C (lv2 := [(3, .int ((z.1 o0 4) &&& ((z.1 o2 4) ^^^ ((-1))))), (0, .ref (g.1 o0)), (1, .ref (g.1 o1)), (2, .ref (g.1 o2))]) dX5_firstToGoOn_11 rfl (by decide) rfl ?_
  refine z_iconst C dX5_firstToGoOn_12 (v := 0) (by decide) ?_
  refine z_istore C (lv2 := [(4, .int 0), (3, .int ((z.1 o0 4) &&& ((z.1 o2 4) ^^^ ((-1))))), (0, .ref (g.1 o0)), (1, .ref (g.1 o1)), (2, .ref (g.1 o2))]) dX5_firstToGoOn_13 (by decide) rfl ?_
  exact z_sub [2, 3, 4, 1, 0] rfl (b_X5_firstToGoOn_15 C hr hk FU z o0 o1 o2 ((z.1 o0 4) &&& ((z.1 o2 4) ^^^ ((-1)))) 0 ho0 ho1 ho2 hf)
def f_X5_firstToGoOn (z : St) (o0 : Nat) (o1 : Nat) (o2 : Nat) : Option (St × Int32) := f_X5_firstToGoOn_0 z o0 o1 o2
theorem c_X5_firstToGoOn {l : Launch} {g : Ga} {A : Nat → Prop} {z : St} {o0 : Nat} {o1 : Nat} {o2 : Nat} (ho0 : kd o0 = 5) (ho1 : kd o1 = 4) (ho2 : kd o2 = 3) {res : St × Int32} (hf : f_X5_firstToGoOn z o0 o1 o2 = some res) : CI l g A yX5_firstToGoOn cX5_firstToGoOn 6 (some .int) rm_X5_firstToGoOn [.ref (g.1 o0), .ref (g.1 o1), .ref (g.1 o2)] z res :=
  e_CI (by decide) (Nat.le_of_ble_eq_true rfl) rfl (fun p e s m args below meth c C hr hk => z_sub [0, 1, 2] rfl (b_X5_firstToGoOn_0 C hr hk z o0 o1 o2 ho0 ho1 ho2 hf))
abbrev rm_X5_layFirst : Room := { frames := 3, cells := 0, slots := 0, locals := 69 }
def f_X5_layFirst_14 (K6 : St → Nat → Nat → Nat → Int32 → Option (St)) (z : St) (o0 : Nat) (o1 : Nat) (o2 : Nat) (x3 : Int32) : Option (St) :=
  ((f_X5_firstToGoOn z o0 o1 o2).bind fun r1 => ((f_X3_append r1.1 o2 o1 r1.2).bind fun r3 => K6 r3 o0 o1 o2 (x3 + 1)))
theorem b_X5_layFirst_14 {p : Program} {l : Launch} {e : Env} {s : State} {m : MethodId} {args : Array Value} {below : List Frame} {meth : Method} {c : Code} {g : Ga} {A : Nat → Prop} (C : Cx l g A p s m args c cX5_layFirst 4 RX5 (rm_X5_layFirst) (0, 0)) (hr : meth.sig.returnType = none) (hk : meth.locks = false) {K6 : St → Nat → Nat → Nat → Int32 → Option (St)} (hK6 : ∀ (z : St) (o0 : Nat) (o1 : Nat) (o2 : Nat) (x3 : Int32) (_ : kd o0 = 5) (_ : kd o1 = 4) (_ : kd o2 = 3) {res : St}, K6 z o0 o1 o2 x3 = some res → Zj p l e (rm_X5_layFirst) s m args below meth c g A 4 (0, 0) (QV g A below args s res) z 6 [(0, .ref (g.1 o0)), (1, .ref (g.1 o1)), (2, .ref (g.1 o2)), (3, .int x3)] []) (z : St) (o0 : Nat) (o1 : Nat) (o2 : Nat) (x3 : Int32) (ho0 : kd o0 = 5) (ho1 : kd o1 = 4) (ho2 : kd o2 = 3) {res : St} (hf : f_X5_layFirst_14 K6 z o0 o1 o2 x3 = some res) : Zj p l e (rm_X5_layFirst) s m args below meth c g A 4 (0, 0) (QV g A below args s res) z 14 [(0, .ref (g.1 o0)), (1, .ref (g.1 o1)), (2, .ref (g.1 o2)), (3, .int x3)] [] := by
  unfold f_X5_layFirst_14 at hf
  refine z_aload_n C dX5_layFirst_14 rfl 2 rfl ?_
  refine z_aload_n C dX5_layFirst_15 rfl 1 rfl ?_
  refine z_aload_n C dX5_layFirst_16 rfl 0 rfl ?_
  refine z_aload_n C dX5_layFirst_17 rfl 1 rfl ?_
  refine z_aload_n C dX5_layFirst_18 rfl 2 rfl ?_
  obtain ⟨r1, hc2, hf⟩ := q_bd hf
  refine z_cVi C (st := [.ref (g.1 o1), .ref (g.1 o2)]) (c_X5_firstToGoOn ho0 ho1 ho2 hc2) mw_X5_firstToGoOn ml_X5_86 ho0 (by decide) rfl dX5_layFirst_19 rfl rfl rfl ⟨Nat.le_of_ble_eq_true rfl, Nat.le_of_ble_eq_true rfl⟩ rfl (Nat.le_of_ble_eq_true rfl) ?_
  obtain ⟨r3, hc4, hf⟩ := q_bd hf
  refine z_cVv C (st := []) (c_X3_append ho2 ho1 hc4) mw_X3_append ml_X5_90 ho2 (by decide) rfl dX5_layFirst_22 rfl rfl rfl ⟨Nat.le_of_ble_eq_true rfl, Nat.le_of_ble_eq_true rfl⟩ rfl (Nat.le_of_ble_eq_true rfl) ?_
  refine z_iinc C (k := 3) (v := x3 + 1) (lv2 := [(3, .int (x3 + 1)), (0, .ref (g.1 o0)), (1, .ref (g.1 o1)), (2, .ref (g.1 o2))]) dX5_layFirst_25 rfl rfl (by decide) rfl ?_
  exact z_goto C dX5_layFirst_28 (by decide) (z_sub [1, 2, 3, 0] rfl (hK6 r3 o0 o1 o2 (x3 + 1) ho0 ho1 ho2 hf))
def f_X5_layFirst_31  (z : St)  : Option (St) :=
  some z
theorem b_X5_layFirst_31 {p : Program} {l : Launch} {e : Env} {s : State} {m : MethodId} {args : Array Value} {below : List Frame} {meth : Method} {c : Code} {g : Ga} {A : Nat → Prop} (C : Cx l g A p s m args c cX5_layFirst 4 RX5 (rm_X5_layFirst) (0, 0)) (hr : meth.sig.returnType = none) (hk : meth.locks = false)   (z : St)   {res : St} (hf : f_X5_layFirst_31  z  = some res) : Zj p l e (rm_X5_layFirst) s m args below meth c g A 4 (0, 0) (QV g A below args s res) z 31 [] [] := by
  unfold f_X5_layFirst_31 at hf
  cases hf
  exact z_vret C hr hk dX5_layFirst_31
def f_X5_layFirst_6  : Nat → St → Nat → Nat → Nat → Int32 → Option (St)
  | 0, _, _, _, _, _ => none
  | n + 1, z, o0, o1, o2, x3 => if (z.1 o1 3) ≤ x3 then f_X5_layFirst_31 z else f_X5_layFirst_14 (f_X5_layFirst_6 n) z o0 o1 o2 x3
theorem b_X5_layFirst_6 {p : Program} {l : Launch} {e : Env} {s : State} {m : MethodId} {args : Array Value} {below : List Frame} {meth : Method} {c : Code} {g : Ga} {A : Nat → Prop} (C : Cx l g A p s m args c cX5_layFirst 4 RX5 (rm_X5_layFirst) (0, 0)) (hr : meth.sig.returnType = none) (hk : meth.locks = false)   : ∀ (n : Nat) (z : St) (o0 : Nat) (o1 : Nat) (o2 : Nat) (x3 : Int32) (_ : kd o0 = 5) (_ : kd o1 = 4) (_ : kd o2 = 3) {res : St} (_ : f_X5_layFirst_6  n z o0 o1 o2 x3 = some res), Zj p l e (rm_X5_layFirst) s m args below meth c g A 4 (0, 0) (QV g A below args s res) z 6 [(0, .ref (g.1 o0)), (1, .ref (g.1 o1)), (2, .ref (g.1 o2)), (3, .int x3)] [] := by
  intro n
  induction n with
  | zero =>
    intro z o0 o1 o2 x3 ho0 ho1 ho2 res hf
    cases hf
  | succ n ih =>
    intro z o0 o1 o2 x3 ho0 ho1 ho2 res hf
    rw [f_X5_layFirst_6] at hf
    refine z_iload_n C dX5_layFirst_6 rfl 3 rfl ?_
    refine z_aload_n C dX5_layFirst_7 rfl 1 rfl ?_
    refine gf_X5_45 C dX5_layFirst_8 ho1 ?_
    exact z_icmp_ge C dX5_layFirst_11 (by decide) (fun h => z_sub [] rfl (b_X5_layFirst_31 C hr hk z (q_t hf h))) (fun h => z_sub [0, 1, 2, 3] rfl (b_X5_layFirst_14 C hr hk ih z o0 o1 o2 x3 ho0 ho1 ho2 (q_f hf h)))
def f_X5_layFirst_0  (z : St) (o0 : Nat) (o1 : Nat) (o2 : Nat) : Option (St) :=
  ((f_X3_clear z o2).bind fun r1 => f_X5_layFirst_6 FU r1 o0 o1 o2 0)
theorem b_X5_layFirst_0 {p : Program} {l : Launch} {e : Env} {s : State} {m : MethodId} {args : Array Value} {below : List Frame} {meth : Method} {c : Code} {g : Ga} {A : Nat → Prop} (C : Cx l g A p s m args c cX5_layFirst 4 RX5 (rm_X5_layFirst) (0, 0)) (hr : meth.sig.returnType = none) (hk : meth.locks = false)   (z : St) (o0 : Nat) (o1 : Nat) (o2 : Nat) (ho0 : kd o0 = 5) (ho1 : kd o1 = 4) (ho2 : kd o2 = 3) {res : St} (hf : f_X5_layFirst_0  z o0 o1 o2 = some res) : Zj p l e (rm_X5_layFirst) s m args below meth c g A 4 (0, 0) (QV g A below args s res) z 0 [(0, .ref (g.1 o0)), (1, .ref (g.1 o1)), (2, .ref (g.1 o2))] [] := by
  unfold f_X5_layFirst_0 at hf
  refine z_aload_n C dX5_layFirst_0 rfl 2 rfl ?_
  obtain ⟨r1, hc2, hf⟩ := q_bd hf
  refine z_cVv C (st := []) (c_X3_clear ho2 hc2) mw_X3_clear ml_X5_81 ho2 (by decide) rfl dX5_layFirst_1 rfl rfl rfl ⟨Nat.le_of_ble_eq_true rfl, Nat.le_of_ble_eq_true rfl⟩ rfl (Nat.le_of_ble_eq_true rfl) ?_
  refine z_iconst C dX5_layFirst_4 (v := 0) (by decide) ?_
  refine z_istore_n C (lv2 := [(3, .int 0), (0, .ref (g.1 o0)), (1, .ref (g.1 o1)), (2, .ref (g.1 o2))]) dX5_layFirst_5 rfl (by decide) rfl ?_
  exact z_sub [1, 2, 3, 0] rfl (b_X5_layFirst_6 C hr hk FU r1 o0 o1 o2 0 ho0 ho1 ho2 hf)
def f_X5_layFirst (z : St) (o0 : Nat) (o1 : Nat) (o2 : Nat) : Option (St) := f_X5_layFirst_0 z o0 o1 o2
theorem c_X5_layFirst {l : Launch} {g : Ga} {A : Nat → Prop} {z : St} {o0 : Nat} {o1 : Nat} {o2 : Nat} (ho0 : kd o0 = 5) (ho1 : kd o1 = 4) (ho2 : kd o2 = 3) {res : St} (hf : f_X5_layFirst z o0 o1 o2 = some res) : CV l g A yX5_layFirst cX5_layFirst 4 none rm_X5_layFirst [.ref (g.1 o0), .ref (g.1 o1), .ref (g.1 o2)] z res :=
  e_CV (by decide) (Nat.le_of_ble_eq_true rfl) rfl (fun p e s m args below meth c C hr hk => z_sub [0, 1, 2] rfl (b_X5_layFirst_0 C hr hk z o0 o1 o2 ho0 ho1 ho2 hf))
def rmW (d : Nat) : Room := { frames := 2 + d, cells := 0, slots := 0, locals := 44 + 30 * d }
def f_X5_waysFrom_4 (KR : St → Nat → Nat → Int32 → Int32 → Int32 → Option (St × Int32))  (z : St)  : Option (St × Int32) :=
  some (z, 1)
theorem b_X5_waysFrom_4 (d : Nat) {p : Program} {l : Launch} {e : Env} {s : State} {m : MethodId} {args : Array Value} {below : List Frame} {meth : Method} {c : Code} {g : Ga} {A : Nat → Prop} (C : Cx l g A p s m args c cX5_waysFrom 11 RX5 (rmW (d + 1)) (0, 0)) (hr : meth.sig.returnType = (some .int)) (hk : meth.locks = false) {KR : St → Nat → Nat → Int32 → Int32 → Int32 → Option (St × Int32)}  (hKR : ∀ (z : St) (o0 : Nat) (o1 : Nat) (x2 : Int32) (x3 : Int32) (x4 : Int32) (_ : kd o0 = 5) (_ : kd o1 = 4) (res : St × Int32), KR z o0 o1 x2 x3 x4 = some res → CI l g A yX5_waysFrom cX5_waysFrom 11 (some .int) (rmW d) [.ref (g.1 o0), .ref (g.1 o1), .int x2, .int x3, .int x4] z res)  (z : St)   {res : St × Int32} (hf : f_X5_waysFrom_4 KR  z  = some res) : Zj p l e (rmW (d + 1)) s m args below meth c g A 11 (0, 0) (QI g A below args s res) z 4 [] [] := by
  unfold f_X5_waysFrom_4 at hf
  refine z_iconst C dX5_waysFrom_4 (v := 1) (by decide) ?_
  cases hf
  exact z_iret C hr hk dX5_waysFrom_5
def f_X5_waysFrom_22 (KR : St → Nat → Nat → Int32 → Int32 → Int32 → Option (St × Int32))  (z : St)  : Option (St × Int32) :=
  some (z, 0)
theorem b_X5_waysFrom_22 (d : Nat) {p : Program} {l : Launch} {e : Env} {s : State} {m : MethodId} {args : Array Value} {below : List Frame} {meth : Method} {c : Code} {g : Ga} {A : Nat → Prop} (C : Cx l g A p s m args c cX5_waysFrom 11 RX5 (rmW (d + 1)) (0, 0)) (hr : meth.sig.returnType = (some .int)) (hk : meth.locks = false) {KR : St → Nat → Nat → Int32 → Int32 → Int32 → Option (St × Int32)}  (hKR : ∀ (z : St) (o0 : Nat) (o1 : Nat) (x2 : Int32) (x3 : Int32) (x4 : Int32) (_ : kd o0 = 5) (_ : kd o1 = 4) (res : St × Int32), KR z o0 o1 x2 x3 x4 = some res → CI l g A yX5_waysFrom cX5_waysFrom 11 (some .int) (rmW d) [.ref (g.1 o0), .ref (g.1 o1), .int x2, .int x3, .int x4] z res)  (z : St)   {res : St × Int32} (hf : f_X5_waysFrom_22 KR  z  = some res) : Zj p l e (rmW (d + 1)) s m args below meth c g A 11 (0, 0) (QI g A below args s res) z 22 [] [] := by
  unfold f_X5_waysFrom_22 at hf
  refine z_iconst C dX5_waysFrom_22 (v := 0) (by decide) ?_
  cases hf
  exact z_iret C hr hk dX5_waysFrom_23
def f_X5_waysFrom_57 (KR : St → Nat → Nat → Int32 → Int32 → Int32 → Option (St × Int32))  (z : St) (o0 : Nat) (x6 : Int32) : Option (St × Int32) :=
  if inb x6 512 = true then (some (z, z.1 (rf o0 3) (Int32.toNatClampNeg x6))) else none
theorem b_X5_waysFrom_57 (d : Nat) {p : Program} {l : Launch} {e : Env} {s : State} {m : MethodId} {args : Array Value} {below : List Frame} {meth : Method} {c : Code} {g : Ga} {A : Nat → Prop} (C : Cx l g A p s m args c cX5_waysFrom 11 RX5 (rmW (d + 1)) (0, 0)) (hr : meth.sig.returnType = (some .int)) (hk : meth.locks = false) {KR : St → Nat → Nat → Int32 → Int32 → Int32 → Option (St × Int32)}  (hKR : ∀ (z : St) (o0 : Nat) (o1 : Nat) (x2 : Int32) (x3 : Int32) (x4 : Int32) (_ : kd o0 = 5) (_ : kd o1 = 4) (res : St × Int32), KR z o0 o1 x2 x3 x4 = some res → CI l g A yX5_waysFrom cX5_waysFrom 11 (some .int) (rmW d) [.ref (g.1 o0), .ref (g.1 o1), .int x2, .int x3, .int x4] z res)  (z : St) (o0 : Nat) (x6 : Int32) (ho0 : kd o0 = 5) {res : St × Int32} (hf : f_X5_waysFrom_57 KR  z o0 x6 = some res) : Zj p l e (rmW (d + 1)) s m args below meth c g A 11 (0, 0) (QI g A below args s res) z 57 [(0, .ref (g.1 o0)), (6, .int x6)] [] := by
  unfold f_X5_waysFrom_57 at hf
  refine z_aload_n C dX5_waysFrom_57 rfl 0 rfl ?_
  refine gf_X5_21 C dX5_waysFrom_58 ho0 ?_
  refine z_iload C dX5_waysFrom_61 1 rfl ?_
  obtain ⟨h1, hf⟩ := q_ck hf
  refine z_iald C (n := 512) dX5_waysFrom_63 (rt_5_3 _ (kd_lt ho0 (by decide)) ho0) (by decide) h1 ?_
  cases hf
  exact z_iret C hr hk dX5_waysFrom_64
def f_X5_waysFrom_150 (KR : St → Nat → Nat → Int32 → Int32 → Int32 → Option (St × Int32)) (K71 : St → Nat → Nat → Int32 → Int32 → Int32 → Int32 → Int32 → Int32 → Int32 → Option (St × Int32)) (z : St) (o0 : Nat) (o1 : Nat) (x2 : Int32) (x3 : Int32) (x4 : Int32) (x5 : Int32) (x6 : Int32) (x7 : Int32) (x8 : Int32) : Option (St × Int32) :=
  K71 z o0 o1 x2 x3 x4 x5 x6 x7 (x8 + 1)
theorem b_X5_waysFrom_150 (d : Nat) {p : Program} {l : Launch} {e : Env} {s : State} {m : MethodId} {args : Array Value} {below : List Frame} {meth : Method} {c : Code} {g : Ga} {A : Nat → Prop} (C : Cx l g A p s m args c cX5_waysFrom 11 RX5 (rmW (d + 1)) (0, 0)) (hr : meth.sig.returnType = (some .int)) (hk : meth.locks = false) {KR : St → Nat → Nat → Int32 → Int32 → Int32 → Option (St × Int32)} {K71 : St → Nat → Nat → Int32 → Int32 → Int32 → Int32 → Int32 → Int32 → Int32 → Option (St × Int32)} (hKR : ∀ (z : St) (o0 : Nat) (o1 : Nat) (x2 : Int32) (x3 : Int32) (x4 : Int32) (_ : kd o0 = 5) (_ : kd o1 = 4) (res : St × Int32), KR z o0 o1 x2 x3 x4 = some res → CI l g A yX5_waysFrom cX5_waysFrom 11 (some .int) (rmW d) [.ref (g.1 o0), .ref (g.1 o1), .int x2, .int x3, .int x4] z res) (hK71 : ∀ (z : St) (o0 : Nat) (o1 : Nat) (x2 : Int32) (x3 : Int32) (x4 : Int32) (x5 : Int32) (x6 : Int32) (x7 : Int32) (x8 : Int32) (_ : kd o0 = 5) (_ : kd o1 = 4) {res : St × Int32}, K71 z o0 o1 x2 x3 x4 x5 x6 x7 x8 = some res → Zj p l e (rmW (d + 1)) s m args below meth c g A 11 (0, 0) (QI g A below args s res) z 71 [(0, .ref (g.1 o0)), (1, .ref (g.1 o1)), (2, .int x2), (3, .int x3), (4, .int x4), (5, .int x5), (6, .int x6), (7, .int x7), (8, .int x8)] []) (z : St) (o0 : Nat) (o1 : Nat) (x2 : Int32) (x3 : Int32) (x4 : Int32) (x5 : Int32) (x6 : Int32) (x7 : Int32) (x8 : Int32) (ho0 : kd o0 = 5) (ho1 : kd o1 = 4) {res : St × Int32} (hf : f_X5_waysFrom_150 KR K71 z o0 o1 x2 x3 x4 x5 x6 x7 x8 = some res) : Zj p l e (rmW (d + 1)) s m args below meth c g A 11 (0, 0) (QI g A below args s res) z 150 [(0, .ref (g.1 o0)), (1, .ref (g.1 o1)), (2, .int x2), (3, .int x3), (4, .int x4), (5, .int x5), (6, .int x6), (7, .int x7), (8, .int x8)] [] := by
  unfold f_X5_waysFrom_150 at hf
  refine z_iinc C (k := 8) (v := x8 + 1) (lv2 := [(8, .int (x8 + 1)), (0, .ref (g.1 o0)), (1, .ref (g.1 o1)), (2, .int x2), (3, .int x3), (4, .int x4), (5, .int x5), (6, .int x6), (7, .int x7)]) dX5_waysFrom_150 rfl rfl (by decide) rfl ?_
  exact z_goto C dX5_waysFrom_153 (by decide) (z_sub [1, 2, 3, 4, 5, 6, 7, 8, 0] rfl (hK71 z o0 o1 x2 x3 x4 x5 x6 x7 (x8 + 1) ho0 ho1 hf))
def f_X5_waysFrom_125 (KR : St → Nat → Nat → Int32 → Int32 → Int32 → Option (St × Int32)) (K71 : St → Nat → Nat → Int32 → Int32 → Int32 → Int32 → Int32 → Int32 → Int32 → Option (St × Int32)) (z : St) (o0 : Nat) (o1 : Nat) (x2 : Int32) (x3 : Int32) (x4 : Int32) (x5 : Int32) (x6 : Int32) (x7 : Int32) (x8 : Int32) (x9 : Int32) (x10 : Int32) : Option (St × Int32) :=
  ((f_X4_takesOf z o1 x8).bind fun r1 => ((KR r1.1 o0 o1 x9 (x10 + r1.2) (x4 + 1)).bind fun r3 => f_X5_waysFrom_150 KR K71 r3.1 o0 o1 x2 x3 x4 x5 x6 (x7 + r3.2) x8))
theorem b_X5_waysFrom_125 (d : Nat) {p : Program} {l : Launch} {e : Env} {s : State} {m : MethodId} {args : Array Value} {below : List Frame} {meth : Method} {c : Code} {g : Ga} {A : Nat → Prop} (C : Cx l g A p s m args c cX5_waysFrom 11 RX5 (rmW (d + 1)) (0, 0)) (hr : meth.sig.returnType = (some .int)) (hk : meth.locks = false) {KR : St → Nat → Nat → Int32 → Int32 → Int32 → Option (St × Int32)} {K71 : St → Nat → Nat → Int32 → Int32 → Int32 → Int32 → Int32 → Int32 → Int32 → Option (St × Int32)} (hKR : ∀ (z : St) (o0 : Nat) (o1 : Nat) (x2 : Int32) (x3 : Int32) (x4 : Int32) (_ : kd o0 = 5) (_ : kd o1 = 4) (res : St × Int32), KR z o0 o1 x2 x3 x4 = some res → CI l g A yX5_waysFrom cX5_waysFrom 11 (some .int) (rmW d) [.ref (g.1 o0), .ref (g.1 o1), .int x2, .int x3, .int x4] z res) (hK71 : ∀ (z : St) (o0 : Nat) (o1 : Nat) (x2 : Int32) (x3 : Int32) (x4 : Int32) (x5 : Int32) (x6 : Int32) (x7 : Int32) (x8 : Int32) (_ : kd o0 = 5) (_ : kd o1 = 4) {res : St × Int32}, K71 z o0 o1 x2 x3 x4 x5 x6 x7 x8 = some res → Zj p l e (rmW (d + 1)) s m args below meth c g A 11 (0, 0) (QI g A below args s res) z 71 [(0, .ref (g.1 o0)), (1, .ref (g.1 o1)), (2, .int x2), (3, .int x3), (4, .int x4), (5, .int x5), (6, .int x6), (7, .int x7), (8, .int x8)] []) (z : St) (o0 : Nat) (o1 : Nat) (x2 : Int32) (x3 : Int32) (x4 : Int32) (x5 : Int32) (x6 : Int32) (x7 : Int32) (x8 : Int32) (x9 : Int32) (x10 : Int32) (ho0 : kd o0 = 5) (ho1 : kd o1 = 4) {res : St × Int32} (hf : f_X5_waysFrom_125 KR K71 z o0 o1 x2 x3 x4 x5 x6 x7 x8 x9 x10 = some res) : Zj p l e (rmW (d + 1)) s m args below meth c g A 11 (0, 0) (QI g A below args s res) z 125 [(0, .ref (g.1 o0)), (1, .ref (g.1 o1)), (2, .int x2), (3, .int x3), (4, .int x4), (5, .int x5), (6, .int x6), (7, .int x7), (8, .int x8), (9, .int x9), (10, .int x10)] [] := by
  unfold f_X5_waysFrom_125 at hf
  refine z_iload C dX5_waysFrom_125 7 rfl ?_
  refine z_aload_n C dX5_waysFrom_127 rfl 0 rfl ?_
  refine z_aload_n C dX5_waysFrom_128 rfl 1 rfl ?_
  refine z_iload C dX5_waysFrom_129 9 rfl ?_
  refine z_iload C dX5_waysFrom_131 10 rfl ?_
  refine z_aload_n C dX5_waysFrom_133 rfl 1 rfl ?_
  refine z_iload C dX5_waysFrom_134 8 rfl ?_
  obtain ⟨r1, hc2, hf⟩ := q_bd hf
  refine z_cVi C (st := [.int x10, .int x9, .ref (g.1 o1), .ref (g.1 o0), .int x7]) (c_X4_takesOf ho1 hc2) mw_X4_takesOf ml_X5_61 ho1 (by decide) rfl dX5_waysFrom_136 rfl rfl rfl ⟨by first | exact Nat.le_refl _ | (simp only [rmW, rm_X4_takesOf]; omega), by first | exact Nat.le_refl _ | (simp only [rmW, rm_X4_takesOf]; omega)⟩ rfl (Nat.le_of_ble_eq_true rfl) ?_
  refine z_iadd C dX5_waysFrom_139 ?_
  refine z_iload C dX5_waysFrom_140 4 rfl ?_
  refine z_iconst C dX5_waysFrom_142 (v := 1) (by decide) ?_
  refine z_iadd C dX5_waysFrom_143 ?_
  obtain ⟨r3, hc4, hf⟩ := q_bd hf
  refine z_cSi C (st := [.int x7]) (hKR r1.1 o0 o1 x9 (x10 + r1.2) (x4 + 1) ho0 ho1 _ hc4) mw_X5_waysFrom ml_X5_106 dX5_waysFrom_144 rfl rfl rfl ⟨by first | exact Nat.le_refl _ | (simp only [rmW, rmW]; omega), by first | exact Nat.le_refl _ | (simp only [rmW, rmW]; omega)⟩ rfl (Nat.le_of_ble_eq_true rfl) ?_
  refine z_iadd C dX5_waysFrom_147 ?_
  refine z_istore C (lv2 := [(7, .int (x7 + r3.2)), (0, .ref (g.1 o0)), (1, .ref (g.1 o1)), (2, .int x2), (3, .int x3), (4, .int x4), (5, .int x5), (6, .int x6), (8, .int x8), (9, .int x9), (10, .int x10)]) dX5_waysFrom_148 (by decide) rfl ?_
  exact z_sub [1, 2, 3, 4, 5, 6, 7, 0, 8] rfl (b_X5_waysFrom_150 d C hr hk hKR hK71 r3.1 o0 o1 x2 x3 x4 x5 x6 (x7 + r3.2) x8 ho0 ho1 hf)
def f_X5_waysFrom_89 (KR : St → Nat → Nat → Int32 → Int32 → Int32 → Option (St × Int32)) (K71 : St → Nat → Nat → Int32 → Int32 → Int32 → Int32 → Int32 → Int32 → Int32 → Option (St × Int32)) (z : St) (o0 : Nat) (o1 : Nat) (x2 : Int32) (x3 : Int32) (x4 : Int32) (x5 : Int32) (x6 : Int32) (x7 : Int32) (x8 : Int32) : Option (St × Int32) :=
  ((f_X4_comesOf z o1 x8).bind fun r1 => ((f_X5_latestBegin r1.1 o0 o1 x8 (x2 &&& (((1 : Int32) <<< (x8 &&& 31)) ^^^ ((-1))))).bind fun r3 => if r3.2 < (imax x3 r1.2) then f_X5_waysFrom_150 KR K71 r3.1 o0 o1 x2 x3 x4 x5 x6 x7 x8 else f_X5_waysFrom_125 KR K71 r3.1 o0 o1 x2 x3 x4 x5 x6 x7 x8 (x2 &&& (((1 : Int32) <<< (x8 &&& 31)) ^^^ ((-1)))) (imax x3 r1.2)))
theorem b_X5_waysFrom_89 (d : Nat) {p : Program} {l : Launch} {e : Env} {s : State} {m : MethodId} {args : Array Value} {below : List Frame} {meth : Method} {c : Code} {g : Ga} {A : Nat → Prop} (C : Cx l g A p s m args c cX5_waysFrom 11 RX5 (rmW (d + 1)) (0, 0)) (hr : meth.sig.returnType = (some .int)) (hk : meth.locks = false) {KR : St → Nat → Nat → Int32 → Int32 → Int32 → Option (St × Int32)} {K71 : St → Nat → Nat → Int32 → Int32 → Int32 → Int32 → Int32 → Int32 → Int32 → Option (St × Int32)} (hKR : ∀ (z : St) (o0 : Nat) (o1 : Nat) (x2 : Int32) (x3 : Int32) (x4 : Int32) (_ : kd o0 = 5) (_ : kd o1 = 4) (res : St × Int32), KR z o0 o1 x2 x3 x4 = some res → CI l g A yX5_waysFrom cX5_waysFrom 11 (some .int) (rmW d) [.ref (g.1 o0), .ref (g.1 o1), .int x2, .int x3, .int x4] z res) (hK71 : ∀ (z : St) (o0 : Nat) (o1 : Nat) (x2 : Int32) (x3 : Int32) (x4 : Int32) (x5 : Int32) (x6 : Int32) (x7 : Int32) (x8 : Int32) (_ : kd o0 = 5) (_ : kd o1 = 4) {res : St × Int32}, K71 z o0 o1 x2 x3 x4 x5 x6 x7 x8 = some res → Zj p l e (rmW (d + 1)) s m args below meth c g A 11 (0, 0) (QI g A below args s res) z 71 [(0, .ref (g.1 o0)), (1, .ref (g.1 o1)), (2, .int x2), (3, .int x3), (4, .int x4), (5, .int x5), (6, .int x6), (7, .int x7), (8, .int x8)] []) (z : St) (o0 : Nat) (o1 : Nat) (x2 : Int32) (x3 : Int32) (x4 : Int32) (x5 : Int32) (x6 : Int32) (x7 : Int32) (x8 : Int32) (ho0 : kd o0 = 5) (ho1 : kd o1 = 4) {res : St × Int32} (hf : f_X5_waysFrom_89 KR K71 z o0 o1 x2 x3 x4 x5 x6 x7 x8 = some res) : Zj p l e (rmW (d + 1)) s m args below meth c g A 11 (0, 0) (QI g A below args s res) z 89 [(0, .ref (g.1 o0)), (1, .ref (g.1 o1)), (2, .int x2), (3, .int x3), (4, .int x4), (5, .int x5), (6, .int x6), (7, .int x7), (8, .int x8)] [] := by
  unfold f_X5_waysFrom_89 at hf
  refine z_iload_n C dX5_waysFrom_89 rfl 2 rfl ?_
  refine z_iconst C dX5_waysFrom_90 (v := 1) (by decide) ?_
  refine z_iload C dX5_waysFrom_91 8 rfl ?_
  refine z_ishl C dX5_waysFrom_93 ?_
  refine z_iconst C dX5_waysFrom_94 (v := (-1)) (by decide) ?_
  refine z_ixor C dX5_waysFrom_95 ?_
  refine z_iand C dX5_waysFrom_96 ?_
  refine z_istore C (lv2 := [(9, .int (x2 &&& (((1 : Int32) <<< (x8 &&& 31)) ^^^ ((-1))))), (0, .ref (g.1 o0)), (1, .ref (g.1 o1)), (2, .int x2), (3, .int x3), (4, .int x4), (5, .int x5), (6, .int x6), (7, .int x7), (8, .int x8)]) dX5_waysFrom_97 (by decide) rfl ?_
  refine z_iload_n C dX5_waysFrom_99 rfl 4 rfl ?_
  refine z_aload_n C dX5_waysFrom_100 rfl 2 rfl ?_
  refine z_iload C dX5_waysFrom_101 9 rfl ?_
  obtain ⟨r1, hc2, hf⟩ := q_bd hf
  refine z_cVi C (st := [.int x3]) (c_X4_comesOf ho1 hc2) mw_X4_comesOf ml_X5_52 ho1 (by decide) rfl dX5_waysFrom_103 rfl rfl rfl ⟨by first | exact Nat.le_refl _ | (simp only [rmW, rm_X4_comesOf]; omega), by first | exact Nat.le_refl _ | (simp only [rmW, rm_X4_comesOf]; omega)⟩ rfl (Nat.le_of_ble_eq_true rfl) ?_
  refine z_mmax C (st := []) dX5_waysFrom_106 ml_X5_55 mm_max.1 mm_i mm_max.2 ⟨by show _ ≤ _; simp only [rmW]; omega, by show _ ≤ _; simp only [rmW]; omega⟩ (Nat.le_of_ble_eq_true rfl) ?_
  refine z_istore C (lv2 := [(10, .int (imax x3 r1.2)), (9, .int (x2 &&& (((1 : Int32) <<< (x8 &&& 31)) ^^^ ((-1))))), (0, .ref (g.1 o0)), (1, .ref (g.1 o1)), (2, .int x2), (3, .int x3), (4, .int x4), (5, .int x5), (6, .int x6), (7, .int x7), (8, .int x8)]) dX5_waysFrom_109 (by decide) rfl ?_
  refine z_iload C dX5_waysFrom_111 0 rfl ?_
  refine z_aload_n C dX5_waysFrom_113 rfl 2 rfl ?_
  refine z_aload_n C dX5_waysFrom_114 rfl 3 rfl ?_
  refine z_iload C dX5_waysFrom_115 10 rfl ?_
  refine z_iload C dX5_waysFrom_117 1 rfl ?_
  obtain ⟨r3, hc4, hf⟩ := q_bd hf
  refine z_cVi C (st := [.int (imax x3 r1.2)]) (c_X5_latestBegin ho0 ho1 hc4) mw_X5_latestBegin ml_X5_70 ho0 (by decide) rfl dX5_waysFrom_119 rfl rfl rfl ⟨by first | exact Nat.le_refl _ | (simp only [rmW, rm_X5_latestBegin]; omega), by first | exact Nat.le_refl _ | (simp only [rmW, rm_X5_latestBegin]; omega)⟩ rfl (Nat.le_of_ble_eq_true rfl) ?_
  exact z_icmp_gt C dX5_waysFrom_122 (by decide) (fun h => z_sub [2, 3, 4, 5, 6, 7, 8, 9, 10] rfl (b_X5_waysFrom_150 d C hr hk hKR hK71 r3.1 o0 o1 x2 x3 x4 x5 x6 x7 x8 ho0 ho1 (q_t hf h))) (fun h => z_sub [2, 3, 4, 5, 6, 7, 8, 9, 10, 1, 0] rfl (b_X5_waysFrom_125 d C hr hk hKR hK71 r3.1 o0 o1 x2 x3 x4 x5 x6 x7 x8 (x2 &&& (((1 : Int32) <<< (x8 &&& 31)) ^^^ ((-1)))) (imax x3 r1.2) ho0 ho1 (q_f hf h)))
def f_X5_waysFrom_80 (KR : St → Nat → Nat → Int32 → Int32 → Int32 → Option (St × Int32)) (K71 : St → Nat → Nat → Int32 → Int32 → Int32 → Int32 → Int32 → Int32 → Int32 → Option (St × Int32)) (z : St) (o0 : Nat) (o1 : Nat) (x2 : Int32) (x3 : Int32) (x4 : Int32) (x5 : Int32) (x6 : Int32) (x7 : Int32) (x8 : Int32) : Option (St × Int32) :=
  if ((x2 >>> (x8 &&& 31)) &&& 1) = 0 then f_X5_waysFrom_150 KR K71 z o0 o1 x2 x3 x4 x5 x6 x7 x8 else f_X5_waysFrom_89 KR K71 z o0 o1 x2 x3 x4 x5 x6 x7 x8
theorem b_X5_waysFrom_80 (d : Nat) {p : Program} {l : Launch} {e : Env} {s : State} {m : MethodId} {args : Array Value} {below : List Frame} {meth : Method} {c : Code} {g : Ga} {A : Nat → Prop} (C : Cx l g A p s m args c cX5_waysFrom 11 RX5 (rmW (d + 1)) (0, 0)) (hr : meth.sig.returnType = (some .int)) (hk : meth.locks = false) {KR : St → Nat → Nat → Int32 → Int32 → Int32 → Option (St × Int32)} {K71 : St → Nat → Nat → Int32 → Int32 → Int32 → Int32 → Int32 → Int32 → Int32 → Option (St × Int32)} (hKR : ∀ (z : St) (o0 : Nat) (o1 : Nat) (x2 : Int32) (x3 : Int32) (x4 : Int32) (_ : kd o0 = 5) (_ : kd o1 = 4) (res : St × Int32), KR z o0 o1 x2 x3 x4 = some res → CI l g A yX5_waysFrom cX5_waysFrom 11 (some .int) (rmW d) [.ref (g.1 o0), .ref (g.1 o1), .int x2, .int x3, .int x4] z res) (hK71 : ∀ (z : St) (o0 : Nat) (o1 : Nat) (x2 : Int32) (x3 : Int32) (x4 : Int32) (x5 : Int32) (x6 : Int32) (x7 : Int32) (x8 : Int32) (_ : kd o0 = 5) (_ : kd o1 = 4) {res : St × Int32}, K71 z o0 o1 x2 x3 x4 x5 x6 x7 x8 = some res → Zj p l e (rmW (d + 1)) s m args below meth c g A 11 (0, 0) (QI g A below args s res) z 71 [(0, .ref (g.1 o0)), (1, .ref (g.1 o1)), (2, .int x2), (3, .int x3), (4, .int x4), (5, .int x5), (6, .int x6), (7, .int x7), (8, .int x8)] []) (z : St) (o0 : Nat) (o1 : Nat) (x2 : Int32) (x3 : Int32) (x4 : Int32) (x5 : Int32) (x6 : Int32) (x7 : Int32) (x8 : Int32) (ho0 : kd o0 = 5) (ho1 : kd o1 = 4) {res : St × Int32} (hf : f_X5_waysFrom_80 KR K71 z o0 o1 x2 x3 x4 x5 x6 x7 x8 = some res) : Zj p l e (rmW (d + 1)) s m args below meth c g A 11 (0, 0) (QI g A below args s res) z 80 [(0, .ref (g.1 o0)), (1, .ref (g.1 o1)), (2, .int x2), (3, .int x3), (4, .int x4), (5, .int x5), (6, .int x6), (7, .int x7), (8, .int x8)] [] := by
  unfold f_X5_waysFrom_80 at hf
  refine z_iload_n C dX5_waysFrom_80 rfl 2 rfl ?_
  refine z_iload C dX5_waysFrom_81 8 rfl ?_
  refine z_ishr C dX5_waysFrom_83 ?_
  refine z_iconst C dX5_waysFrom_84 (v := 1) (by decide) ?_
  refine z_iand C dX5_waysFrom_85 ?_
  exact z_if_eq C dX5_waysFrom_86 (by decide) (fun h => z_sub [0, 1, 2, 3, 4, 5, 6, 7, 8] rfl (b_X5_waysFrom_150 d C hr hk hKR hK71 z o0 o1 x2 x3 x4 x5 x6 x7 x8 ho0 ho1 (q_t hf h))) (fun h => z_sub [0, 1, 2, 3, 4, 5, 6, 7, 8] rfl (b_X5_waysFrom_89 d C hr hk hKR hK71 z o0 o1 x2 x3 x4 x5 x6 x7 x8 ho0 ho1 (q_f hf h)))
def f_X5_waysFrom_156 (KR : St → Nat → Nat → Int32 → Int32 → Int32 → Option (St × Int32))  (z : St) (o0 : Nat) (x5 : Int32) (x6 : Int32) (x7 : Int32) : Option (St × Int32) :=
  if inb x6 512 = true then (if inb x6 512 = true then (some (zI (zI z (rf o0 2) (Int32.toNatClampNeg x6) x5) (rf o0 3) (Int32.toNatClampNeg x6) x7, x7)) else none) else none
theorem b_X5_waysFrom_156 (d : Nat) {p : Program} {l : Launch} {e : Env} {s : State} {m : MethodId} {args : Array Value} {below : List Frame} {meth : Method} {c : Code} {g : Ga} {A : Nat → Prop} (C : Cx l g A p s m args c cX5_waysFrom 11 RX5 (rmW (d + 1)) (0, 0)) (hr : meth.sig.returnType = (some .int)) (hk : meth.locks = false) {KR : St → Nat → Nat → Int32 → Int32 → Int32 → Option (St × Int32)}  (hKR : ∀ (z : St) (o0 : Nat) (o1 : Nat) (x2 : Int32) (x3 : Int32) (x4 : Int32) (_ : kd o0 = 5) (_ : kd o1 = 4) (res : St × Int32), KR z o0 o1 x2 x3 x4 = some res → CI l g A yX5_waysFrom cX5_waysFrom 11 (some .int) (rmW d) [.ref (g.1 o0), .ref (g.1 o1), .int x2, .int x3, .int x4] z res)  (z : St) (o0 : Nat) (x5 : Int32) (x6 : Int32) (x7 : Int32) (ho0 : kd o0 = 5) {res : St × Int32} (hf : f_X5_waysFrom_156 KR  z o0 x5 x6 x7 = some res) : Zj p l e (rmW (d + 1)) s m args below meth c g A 11 (0, 0) (QI g A below args s res) z 156 [(0, .ref (g.1 o0)), (5, .int x5), (6, .int x6), (7, .int x7)] [] := by
  unfold f_X5_waysFrom_156 at hf
  refine z_aload_n C dX5_waysFrom_156 rfl 0 rfl ?_
  refine gf_X5_18 C dX5_waysFrom_157 ho0 ?_
  refine z_iload C dX5_waysFrom_160 2 rfl ?_
  refine z_iload C dX5_waysFrom_162 1 rfl ?_
  obtain ⟨h1, hf⟩ := q_ck hf
  refine z_iast C (n := 512) dX5_waysFrom_164 (rt_5_2 _ (kd_lt ho0 (by decide)) ho0) (by decide) h1 ?_
  refine z_aload_n C dX5_waysFrom_165 rfl 0 rfl ?_
  refine gf_X5_21 C dX5_waysFrom_166 ho0 ?_
  refine z_iload C dX5_waysFrom_169 2 rfl ?_
  refine z_iload C dX5_waysFrom_171 3 rfl ?_
  obtain ⟨h2, hf⟩ := q_ck hf
  refine z_iast C (n := 512) dX5_waysFrom_173 (rt_5_3 _ (kd_lt ho0 (by decide)) ho0) (by decide) h2 ?_
  refine z_iload C dX5_waysFrom_174 3 rfl ?_
  cases hf
  exact z_iret C hr hk dX5_waysFrom_176
def f_X5_waysFrom_71 (KR : St → Nat → Nat → Int32 → Int32 → Int32 → Option (St × Int32))  : Nat → St → Nat → Nat → Int32 → Int32 → Int32 → Int32 → Int32 → Int32 → Int32 → Option (St × Int32)
  | 0, _, _, _, _, _, _, _, _, _, _ => none
  | n + 1, z, o0, o1, x2, x3, x4, x5, x6, x7, x8 => if (z.1 o1 3) ≤ x8 then f_X5_waysFrom_156 KR z o0 x5 x6 x7 else f_X5_waysFrom_80 KR (f_X5_waysFrom_71 KR n) z o0 o1 x2 x3 x4 x5 x6 x7 x8
theorem b_X5_waysFrom_71 (d : Nat) {p : Program} {l : Launch} {e : Env} {s : State} {m : MethodId} {args : Array Value} {below : List Frame} {meth : Method} {c : Code} {g : Ga} {A : Nat → Prop} (C : Cx l g A p s m args c cX5_waysFrom 11 RX5 (rmW (d + 1)) (0, 0)) (hr : meth.sig.returnType = (some .int)) (hk : meth.locks = false) {KR : St → Nat → Nat → Int32 → Int32 → Int32 → Option (St × Int32)}  (hKR : ∀ (z : St) (o0 : Nat) (o1 : Nat) (x2 : Int32) (x3 : Int32) (x4 : Int32) (_ : kd o0 = 5) (_ : kd o1 = 4) (res : St × Int32), KR z o0 o1 x2 x3 x4 = some res → CI l g A yX5_waysFrom cX5_waysFrom 11 (some .int) (rmW d) [.ref (g.1 o0), .ref (g.1 o1), .int x2, .int x3, .int x4] z res)  : ∀ (n : Nat) (z : St) (o0 : Nat) (o1 : Nat) (x2 : Int32) (x3 : Int32) (x4 : Int32) (x5 : Int32) (x6 : Int32) (x7 : Int32) (x8 : Int32) (_ : kd o0 = 5) (_ : kd o1 = 4) {res : St × Int32} (_ : f_X5_waysFrom_71 KR  n z o0 o1 x2 x3 x4 x5 x6 x7 x8 = some res), Zj p l e (rmW (d + 1)) s m args below meth c g A 11 (0, 0) (QI g A below args s res) z 71 [(0, .ref (g.1 o0)), (1, .ref (g.1 o1)), (2, .int x2), (3, .int x3), (4, .int x4), (5, .int x5), (6, .int x6), (7, .int x7), (8, .int x8)] [] := by
  intro n
  induction n with
  | zero =>
    intro z o0 o1 x2 x3 x4 x5 x6 x7 x8 ho0 ho1 res hf
    cases hf
  | succ n ih =>
    intro z o0 o1 x2 x3 x4 x5 x6 x7 x8 ho0 ho1 res hf
    rw [f_X5_waysFrom_71] at hf
    refine z_iload C dX5_waysFrom_71 8 rfl ?_
    refine z_aload_n C dX5_waysFrom_73 rfl 1 rfl ?_
    refine gf_X5_45 C dX5_waysFrom_74 ho1 ?_
    exact z_icmp_ge C dX5_waysFrom_77 (by decide) (fun h => z_sub [0, 5, 6, 7] rfl (b_X5_waysFrom_156 d C hr hk hKR z o0 x5 x6 x7 ho0 (q_t hf h))) (fun h => z_sub [0, 1, 2, 3, 4, 5, 6, 7, 8] rfl (b_X5_waysFrom_80 d C hr hk hKR ih z o0 o1 x2 x3 x4 x5 x6 x7 x8 ho0 ho1 (q_f hf h)))
def f_X5_waysFrom_65 (KR : St → Nat → Nat → Int32 → Int32 → Int32 → Option (St × Int32))  (z : St) (o0 : Nat) (o1 : Nat) (x2 : Int32) (x3 : Int32) (x4 : Int32) (x5 : Int32) (x6 : Int32) : Option (St × Int32) :=
  f_X5_waysFrom_71 KR FU z o0 o1 x2 x3 x4 x5 x6 0 0
theorem b_X5_waysFrom_65 (d : Nat) {p : Program} {l : Launch} {e : Env} {s : State} {m : MethodId} {args : Array Value} {below : List Frame} {meth : Method} {c : Code} {g : Ga} {A : Nat → Prop} (C : Cx l g A p s m args c cX5_waysFrom 11 RX5 (rmW (d + 1)) (0, 0)) (hr : meth.sig.returnType = (some .int)) (hk : meth.locks = false) {KR : St → Nat → Nat → Int32 → Int32 → Int32 → Option (St × Int32)}  (hKR : ∀ (z : St) (o0 : Nat) (o1 : Nat) (x2 : Int32) (x3 : Int32) (x4 : Int32) (_ : kd o0 = 5) (_ : kd o1 = 4) (res : St × Int32), KR z o0 o1 x2 x3 x4 = some res → CI l g A yX5_waysFrom cX5_waysFrom 11 (some .int) (rmW d) [.ref (g.1 o0), .ref (g.1 o1), .int x2, .int x3, .int x4] z res)  (z : St) (o0 : Nat) (o1 : Nat) (x2 : Int32) (x3 : Int32) (x4 : Int32) (x5 : Int32) (x6 : Int32) (ho0 : kd o0 = 5) (ho1 : kd o1 = 4) {res : St × Int32} (hf : f_X5_waysFrom_65 KR  z o0 o1 x2 x3 x4 x5 x6 = some res) : Zj p l e (rmW (d + 1)) s m args below meth c g A 11 (0, 0) (QI g A below args s res) z 65 [(0, .ref (g.1 o0)), (1, .ref (g.1 o1)), (2, .int x2), (3, .int x3), (4, .int x4), (5, .int x5), (6, .int x6)] [] := by
  unfold f_X5_waysFrom_65 at hf
  refine z_iconst C dX5_waysFrom_65 (v := 0) (by decide) ?_
  refine z_istore C (lv2 := [(7, .int 0), (0, .ref (g.1 o0)), (1, .ref (g.1 o1)), (2, .int x2), (3, .int x3), (4, .int x4), (5, .int x5), (6, .int x6)]) dX5_waysFrom_66 (by decide) rfl ?_
  refine z_iconst C dX5_waysFrom_68 (v := 0) (by decide) ?_
  refine z_istore C (lv2 := [(8, .int 0), (7, .int 0), (0, .ref (g.1 o0)), (1, .ref (g.1 o1)), (2, .int x2), (3, .int x3), (4, .int x4), (5, .int x5), (6, .int x6)]) dX5_waysFrom_69 (by decide) rfl ?_
  exact z_sub [2, 3, 4, 5, 6, 7, 8, 1, 0] rfl (b_X5_waysFrom_71 d C hr hk hKR FU z o0 o1 x2 x3 x4 x5 x6 0 0 ho0 ho1 hf)
def f_X5_waysFrom_24 (KR : St → Nat → Nat → Int32 → Int32 → Int32 → Option (St × Int32))  (z : St) (o0 : Nat) (o1 : Nat) (x2 : Int32) (x3 : Int32) (x4 : Int32) : Option (St × Int32) :=
  if inb (((x2 * 37) + x3) &&& 511) 512 = true then (if (z.1 (rf o0 2) (Int32.toNatClampNeg (((x2 * 37) + x3) &&& 511))) = ((x2 * 1024) + x3) then f_X5_waysFrom_57 KR z o0 (((x2 * 37) + x3) &&& 511) else f_X5_waysFrom_65 KR z o0 o1 x2 x3 x4 ((x2 * 1024) + x3) (((x2 * 37) + x3) &&& 511)) else none
theorem b_X5_waysFrom_24 (d : Nat) {p : Program} {l : Launch} {e : Env} {s : State} {m : MethodId} {args : Array Value} {below : List Frame} {meth : Method} {c : Code} {g : Ga} {A : Nat → Prop} (C : Cx l g A p s m args c cX5_waysFrom 11 RX5 (rmW (d + 1)) (0, 0)) (hr : meth.sig.returnType = (some .int)) (hk : meth.locks = false) {KR : St → Nat → Nat → Int32 → Int32 → Int32 → Option (St × Int32)}  (hKR : ∀ (z : St) (o0 : Nat) (o1 : Nat) (x2 : Int32) (x3 : Int32) (x4 : Int32) (_ : kd o0 = 5) (_ : kd o1 = 4) (res : St × Int32), KR z o0 o1 x2 x3 x4 = some res → CI l g A yX5_waysFrom cX5_waysFrom 11 (some .int) (rmW d) [.ref (g.1 o0), .ref (g.1 o1), .int x2, .int x3, .int x4] z res)  (z : St) (o0 : Nat) (o1 : Nat) (x2 : Int32) (x3 : Int32) (x4 : Int32) (ho0 : kd o0 = 5) (ho1 : kd o1 = 4) {res : St × Int32} (hf : f_X5_waysFrom_24 KR  z o0 o1 x2 x3 x4 = some res) : Zj p l e (rmW (d + 1)) s m args below meth c g A 11 (0, 0) (QI g A below args s res) z 24 [(0, .ref (g.1 o0)), (1, .ref (g.1 o1)), (2, .int x2), (3, .int x3), (4, .int x4)] [] := by
  unfold f_X5_waysFrom_24 at hf
  refine z_iload_n C dX5_waysFrom_24 rfl 2 rfl ?_
  refine z_sipush C dX5_waysFrom_25 (v := 1024) (by decide) ?_
  refine z_imul C dX5_waysFrom_28 ?_
  refine z_iload_n C dX5_waysFrom_29 rfl 3 rfl ?_
  refine z_iadd C dX5_waysFrom_30 ?_
  refine z_istore C (lv2 := [(5, .int ((x2 * 1024) + x3)), (0, .ref (g.1 o0)), (1, .ref (g.1 o1)), (2, .int x2), (3, .int x3), (4, .int x4)]) dX5_waysFrom_31 (by decide) rfl ?_
  refine z_iload_n C dX5_waysFrom_33 rfl 3 rfl ?_
  refine z_bipush C dX5_waysFrom_34 (v := 37) (by decide) ?_
  refine z_imul C dX5_waysFrom_36 ?_
  refine z_iload_n C dX5_waysFrom_37 rfl 4 rfl ?_
  refine z_iadd C dX5_waysFrom_38 ?_
  refine z_sipush C dX5_waysFrom_39 (v := 511) (by decide) ?_
  refine z_iand C dX5_waysFrom_42 ?_
  refine z_istore C (lv2 := [(6, .int (((x2 * 37) + x3) &&& 511)), (5, .int ((x2 * 1024) + x3)), (0, .ref (g.1 o0)), (1, .ref (g.1 o1)), (2, .int x2), (3, .int x3), (4, .int x4)]) dX5_waysFrom_43 (by decide) rfl ?_
  refine z_aload_n C dX5_waysFrom_45 rfl 2 rfl ?_
  refine gf_X5_18 C dX5_waysFrom_46 ho0 ?_
  refine z_iload C dX5_waysFrom_49 0 rfl ?_
  obtain ⟨h1, hf⟩ := q_ck hf
  refine z_iald C (n := 512) dX5_waysFrom_51 (rt_5_2 _ (kd_lt ho0 (by decide)) ho0) (by decide) h1 ?_
  refine z_iload C dX5_waysFrom_52 1 rfl ?_
  exact z_icmp_ne C dX5_waysFrom_54 (by decide) (fun h => z_sub [2, 3, 4, 5, 6, 1, 0] rfl (b_X5_waysFrom_65 d C hr hk hKR z o0 o1 x2 x3 x4 ((x2 * 1024) + x3) (((x2 * 37) + x3) &&& 511) ho0 ho1 (q_f hf h))) (fun h => z_sub [2, 0] rfl (b_X5_waysFrom_57 d C hr hk hKR z o0 (((x2 * 37) + x3) &&& 511) ho0 (q_t hf h)))
def f_X5_waysFrom_13 (KR : St → Nat → Nat → Int32 → Int32 → Int32 → Option (St × Int32))  (z : St) (o0 : Nat) (o1 : Nat) (x2 : Int32) (x3 : Int32) (x4 : Int32) : Option (St × Int32) :=
  ((f_X5_takenUpOf z o0 x2).bind fun r1 => if x3 ≤ r1.2 then f_X5_waysFrom_24 KR r1.1 o0 o1 x2 x3 x4 else f_X5_waysFrom_22 KR r1.1)
theorem b_X5_waysFrom_13 (d : Nat) {p : Program} {l : Launch} {e : Env} {s : State} {m : MethodId} {args : Array Value} {below : List Frame} {meth : Method} {c : Code} {g : Ga} {A : Nat → Prop} (C : Cx l g A p s m args c cX5_waysFrom 11 RX5 (rmW (d + 1)) (0, 0)) (hr : meth.sig.returnType = (some .int)) (hk : meth.locks = false) {KR : St → Nat → Nat → Int32 → Int32 → Int32 → Option (St × Int32)}  (hKR : ∀ (z : St) (o0 : Nat) (o1 : Nat) (x2 : Int32) (x3 : Int32) (x4 : Int32) (_ : kd o0 = 5) (_ : kd o1 = 4) (res : St × Int32), KR z o0 o1 x2 x3 x4 = some res → CI l g A yX5_waysFrom cX5_waysFrom 11 (some .int) (rmW d) [.ref (g.1 o0), .ref (g.1 o1), .int x2, .int x3, .int x4] z res)  (z : St) (o0 : Nat) (o1 : Nat) (x2 : Int32) (x3 : Int32) (x4 : Int32) (ho0 : kd o0 = 5) (ho1 : kd o1 = 4) {res : St × Int32} (hf : f_X5_waysFrom_13 KR  z o0 o1 x2 x3 x4 = some res) : Zj p l e (rmW (d + 1)) s m args below meth c g A 11 (0, 0) (QI g A below args s res) z 13 [(0, .ref (g.1 o0)), (1, .ref (g.1 o1)), (2, .int x2), (3, .int x3), (4, .int x4)] [] := by
  unfold f_X5_waysFrom_13 at hf
  refine z_iload_n C dX5_waysFrom_13 rfl 3 rfl ?_
  refine z_aload_n C dX5_waysFrom_14 rfl 0 rfl ?_
  refine z_iload_n C dX5_waysFrom_15 rfl 2 rfl ?_
  obtain ⟨r1, hc2, hf⟩ := q_bd hf
  refine z_cVi C (st := [.int x3]) (c_X5_takenUpOf ho0 hc2) mw_X5_takenUpOf ml_X5_74 ho0 (by decide) rfl dX5_waysFrom_16 rfl rfl rfl ⟨by first | exact Nat.le_refl _ | (simp only [rmW, rm_X5_takenUpOf]; omega), by first | exact Nat.le_refl _ | (simp only [rmW, rm_X5_takenUpOf]; omega)⟩ rfl (Nat.le_of_ble_eq_true rfl) ?_
  exact z_icmp_le C dX5_waysFrom_19 (by decide) (fun h => z_sub [0, 1, 2, 3, 4] rfl (b_X5_waysFrom_24 d C hr hk hKR r1.1 o0 o1 x2 x3 x4 ho0 ho1 (q_t hf h))) (fun h => z_sub [] rfl (b_X5_waysFrom_22 d C hr hk hKR r1.1 (q_f hf h)))
def f_X5_waysFrom_6 (KR : St → Nat → Nat → Int32 → Int32 → Int32 → Option (St × Int32))  (z : St) (o0 : Nat) (o1 : Nat) (x2 : Int32) (x3 : Int32) (x4 : Int32) : Option (St × Int32) :=
  if 8 ≤ x4 then f_X5_waysFrom_22 KR z else f_X5_waysFrom_13 KR z o0 o1 x2 x3 x4
theorem b_X5_waysFrom_6 (d : Nat) {p : Program} {l : Launch} {e : Env} {s : State} {m : MethodId} {args : Array Value} {below : List Frame} {meth : Method} {c : Code} {g : Ga} {A : Nat → Prop} (C : Cx l g A p s m args c cX5_waysFrom 11 RX5 (rmW (d + 1)) (0, 0)) (hr : meth.sig.returnType = (some .int)) (hk : meth.locks = false) {KR : St → Nat → Nat → Int32 → Int32 → Int32 → Option (St × Int32)}  (hKR : ∀ (z : St) (o0 : Nat) (o1 : Nat) (x2 : Int32) (x3 : Int32) (x4 : Int32) (_ : kd o0 = 5) (_ : kd o1 = 4) (res : St × Int32), KR z o0 o1 x2 x3 x4 = some res → CI l g A yX5_waysFrom cX5_waysFrom 11 (some .int) (rmW d) [.ref (g.1 o0), .ref (g.1 o1), .int x2, .int x3, .int x4] z res)  (z : St) (o0 : Nat) (o1 : Nat) (x2 : Int32) (x3 : Int32) (x4 : Int32) (ho0 : kd o0 = 5) (ho1 : kd o1 = 4) {res : St × Int32} (hf : f_X5_waysFrom_6 KR  z o0 o1 x2 x3 x4 = some res) : Zj p l e (rmW (d + 1)) s m args below meth c g A 11 (0, 0) (QI g A below args s res) z 6 [(0, .ref (g.1 o0)), (1, .ref (g.1 o1)), (2, .int x2), (3, .int x3), (4, .int x4)] [] := by
  unfold f_X5_waysFrom_6 at hf
  refine z_iload C dX5_waysFrom_6 4 rfl ?_
  refine z_bipush C dX5_waysFrom_8 (v := 8) (by decide) ?_
  exact z_icmp_ge C dX5_waysFrom_10 (by decide) (fun h => z_sub [] rfl (b_X5_waysFrom_22 d C hr hk hKR z (q_t hf h))) (fun h => z_sub [0, 1, 2, 3, 4] rfl (b_X5_waysFrom_13 d C hr hk hKR z o0 o1 x2 x3 x4 ho0 ho1 (q_f hf h)))
def f_X5_waysFrom_0 (KR : St → Nat → Nat → Int32 → Int32 → Int32 → Option (St × Int32))  (z : St) (o0 : Nat) (o1 : Nat) (x2 : Int32) (x3 : Int32) (x4 : Int32) : Option (St × Int32) :=
  if x2 = 0 then f_X5_waysFrom_4 KR z else f_X5_waysFrom_6 KR z o0 o1 x2 x3 x4
theorem b_X5_waysFrom_0 (d : Nat) {p : Program} {l : Launch} {e : Env} {s : State} {m : MethodId} {args : Array Value} {below : List Frame} {meth : Method} {c : Code} {g : Ga} {A : Nat → Prop} (C : Cx l g A p s m args c cX5_waysFrom 11 RX5 (rmW (d + 1)) (0, 0)) (hr : meth.sig.returnType = (some .int)) (hk : meth.locks = false) {KR : St → Nat → Nat → Int32 → Int32 → Int32 → Option (St × Int32)}  (hKR : ∀ (z : St) (o0 : Nat) (o1 : Nat) (x2 : Int32) (x3 : Int32) (x4 : Int32) (_ : kd o0 = 5) (_ : kd o1 = 4) (res : St × Int32), KR z o0 o1 x2 x3 x4 = some res → CI l g A yX5_waysFrom cX5_waysFrom 11 (some .int) (rmW d) [.ref (g.1 o0), .ref (g.1 o1), .int x2, .int x3, .int x4] z res)  (z : St) (o0 : Nat) (o1 : Nat) (x2 : Int32) (x3 : Int32) (x4 : Int32) (ho0 : kd o0 = 5) (ho1 : kd o1 = 4) {res : St × Int32} (hf : f_X5_waysFrom_0 KR  z o0 o1 x2 x3 x4 = some res) : Zj p l e (rmW (d + 1)) s m args below meth c g A 11 (0, 0) (QI g A below args s res) z 0 [(0, .ref (g.1 o0)), (1, .ref (g.1 o1)), (2, .int x2), (3, .int x3), (4, .int x4)] [] := by
  unfold f_X5_waysFrom_0 at hf
  refine z_iload_n C dX5_waysFrom_0 rfl 2 rfl ?_
  exact z_if_ne C dX5_waysFrom_1 (by decide) (fun h => z_sub [0, 1, 2, 3, 4] rfl (b_X5_waysFrom_6 d C hr hk hKR z o0 o1 x2 x3 x4 ho0 ho1 (q_f hf h))) (fun h => z_sub [] rfl (b_X5_waysFrom_4 d C hr hk hKR z (q_t hf h)))
def f_X5_waysFrom : Nat → St → Nat → Nat → Int32 → Int32 → Int32 → Option (St × Int32)
  | 0, _, _, _, _, _, _ => none
  | d + 1, z, o0, o1, x2, x3, x4 => f_X5_waysFrom_0 (f_X5_waysFrom d) z o0 o1 x2 x3 x4
theorem c_X5_waysFrom {l : Launch} {g : Ga} {A : Nat → Prop} : ∀ (d : Nat) {z : St} {o0 : Nat} {o1 : Nat} {x2 : Int32} {x3 : Int32} {x4 : Int32} (ho0 : kd o0 = 5) (ho1 : kd o1 = 4) {res : St × Int32} (hf : f_X5_waysFrom d z o0 o1 x2 x3 x4 = some res), CI l g A yX5_waysFrom cX5_waysFrom 11 (some .int) (rmW d) [.ref (g.1 o0), .ref (g.1 o1), .int x2, .int x3, .int x4] z res := by
  intro d
  induction d with
  | zero =>
    intro z o0 o1 x2 x3 x4 ho0 ho1 res hf
    cases hf
  | succ d ih =>
    intro z o0 o1 x2 x3 x4 ho0 ho1 res hf
    rw [f_X5_waysFrom] at hf
    exact e_CI (by decide) (Nat.le_of_ble_eq_true rfl) rfl (fun p e s m args below meth c C hr hk => z_sub [0, 1, 2, 3, 4] rfl (b_X5_waysFrom_0 d C hr hk (fun z o0 o1 x2 x3 x4 ho0 ho1 res h => ih ho0 ho1 h) z o0 o1 x2 x3 x4 ho0 ho1 hf))
abbrev rm_X5_ways : Room := { frames := 13, cells := 0, slots := 0, locals := 374 }
def f_X5_ways_0  (z : St) (o0 : Nat) (o1 : Nat) : Option (St × Int32) :=
  ((f_J7_fill_53178 z (rf o0 2) ((-1))).bind fun r1 => ((f_X5_waysFrom 10 r1 o0 o1 (r1.1 o0 4) 0 0).bind fun r3 => some (r3.1, r3.2)))
theorem b_X5_ways_0 {p : Program} {l : Launch} {e : Env} {s : State} {m : MethodId} {args : Array Value} {below : List Frame} {meth : Method} {c : Code} {g : Ga} {A : Nat → Prop} (C : Cx l g A p s m args c cX5_ways 2 RX5 (rm_X5_ways) (0, 0)) (hr : meth.sig.returnType = (some .int)) (hk : meth.locks = false)   (z : St) (o0 : Nat) (o1 : Nat) (ho0 : kd o0 = 5) (ho1 : kd o1 = 4) {res : St × Int32} (hf : f_X5_ways_0  z o0 o1 = some res) : Zj p l e (rm_X5_ways) s m args below meth c g A 2 (0, 0) (QI g A below args s res) z 0 [(0, .ref (g.1 o0)), (1, .ref (g.1 o1))] [] := by
  unfold f_X5_ways_0 at hf
  refine z_aload_n C dX5_ways_0 rfl 0 rfl ?_
  refine gf_X5_18 C dX5_ways_1 ho0 ?_
  refine z_iconst C dX5_ways_4 (v := (-1)) (by decide) ?_
  obtain ⟨r1, hc2, hf⟩ := q_bd hf
  refine z_cSv C (st := []) (c_J7_fill_53178 (rt_5_2 _ (kd_lt ho0 (by decide)) ho0) hc2) mw_J7_fill_53178 ml_X5_100 dX5_ways_5 rfl rfl rfl ⟨Nat.le_of_ble_eq_true rfl, Nat.le_of_ble_eq_true rfl⟩ rfl (Nat.le_of_ble_eq_true rfl) ?_
  refine z_aload_n C dX5_ways_8 rfl 0 rfl ?_
  refine z_aload_n C dX5_ways_9 rfl 1 rfl ?_
  refine z_aload_n C dX5_ways_10 rfl 0 rfl ?_
  refine gf_X5_30 C dX5_ways_11 ho0 ?_
  refine z_iconst C dX5_ways_14 (v := 0) (by decide) ?_
  refine z_iconst C dX5_ways_15 (v := 0) (by decide) ?_
  obtain ⟨r3, hc4, hf⟩ := q_bd hf
  refine z_cSi C (st := []) (c_X5_waysFrom 10 ho0 ho1 hc4) mw_X5_waysFrom ml_X5_106 dX5_ways_16 rfl rfl rfl ⟨by simp only [rmW, rm_X5_ways]; omega, by simp only [rmW, rm_X5_ways]; omega⟩ rfl (Nat.le_of_ble_eq_true rfl) ?_
  cases hf
  exact z_iret C hr hk dX5_ways_19
def f_X5_ways (z : St) (o0 : Nat) (o1 : Nat) : Option (St × Int32) := f_X5_ways_0 z o0 o1
theorem c_X5_ways {l : Launch} {g : Ga} {A : Nat → Prop} {z : St} {o0 : Nat} {o1 : Nat} (ho0 : kd o0 = 5) (ho1 : kd o1 = 4) {res : St × Int32} (hf : f_X5_ways z o0 o1 = some res) : CI l g A yX5_ways cX5_ways 2 (some .int) rm_X5_ways [.ref (g.1 o0), .ref (g.1 o1)] z res :=
  e_CI (by decide) (Nat.le_of_ble_eq_true rfl) rfl (fun p e s m args below meth c C hr hk => z_sub [0, 1] rfl (b_X5_ways_0 C hr hk z o0 o1 ho0 ho1 hf))
