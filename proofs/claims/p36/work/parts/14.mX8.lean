abbrev rm_X8_hasRoom : Room := { frames := 0, cells := 0, slots := 0, locals := 0 }
def f_X8_hasRoom_16  (z : St) (s0 : Int32) : Option (St × Int32) :=
  if zb s0 = true then some (z, s0) else none
theorem b_X8_hasRoom_16 {p : Program} {l : Launch} {e : Env} {s : State} {m : MethodId} {args : Array Value} {below : List Frame} {meth : Method} {c : Code} {g : Ga} {A : Nat → Prop} (C : Cx l g A p s m args c cX8_hasRoom 2 RX8 (rm_X8_hasRoom) (0, 0)) (hr : meth.sig.returnType = (some .boolean)) (hk : meth.locks = false)   (z : St) (s0 : Int32)  {res : St × Int32} (hf : f_X8_hasRoom_16  z s0 = some res) : Zj p l e (rm_X8_hasRoom) s m args below meth c g A 2 (0, 0) (QI g A below args s res) z 16 [] [.int s0] := by
  unfold f_X8_hasRoom_16 at hf
  obtain ⟨h1, hf⟩ := q_ck hf
  cases hf
  exact z_zret C hr hk h1 dX8_hasRoom_16
def f_X8_hasRoom_11  (z : St)  : Option (St × Int32) :=
  f_X8_hasRoom_16 z 1
theorem b_X8_hasRoom_11 {p : Program} {l : Launch} {e : Env} {s : State} {m : MethodId} {args : Array Value} {below : List Frame} {meth : Method} {c : Code} {g : Ga} {A : Nat → Prop} (C : Cx l g A p s m args c cX8_hasRoom 2 RX8 (rm_X8_hasRoom) (0, 0)) (hr : meth.sig.returnType = (some .boolean)) (hk : meth.locks = false)   (z : St)   {res : St × Int32} (hf : f_X8_hasRoom_11  z  = some res) : Zj p l e (rm_X8_hasRoom) s m args below meth c g A 2 (0, 0) (QI g A below args s res) z 11 [] [] := by
  unfold f_X8_hasRoom_11 at hf
  refine z_iconst C dX8_hasRoom_11 (v := 1) (by decide) ?_
  exact z_goto C dX8_hasRoom_12 (by decide) (z_sub [] rfl (b_X8_hasRoom_16 C hr hk z 1 hf))
def f_X8_hasRoom_15  (z : St)  : Option (St × Int32) :=
  f_X8_hasRoom_16 z 0
theorem b_X8_hasRoom_15 {p : Program} {l : Launch} {e : Env} {s : State} {m : MethodId} {args : Array Value} {below : List Frame} {meth : Method} {c : Code} {g : Ga} {A : Nat → Prop} (C : Cx l g A p s m args c cX8_hasRoom 2 RX8 (rm_X8_hasRoom) (0, 0)) (hr : meth.sig.returnType = (some .boolean)) (hk : meth.locks = false)   (z : St)   {res : St × Int32} (hf : f_X8_hasRoom_15  z  = some res) : Zj p l e (rm_X8_hasRoom) s m args below meth c g A 2 (0, 0) (QI g A below args s res) z 15 [] [] := by
  unfold f_X8_hasRoom_15 at hf
  refine z_iconst C dX8_hasRoom_15 (v := 0) (by decide) ?_
  exact z_sub [] rfl (b_X8_hasRoom_16 C hr hk z 0 hf)
def f_X8_hasRoom_0  (z : St) (o0 : Nat) (x1 : Int32) : Option (St × Int32) :=
  if 60 < ((z.1 o0 1) + x1) then f_X8_hasRoom_15 z else f_X8_hasRoom_11 z
theorem b_X8_hasRoom_0 {p : Program} {l : Launch} {e : Env} {s : State} {m : MethodId} {args : Array Value} {below : List Frame} {meth : Method} {c : Code} {g : Ga} {A : Nat → Prop} (C : Cx l g A p s m args c cX8_hasRoom 2 RX8 (rm_X8_hasRoom) (0, 0)) (hr : meth.sig.returnType = (some .boolean)) (hk : meth.locks = false)   (z : St) (o0 : Nat) (x1 : Int32) (ho0 : kd o0 = 8) {res : St × Int32} (hf : f_X8_hasRoom_0  z o0 x1 = some res) : Zj p l e (rm_X8_hasRoom) s m args below meth c g A 2 (0, 0) (QI g A below args s res) z 0 [(0, .ref (g.1 o0)), (1, .int x1)] [] := by
  unfold f_X8_hasRoom_0 at hf
  refine z_aload_n C dX8_hasRoom_0 rfl 0 rfl ?_
  refine gf_X8_15 C dX8_hasRoom_1 ho0 ?_
  refine z_iload_n C dX8_hasRoom_4 rfl 1 rfl ?_
  refine z_iadd C dX8_hasRoom_5 ?_
  refine z_bipush C dX8_hasRoom_6 (v := 60) (by decide) ?_
  exact z_icmp_gt C dX8_hasRoom_8 (by decide) (fun h => z_sub [] rfl (b_X8_hasRoom_15 C hr hk z (q_t hf h))) (fun h => z_sub [] rfl (b_X8_hasRoom_11 C hr hk z (q_f hf h)))
def f_X8_hasRoom (z : St) (o0 : Nat) (x1 : Int32) : Option (St × Int32) := f_X8_hasRoom_0 z o0 x1
theorem c_X8_hasRoom {l : Launch} {g : Ga} {A : Nat → Prop} {z : St} {o0 : Nat} {x1 : Int32} (ho0 : kd o0 = 8) {res : St × Int32} (hf : f_X8_hasRoom z o0 x1 = some res) : CI l g A yX8_hasRoom cX8_hasRoom 2 (some .boolean) rm_X8_hasRoom [.ref (g.1 o0), .int x1] z res :=
  e_CI (by decide) (Nat.le_of_ble_eq_true rfl) rfl (fun p e s m args below meth c C hr hk => z_sub [0, 1] rfl (b_X8_hasRoom_0 C hr hk z o0 x1 ho0 hf))
abbrev rm_X8_add : Room := { frames := 0, cells := 0, slots := 0, locals := 0 }
def f_X8_add_39  (z : St)  : Option (St) :=
  some z
theorem b_X8_add_39 {p : Program} {l : Launch} {e : Env} {s : State} {m : MethodId} {args : Array Value} {below : List Frame} {meth : Method} {c : Code} {g : Ga} {A : Nat → Prop} (C : Cx l g A p s m args c cX8_add 2 RX8 (rm_X8_add) (0, 0)) (hr : meth.sig.returnType = none) (hk : meth.locks = false)   (z : St)   {res : St} (hf : f_X8_add_39  z  = some res) : Zj p l e (rm_X8_add) s m args below meth c g A 2 (0, 0) (QV g A below args s res) z 39 [] [] := by
  unfold f_X8_add_39 at hf
  cases hf
  exact z_vret C hr hk dX8_add_39
def f_X8_add_19  (z : St) (o0 : Nat) (x1 : Int32) : Option (St) :=
  if inb (z.1 o0 1) 60 = true then (f_X8_add_39 (zI (zI z (rf o0 0) (Int32.toNatClampNeg (z.1 o0 1)) x1) o0 1 (((zI z (rf o0 0) (Int32.toNatClampNeg (z.1 o0 1)) x1).1 o0 1) + 1))) else none
theorem b_X8_add_19 {p : Program} {l : Launch} {e : Env} {s : State} {m : MethodId} {args : Array Value} {below : List Frame} {meth : Method} {c : Code} {g : Ga} {A : Nat → Prop} (C : Cx l g A p s m args c cX8_add 2 RX8 (rm_X8_add) (0, 0)) (hr : meth.sig.returnType = none) (hk : meth.locks = false)   (z : St) (o0 : Nat) (x1 : Int32) (ho0 : kd o0 = 8) {res : St} (hf : f_X8_add_19  z o0 x1 = some res) : Zj p l e (rm_X8_add) s m args below meth c g A 2 (0, 0) (QV g A below args s res) z 19 [(0, .ref (g.1 o0)), (1, .int x1)] [] := by
  unfold f_X8_add_19 at hf
  refine z_aload_n C dX8_add_19 rfl 0 rfl ?_
  refine gf_X8_9 C dX8_add_20 ho0 ?_
  refine z_aload_n C dX8_add_23 rfl 0 rfl ?_
  refine gf_X8_15 C dX8_add_24 ho0 ?_
  refine z_iload_n C dX8_add_27 rfl 1 rfl ?_
  obtain ⟨h1, hf⟩ := q_ck hf
  refine z_iast C (n := 60) dX8_add_28 (rt_8_0 _ (kd_lt ho0 (by decide)) ho0) (by decide) h1 ?_
  refine z_aload_n C dX8_add_29 rfl 0 rfl ?_
  refine z_dup C dX8_add_30 rfl ?_
  refine gf_X8_15 C dX8_add_31 ho0 ?_
  refine z_iconst C dX8_add_34 (v := 1) (by decide) ?_
  refine z_iadd C dX8_add_35 ?_
  refine pf_X8_15 C dX8_add_36 ho0 ?_
  exact z_sub [] rfl (b_X8_add_39 C hr hk (zI (zI z (rf o0 0) (Int32.toNatClampNeg (z.1 o0 1)) x1) o0 1 (((zI z (rf o0 0) (Int32.toNatClampNeg (z.1 o0 1)) x1).1 o0 1) + 1)) hf)
def f_X8_add_7  (z : St) (o0 : Nat) (x1 : Int32) : Option (St) :=
  if 60 ≤ (z.1 o0 1) then f_X8_add_39 z else f_X8_add_19 z o0 x1
theorem b_X8_add_7 {p : Program} {l : Launch} {e : Env} {s : State} {m : MethodId} {args : Array Value} {below : List Frame} {meth : Method} {c : Code} {g : Ga} {A : Nat → Prop} (C : Cx l g A p s m args c cX8_add 2 RX8 (rm_X8_add) (0, 0)) (hr : meth.sig.returnType = none) (hk : meth.locks = false)   (z : St) (o0 : Nat) (x1 : Int32) (ho0 : kd o0 = 8) {res : St} (hf : f_X8_add_7  z o0 x1 = some res) : Zj p l e (rm_X8_add) s m args below meth c g A 2 (0, 0) (QV g A below args s res) z 7 [(0, .ref (g.1 o0)), (1, .int x1)] [] := by
  unfold f_X8_add_7 at hf
  refine z_aload_n C dX8_add_7 rfl 0 rfl ?_
  refine gf_X8_15 C dX8_add_8 ho0 ?_
  refine z_aload_n C dX8_add_11 rfl 0 rfl ?_
  refine gf_X8_9 C dX8_add_12 ho0 ?_
  refine z_alenI C (n := 60) (v := 60) dX8_add_15 (rt_8_0 _ (kd_lt ho0 (by decide)) ho0) (by decide) rfl ?_
  exact z_icmp_ge C dX8_add_16 (by decide) (fun h => z_sub [] rfl (b_X8_add_39 C hr hk z (q_t hf h))) (fun h => z_sub [0, 1] rfl (b_X8_add_19 C hr hk z o0 x1 ho0 (q_f hf h)))
def f_X8_add_0  (z : St) (o0 : Nat) (x1 : Int32) : Option (St) :=
  if (z.1 o0 1) < 0 then f_X8_add_39 z else f_X8_add_7 z o0 x1
theorem b_X8_add_0 {p : Program} {l : Launch} {e : Env} {s : State} {m : MethodId} {args : Array Value} {below : List Frame} {meth : Method} {c : Code} {g : Ga} {A : Nat → Prop} (C : Cx l g A p s m args c cX8_add 2 RX8 (rm_X8_add) (0, 0)) (hr : meth.sig.returnType = none) (hk : meth.locks = false)   (z : St) (o0 : Nat) (x1 : Int32) (ho0 : kd o0 = 8) {res : St} (hf : f_X8_add_0  z o0 x1 = some res) : Zj p l e (rm_X8_add) s m args below meth c g A 2 (0, 0) (QV g A below args s res) z 0 [(0, .ref (g.1 o0)), (1, .int x1)] [] := by
  unfold f_X8_add_0 at hf
  refine z_aload_n C dX8_add_0 rfl 0 rfl ?_
  refine gf_X8_15 C dX8_add_1 ho0 ?_
  exact z_if_lt C dX8_add_4 (by decide) (fun h => z_sub [] rfl (b_X8_add_39 C hr hk z (q_t hf h))) (fun h => z_sub [0, 1] rfl (b_X8_add_7 C hr hk z o0 x1 ho0 (q_f hf h)))
def f_X8_add (z : St) (o0 : Nat) (x1 : Int32) : Option (St) := f_X8_add_0 z o0 x1
theorem c_X8_add {l : Launch} {g : Ga} {A : Nat → Prop} {z : St} {o0 : Nat} {x1 : Int32} (ho0 : kd o0 = 8) {res : St} (hf : f_X8_add z o0 x1 = some res) : CV l g A yX8_add cX8_add 2 none rm_X8_add [.ref (g.1 o0), .int x1] z res :=
  e_CV (by decide) (Nat.le_of_ble_eq_true rfl) rfl (fun p e s m args below meth c C hr hk => z_sub [0, 1] rfl (b_X8_add_0 C hr hk z o0 x1 ho0 hf))
abbrev rm_X8_clear : Room := { frames := 0, cells := 0, slots := 0, locals := 0 }
def f_X8_clear_0  (z : St) (o0 : Nat) : Option (St) :=
  some (zI z o0 1 0)
theorem b_X8_clear_0 {p : Program} {l : Launch} {e : Env} {s : State} {m : MethodId} {args : Array Value} {below : List Frame} {meth : Method} {c : Code} {g : Ga} {A : Nat → Prop} (C : Cx l g A p s m args c cX8_clear 1 RX8 (rm_X8_clear) (0, 0)) (hr : meth.sig.returnType = none) (hk : meth.locks = false)   (z : St) (o0 : Nat) (ho0 : kd o0 = 8) {res : St} (hf : f_X8_clear_0  z o0 = some res) : Zj p l e (rm_X8_clear) s m args below meth c g A 1 (0, 0) (QV g A below args s res) z 0 [(0, .ref (g.1 o0))] [] := by
  unfold f_X8_clear_0 at hf
  refine z_aload_n C dX8_clear_0 rfl 0 rfl ?_
  refine z_iconst C dX8_clear_1 (v := 0) (by decide) ?_
  refine pf_X8_15 C dX8_clear_2 ho0 ?_
  cases hf
  exact z_vret C hr hk dX8_clear_5
def f_X8_clear (z : St) (o0 : Nat) : Option (St) := f_X8_clear_0 z o0
theorem c_X8_clear {l : Launch} {g : Ga} {A : Nat → Prop} {z : St} {o0 : Nat} (ho0 : kd o0 = 8) {res : St} (hf : f_X8_clear z o0 = some res) : CV l g A yX8_clear cX8_clear 1 none rm_X8_clear [.ref (g.1 o0)] z res :=
  e_CV (by decide) (Nat.le_of_ble_eq_true rfl) rfl (fun p e s m args below meth c C hr hk => z_sub [0] rfl (b_X8_clear_0 C hr hk z o0 ho0 hf))
abbrev rm_X8_byteHere : Room := { frames := 0, cells := 0, slots := 0, locals := 0 }
def f_X8_byteHere_43  (z : St) (s0 : Int32) : Option (St × Int32) :=
  some (z, s0)
theorem b_X8_byteHere_43 {p : Program} {l : Launch} {e : Env} {s : State} {m : MethodId} {args : Array Value} {below : List Frame} {meth : Method} {c : Code} {g : Ga} {A : Nat → Prop} (C : Cx l g A p s m args c cX8_byteHere 1 RX8 (rm_X8_byteHere) (0, 0)) (hr : meth.sig.returnType = (some .int)) (hk : meth.locks = false)   (z : St) (s0 : Int32)  {res : St × Int32} (hf : f_X8_byteHere_43  z s0 = some res) : Zj p l e (rm_X8_byteHere) s m args below meth c g A 1 (0, 0) (QI g A below args s res) z 43 [] [.int s0] := by
  unfold f_X8_byteHere_43 at hf
  cases hf
  exact z_iret C hr hk dX8_byteHere_43
def f_X8_byteHere_30  (z : St) (o0 : Nat) : Option (St × Int32) :=
  if inb (z.1 o0 2) 60 = true then (f_X8_byteHere_43 z (z.1 (rf o0 0) (Int32.toNatClampNeg (z.1 o0 2)))) else none
theorem b_X8_byteHere_30 {p : Program} {l : Launch} {e : Env} {s : State} {m : MethodId} {args : Array Value} {below : List Frame} {meth : Method} {c : Code} {g : Ga} {A : Nat → Prop} (C : Cx l g A p s m args c cX8_byteHere 1 RX8 (rm_X8_byteHere) (0, 0)) (hr : meth.sig.returnType = (some .int)) (hk : meth.locks = false)   (z : St) (o0 : Nat) (ho0 : kd o0 = 8) {res : St × Int32} (hf : f_X8_byteHere_30  z o0 = some res) : Zj p l e (rm_X8_byteHere) s m args below meth c g A 1 (0, 0) (QI g A below args s res) z 30 [(0, .ref (g.1 o0))] [] := by
  unfold f_X8_byteHere_30 at hf
  refine z_aload_n C dX8_byteHere_30 rfl 0 rfl ?_
  refine gf_X8_9 C dX8_byteHere_31 ho0 ?_
  refine z_aload_n C dX8_byteHere_34 rfl 0 rfl ?_
  refine gf_X8_24 C dX8_byteHere_35 ho0 ?_
  obtain ⟨h1, hf⟩ := q_ck hf
  refine z_iald C (n := 60) dX8_byteHere_38 (rt_8_0 _ (kd_lt ho0 (by decide)) ho0) (by decide) h1 ?_
  exact z_goto C dX8_byteHere_39 (by decide) (z_sub [] rfl (b_X8_byteHere_43 C hr hk z (z.1 (rf o0 0) (Int32.toNatClampNeg (z.1 o0 2))) hf))
def f_X8_byteHere_42  (z : St)  : Option (St × Int32) :=
  f_X8_byteHere_43 z ((-1))
theorem b_X8_byteHere_42 {p : Program} {l : Launch} {e : Env} {s : State} {m : MethodId} {args : Array Value} {below : List Frame} {meth : Method} {c : Code} {g : Ga} {A : Nat → Prop} (C : Cx l g A p s m args c cX8_byteHere 1 RX8 (rm_X8_byteHere) (0, 0)) (hr : meth.sig.returnType = (some .int)) (hk : meth.locks = false)   (z : St)   {res : St × Int32} (hf : f_X8_byteHere_42  z  = some res) : Zj p l e (rm_X8_byteHere) s m args below meth c g A 1 (0, 0) (QI g A below args s res) z 42 [] [] := by
  unfold f_X8_byteHere_42 at hf
  refine z_iconst C dX8_byteHere_42 (v := (-1)) (by decide) ?_
  exact z_sub [] rfl (b_X8_byteHere_43 C hr hk z ((-1)) hf)
def f_X8_byteHere_18  (z : St) (o0 : Nat) : Option (St × Int32) :=
  if 60 ≤ (z.1 o0 2) then f_X8_byteHere_42 z else f_X8_byteHere_30 z o0
theorem b_X8_byteHere_18 {p : Program} {l : Launch} {e : Env} {s : State} {m : MethodId} {args : Array Value} {below : List Frame} {meth : Method} {c : Code} {g : Ga} {A : Nat → Prop} (C : Cx l g A p s m args c cX8_byteHere 1 RX8 (rm_X8_byteHere) (0, 0)) (hr : meth.sig.returnType = (some .int)) (hk : meth.locks = false)   (z : St) (o0 : Nat) (ho0 : kd o0 = 8) {res : St × Int32} (hf : f_X8_byteHere_18  z o0 = some res) : Zj p l e (rm_X8_byteHere) s m args below meth c g A 1 (0, 0) (QI g A below args s res) z 18 [(0, .ref (g.1 o0))] [] := by
  unfold f_X8_byteHere_18 at hf
  refine z_aload_n C dX8_byteHere_18 rfl 0 rfl ?_
  refine gf_X8_24 C dX8_byteHere_19 ho0 ?_
  refine z_aload_n C dX8_byteHere_22 rfl 0 rfl ?_
  refine gf_X8_9 C dX8_byteHere_23 ho0 ?_
  refine z_alenI C (n := 60) (v := 60) dX8_byteHere_26 (rt_8_0 _ (kd_lt ho0 (by decide)) ho0) (by decide) rfl ?_
  exact z_icmp_ge C dX8_byteHere_27 (by decide) (fun h => z_sub [] rfl (b_X8_byteHere_42 C hr hk z (q_t hf h))) (fun h => z_sub [0] rfl (b_X8_byteHere_30 C hr hk z o0 ho0 (q_f hf h)))
def f_X8_byteHere_7  (z : St) (o0 : Nat) : Option (St × Int32) :=
  if (z.1 o0 1) ≤ (z.1 o0 2) then f_X8_byteHere_42 z else f_X8_byteHere_18 z o0
theorem b_X8_byteHere_7 {p : Program} {l : Launch} {e : Env} {s : State} {m : MethodId} {args : Array Value} {below : List Frame} {meth : Method} {c : Code} {g : Ga} {A : Nat → Prop} (C : Cx l g A p s m args c cX8_byteHere 1 RX8 (rm_X8_byteHere) (0, 0)) (hr : meth.sig.returnType = (some .int)) (hk : meth.locks = false)   (z : St) (o0 : Nat) (ho0 : kd o0 = 8) {res : St × Int32} (hf : f_X8_byteHere_7  z o0 = some res) : Zj p l e (rm_X8_byteHere) s m args below meth c g A 1 (0, 0) (QI g A below args s res) z 7 [(0, .ref (g.1 o0))] [] := by
  unfold f_X8_byteHere_7 at hf
  refine z_aload_n C dX8_byteHere_7 rfl 0 rfl ?_
  refine gf_X8_24 C dX8_byteHere_8 ho0 ?_
  refine z_aload_n C dX8_byteHere_11 rfl 0 rfl ?_
  refine gf_X8_15 C dX8_byteHere_12 ho0 ?_
  exact z_icmp_ge C dX8_byteHere_15 (by decide) (fun h => z_sub [] rfl (b_X8_byteHere_42 C hr hk z (q_t hf h))) (fun h => z_sub [0] rfl (b_X8_byteHere_18 C hr hk z o0 ho0 (q_f hf h)))
def f_X8_byteHere_0  (z : St) (o0 : Nat) : Option (St × Int32) :=
  if (z.1 o0 2) < 0 then f_X8_byteHere_42 z else f_X8_byteHere_7 z o0
theorem b_X8_byteHere_0 {p : Program} {l : Launch} {e : Env} {s : State} {m : MethodId} {args : Array Value} {below : List Frame} {meth : Method} {c : Code} {g : Ga} {A : Nat → Prop} (C : Cx l g A p s m args c cX8_byteHere 1 RX8 (rm_X8_byteHere) (0, 0)) (hr : meth.sig.returnType = (some .int)) (hk : meth.locks = false)   (z : St) (o0 : Nat) (ho0 : kd o0 = 8) {res : St × Int32} (hf : f_X8_byteHere_0  z o0 = some res) : Zj p l e (rm_X8_byteHere) s m args below meth c g A 1 (0, 0) (QI g A below args s res) z 0 [(0, .ref (g.1 o0))] [] := by
  unfold f_X8_byteHere_0 at hf
  refine z_aload_n C dX8_byteHere_0 rfl 0 rfl ?_
  refine gf_X8_24 C dX8_byteHere_1 ho0 ?_
  exact z_if_lt C dX8_byteHere_4 (by decide) (fun h => z_sub [] rfl (b_X8_byteHere_42 C hr hk z (q_t hf h))) (fun h => z_sub [0] rfl (b_X8_byteHere_7 C hr hk z o0 ho0 (q_f hf h)))
def f_X8_byteHere (z : St) (o0 : Nat) : Option (St × Int32) := f_X8_byteHere_0 z o0
theorem c_X8_byteHere {l : Launch} {g : Ga} {A : Nat → Prop} {z : St} {o0 : Nat} (ho0 : kd o0 = 8) {res : St × Int32} (hf : f_X8_byteHere z o0 = some res) : CI l g A yX8_byteHere cX8_byteHere 1 (some .int) rm_X8_byteHere [.ref (g.1 o0)] z res :=
  e_CI (by decide) (Nat.le_of_ble_eq_true rfl) rfl (fun p e s m args below meth c C hr hk => z_sub [0] rfl (b_X8_byteHere_0 C hr hk z o0 ho0 hf))
abbrev rm_X8_kindOf : Room := { frames := 0, cells := 0, slots := 0, locals := 0 }
def f_X8_kindOf_80  (z : St)  : Option (St × Int32) :=
  some (z, 0)
theorem b_X8_kindOf_80 {p : Program} {l : Launch} {e : Env} {s : State} {m : MethodId} {args : Array Value} {below : List Frame} {meth : Method} {c : Code} {g : Ga} {A : Nat → Prop} (C : Cx l g A p s m args c cX8_kindOf 1 RX8 (rm_X8_kindOf) (0, 0)) (hr : meth.sig.returnType = (some .int)) (hk : meth.locks = false)   (z : St)   {res : St × Int32} (hf : f_X8_kindOf_80  z  = some res) : Zj p l e (rm_X8_kindOf) s m args below meth c g A 1 (0, 0) (QI g A below args s res) z 80 [] [] := by
  unfold f_X8_kindOf_80 at hf
  refine z_iconst C dX8_kindOf_80 (v := 0) (by decide) ?_
  cases hf
  exact z_iret C hr hk dX8_kindOf_81
def f_X8_kindOf_82  (z : St)  : Option (St × Int32) :=
  some (z, 1)
theorem b_X8_kindOf_82 {p : Program} {l : Launch} {e : Env} {s : State} {m : MethodId} {args : Array Value} {below : List Frame} {meth : Method} {c : Code} {g : Ga} {A : Nat → Prop} (C : Cx l g A p s m args c cX8_kindOf 1 RX8 (rm_X8_kindOf) (0, 0)) (hr : meth.sig.returnType = (some .int)) (hk : meth.locks = false)   (z : St)   {res : St × Int32} (hf : f_X8_kindOf_82  z  = some res) : Zj p l e (rm_X8_kindOf) s m args below meth c g A 1 (0, 0) (QI g A below args s res) z 82 [] [] := by
  unfold f_X8_kindOf_82 at hf
  refine z_iconst C dX8_kindOf_82 (v := 1) (by decide) ?_
  cases hf
  exact z_iret C hr hk dX8_kindOf_83
def f_X8_kindOf_84  (z : St)  : Option (St × Int32) :=
  some (z, 2)
theorem b_X8_kindOf_84 {p : Program} {l : Launch} {e : Env} {s : State} {m : MethodId} {args : Array Value} {below : List Frame} {meth : Method} {c : Code} {g : Ga} {A : Nat → Prop} (C : Cx l g A p s m args c cX8_kindOf 1 RX8 (rm_X8_kindOf) (0, 0)) (hr : meth.sig.returnType = (some .int)) (hk : meth.locks = false)   (z : St)   {res : St × Int32} (hf : f_X8_kindOf_84  z  = some res) : Zj p l e (rm_X8_kindOf) s m args below meth c g A 1 (0, 0) (QI g A below args s res) z 84 [] [] := by
  unfold f_X8_kindOf_84 at hf
  refine z_iconst C dX8_kindOf_84 (v := 2) (by decide) ?_
  cases hf
  exact z_iret C hr hk dX8_kindOf_85
def f_X8_kindOf_86  (z : St)  : Option (St × Int32) :=
  some (z, 3)
theorem b_X8_kindOf_86 {p : Program} {l : Launch} {e : Env} {s : State} {m : MethodId} {args : Array Value} {below : List Frame} {meth : Method} {c : Code} {g : Ga} {A : Nat → Prop} (C : Cx l g A p s m args c cX8_kindOf 1 RX8 (rm_X8_kindOf) (0, 0)) (hr : meth.sig.returnType = (some .int)) (hk : meth.locks = false)   (z : St)   {res : St × Int32} (hf : f_X8_kindOf_86  z  = some res) : Zj p l e (rm_X8_kindOf) s m args below meth c g A 1 (0, 0) (QI g A below args s res) z 86 [] [] := by
  unfold f_X8_kindOf_86 at hf
  refine z_iconst C dX8_kindOf_86 (v := 3) (by decide) ?_
  cases hf
  exact z_iret C hr hk dX8_kindOf_87
def f_X8_kindOf_88  (z : St)  : Option (St × Int32) :=
  some (z, 4)
theorem b_X8_kindOf_88 {p : Program} {l : Launch} {e : Env} {s : State} {m : MethodId} {args : Array Value} {below : List Frame} {meth : Method} {c : Code} {g : Ga} {A : Nat → Prop} (C : Cx l g A p s m args c cX8_kindOf 1 RX8 (rm_X8_kindOf) (0, 0)) (hr : meth.sig.returnType = (some .int)) (hk : meth.locks = false)   (z : St)   {res : St × Int32} (hf : f_X8_kindOf_88  z  = some res) : Zj p l e (rm_X8_kindOf) s m args below meth c g A 1 (0, 0) (QI g A below args s res) z 88 [] [] := by
  unfold f_X8_kindOf_88 at hf
  refine z_iconst C dX8_kindOf_88 (v := 4) (by decide) ?_
  cases hf
  exact z_iret C hr hk dX8_kindOf_89
def f_X8_kindOf_90  (z : St)  : Option (St × Int32) :=
  some (z, 5)
theorem b_X8_kindOf_90 {p : Program} {l : Launch} {e : Env} {s : State} {m : MethodId} {args : Array Value} {below : List Frame} {meth : Method} {c : Code} {g : Ga} {A : Nat → Prop} (C : Cx l g A p s m args c cX8_kindOf 1 RX8 (rm_X8_kindOf) (0, 0)) (hr : meth.sig.returnType = (some .int)) (hk : meth.locks = false)   (z : St)   {res : St × Int32} (hf : f_X8_kindOf_90  z  = some res) : Zj p l e (rm_X8_kindOf) s m args below meth c g A 1 (0, 0) (QI g A below args s res) z 90 [] [] := by
  unfold f_X8_kindOf_90 at hf
  refine z_iconst C dX8_kindOf_90 (v := 5) (by decide) ?_
  cases hf
  exact z_iret C hr hk dX8_kindOf_91
def f_X8_kindOf_92  (z : St)  : Option (St × Int32) :=
  some (z, (-1))
theorem b_X8_kindOf_92 {p : Program} {l : Launch} {e : Env} {s : State} {m : MethodId} {args : Array Value} {below : List Frame} {meth : Method} {c : Code} {g : Ga} {A : Nat → Prop} (C : Cx l g A p s m args c cX8_kindOf 1 RX8 (rm_X8_kindOf) (0, 0)) (hr : meth.sig.returnType = (some .int)) (hk : meth.locks = false)   (z : St)   {res : St × Int32} (hf : f_X8_kindOf_92  z  = some res) : Zj p l e (rm_X8_kindOf) s m args below meth c g A 1 (0, 0) (QI g A below args s res) z 92 [] [] := by
  unfold f_X8_kindOf_92 at hf
  refine z_iconst C dX8_kindOf_92 (v := (-1)) (by decide) ?_
  cases hf
  exact z_iret C hr hk dX8_kindOf_93
def f_X8_kindOf_0  (z : St) (x0 : Int32) : Option (St × Int32) :=
  if x0 = 100 then f_X8_kindOf_86 z else if x0 = 101 then f_X8_kindOf_92 z else if x0 = 102 then f_X8_kindOf_92 z else if x0 = 103 then f_X8_kindOf_92 z else if x0 = 104 then f_X8_kindOf_84 z else if x0 = 105 then f_X8_kindOf_92 z else if x0 = 106 then f_X8_kindOf_92 z else if x0 = 107 then f_X8_kindOf_92 z else if x0 = 108 then f_X8_kindOf_92 z else if x0 = 109 then f_X8_kindOf_88 z else if x0 = 110 then f_X8_kindOf_92 z else if x0 = 111 then f_X8_kindOf_92 z else if x0 = 112 then f_X8_kindOf_80 z else if x0 = 113 then f_X8_kindOf_92 z else if x0 = 114 then f_X8_kindOf_82 z else if x0 = 115 then f_X8_kindOf_90 z else f_X8_kindOf_92 z
theorem b_X8_kindOf_0 {p : Program} {l : Launch} {e : Env} {s : State} {m : MethodId} {args : Array Value} {below : List Frame} {meth : Method} {c : Code} {g : Ga} {A : Nat → Prop} (C : Cx l g A p s m args c cX8_kindOf 1 RX8 (rm_X8_kindOf) (0, 0)) (hr : meth.sig.returnType = (some .int)) (hk : meth.locks = false)   (z : St) (x0 : Int32)  {res : St × Int32} (hf : f_X8_kindOf_0  z x0 = some res) : Zj p l e (rm_X8_kindOf) s m args below meth c g A 1 (0, 0) (QI g A below args s res) z 0 [(0, .int x0)] [] := by
  unfold f_X8_kindOf_0 at hf
  refine z_iload_n C dX8_kindOf_0 rfl 0 rfl ?_
  by_cases h1 : x0 = 100
  · exact z_tblK C dX8_kindOf_1 (k := 100) h1 (by decide) (by decide) (off := 85) (by decide) (by decide) (z_sub [] rfl (b_X8_kindOf_86 C hr hk z (q_t hf h1)))
  replace hf := q_f hf h1
  by_cases h2 : x0 = 101
  · exact z_tblK C dX8_kindOf_1 (k := 101) h2 (by decide) (by decide) (off := 91) (by decide) (by decide) (z_sub [] rfl (b_X8_kindOf_92 C hr hk z (q_t hf h2)))
  replace hf := q_f hf h2
  by_cases h3 : x0 = 102
  · exact z_tblK C dX8_kindOf_1 (k := 102) h3 (by decide) (by decide) (off := 91) (by decide) (by decide) (z_sub [] rfl (b_X8_kindOf_92 C hr hk z (q_t hf h3)))
  replace hf := q_f hf h3
  by_cases h4 : x0 = 103
  · exact z_tblK C dX8_kindOf_1 (k := 103) h4 (by decide) (by decide) (off := 91) (by decide) (by decide) (z_sub [] rfl (b_X8_kindOf_92 C hr hk z (q_t hf h4)))
  replace hf := q_f hf h4
  by_cases h5 : x0 = 104
  · exact z_tblK C dX8_kindOf_1 (k := 104) h5 (by decide) (by decide) (off := 83) (by decide) (by decide) (z_sub [] rfl (b_X8_kindOf_84 C hr hk z (q_t hf h5)))
  replace hf := q_f hf h5
  by_cases h6 : x0 = 105
  · exact z_tblK C dX8_kindOf_1 (k := 105) h6 (by decide) (by decide) (off := 91) (by decide) (by decide) (z_sub [] rfl (b_X8_kindOf_92 C hr hk z (q_t hf h6)))
  replace hf := q_f hf h6
  by_cases h7 : x0 = 106
  · exact z_tblK C dX8_kindOf_1 (k := 106) h7 (by decide) (by decide) (off := 91) (by decide) (by decide) (z_sub [] rfl (b_X8_kindOf_92 C hr hk z (q_t hf h7)))
  replace hf := q_f hf h7
  by_cases h8 : x0 = 107
  · exact z_tblK C dX8_kindOf_1 (k := 107) h8 (by decide) (by decide) (off := 91) (by decide) (by decide) (z_sub [] rfl (b_X8_kindOf_92 C hr hk z (q_t hf h8)))
  replace hf := q_f hf h8
  by_cases h9 : x0 = 108
  · exact z_tblK C dX8_kindOf_1 (k := 108) h9 (by decide) (by decide) (off := 91) (by decide) (by decide) (z_sub [] rfl (b_X8_kindOf_92 C hr hk z (q_t hf h9)))
  replace hf := q_f hf h9
  by_cases h10 : x0 = 109
  · exact z_tblK C dX8_kindOf_1 (k := 109) h10 (by decide) (by decide) (off := 87) (by decide) (by decide) (z_sub [] rfl (b_X8_kindOf_88 C hr hk z (q_t hf h10)))
  replace hf := q_f hf h10
  by_cases h11 : x0 = 110
  · exact z_tblK C dX8_kindOf_1 (k := 110) h11 (by decide) (by decide) (off := 91) (by decide) (by decide) (z_sub [] rfl (b_X8_kindOf_92 C hr hk z (q_t hf h11)))
  replace hf := q_f hf h11
  by_cases h12 : x0 = 111
  · exact z_tblK C dX8_kindOf_1 (k := 111) h12 (by decide) (by decide) (off := 91) (by decide) (by decide) (z_sub [] rfl (b_X8_kindOf_92 C hr hk z (q_t hf h12)))
  replace hf := q_f hf h12
  by_cases h13 : x0 = 112
  · exact z_tblK C dX8_kindOf_1 (k := 112) h13 (by decide) (by decide) (off := 79) (by decide) (by decide) (z_sub [] rfl (b_X8_kindOf_80 C hr hk z (q_t hf h13)))
  replace hf := q_f hf h13
  by_cases h14 : x0 = 113
  · exact z_tblK C dX8_kindOf_1 (k := 113) h14 (by decide) (by decide) (off := 91) (by decide) (by decide) (z_sub [] rfl (b_X8_kindOf_92 C hr hk z (q_t hf h14)))
  replace hf := q_f hf h14
  by_cases h15 : x0 = 114
  · exact z_tblK C dX8_kindOf_1 (k := 114) h15 (by decide) (by decide) (off := 81) (by decide) (by decide) (z_sub [] rfl (b_X8_kindOf_82 C hr hk z (q_t hf h15)))
  replace hf := q_f hf h15
  by_cases h16 : x0 = 115
  · exact z_tblK C dX8_kindOf_1 (k := 115) h16 (by decide) (by decide) (off := 89) (by decide) (by decide) (z_sub [] rfl (b_X8_kindOf_90 C hr hk z (q_t hf h16)))
  replace hf := q_f hf h16
  exact z_tblOut C dX8_kindOf_1 (tbl_out (lo := 100) (hi := 115) (fun k q1 q2 => by
    rcases (show k = 100 ∨ k = 101 ∨ k = 102 ∨ k = 103 ∨ k = 104 ∨ k = 105 ∨ k = 106 ∨ k = 107 ∨ k = 108 ∨ k = 109 ∨ k = 110 ∨ k = 111 ∨ k = 112 ∨ k = 113 ∨ k = 114 ∨ k = 115 by omega) with rfl | rfl | rfl | rfl | rfl | rfl | rfl | rfl | rfl | rfl | rfl | rfl | rfl | rfl | rfl | rfl
    · exact fun e => h1 (e.symm.trans (by decide))
    · exact fun e => h2 (e.symm.trans (by decide))
    · exact fun e => h3 (e.symm.trans (by decide))
    · exact fun e => h4 (e.symm.trans (by decide))
    · exact fun e => h5 (e.symm.trans (by decide))
    · exact fun e => h6 (e.symm.trans (by decide))
    · exact fun e => h7 (e.symm.trans (by decide))
    · exact fun e => h8 (e.symm.trans (by decide))
    · exact fun e => h9 (e.symm.trans (by decide))
    · exact fun e => h10 (e.symm.trans (by decide))
    · exact fun e => h11 (e.symm.trans (by decide))
    · exact fun e => h12 (e.symm.trans (by decide))
    · exact fun e => h13 (e.symm.trans (by decide))
    · exact fun e => h14 (e.symm.trans (by decide))
    · exact fun e => h15 (e.symm.trans (by decide))
    · exact fun e => h16 (e.symm.trans (by decide)))) (by decide) (z_sub [] rfl (b_X8_kindOf_92 C hr hk z hf))
def f_X8_kindOf (z : St) (x0 : Int32) : Option (St × Int32) := f_X8_kindOf_0 z x0
theorem c_X8_kindOf {l : Launch} {g : Ga} {A : Nat → Prop} {z : St} {x0 : Int32}  {res : St × Int32} (hf : f_X8_kindOf z x0 = some res) : CI l g A yX8_kindOf cX8_kindOf 1 (some .int) rm_X8_kindOf [.int x0] z res :=
  e_CI (by decide) (Nat.le_of_ble_eq_true rfl) rfl (fun p e s m args below meth c C hr hk => z_sub [0] rfl (b_X8_kindOf_0 C hr hk z x0  hf))
abbrev rm_X8_digitHere : Room := { frames := 1, cells := 0, slots := 0, locals := 20 }
def f_X8_digitHere_25  (z : St) (s0 : Int32) : Option (St × Int32) :=
  some (z, s0)
theorem b_X8_digitHere_25 {p : Program} {l : Launch} {e : Env} {s : State} {m : MethodId} {args : Array Value} {below : List Frame} {meth : Method} {c : Code} {g : Ga} {A : Nat → Prop} (C : Cx l g A p s m args c cX8_digitHere 2 RX8 (rm_X8_digitHere) (0, 0)) (hr : meth.sig.returnType = (some .int)) (hk : meth.locks = false)   (z : St) (s0 : Int32)  {res : St × Int32} (hf : f_X8_digitHere_25  z s0 = some res) : Zj p l e (rm_X8_digitHere) s m args below meth c g A 2 (0, 0) (QI g A below args s res) z 25 [] [.int s0] := by
  unfold f_X8_digitHere_25 at hf
  cases hf
  exact z_iret C hr hk dX8_digitHere_25
def f_X8_digitHere_17  (z : St) (x1 : Int32) : Option (St × Int32) :=
  f_X8_digitHere_25 z (x1 - 48)
theorem b_X8_digitHere_17 {p : Program} {l : Launch} {e : Env} {s : State} {m : MethodId} {args : Array Value} {below : List Frame} {meth : Method} {c : Code} {g : Ga} {A : Nat → Prop} (C : Cx l g A p s m args c cX8_digitHere 2 RX8 (rm_X8_digitHere) (0, 0)) (hr : meth.sig.returnType = (some .int)) (hk : meth.locks = false)   (z : St) (x1 : Int32)  {res : St × Int32} (hf : f_X8_digitHere_17  z x1 = some res) : Zj p l e (rm_X8_digitHere) s m args below meth c g A 2 (0, 0) (QI g A below args s res) z 17 [(1, .int x1)] [] := by
  unfold f_X8_digitHere_17 at hf
  refine z_iload_n C dX8_digitHere_17 rfl 0 rfl ?_
  refine z_bipush C dX8_digitHere_18 (v := 48) (by decide) ?_
  refine z_isub C dX8_digitHere_20 ?_
  exact z_goto C dX8_digitHere_21 (by decide) (z_sub [] rfl (b_X8_digitHere_25 C hr hk z (x1 - 48) hf))
def f_X8_digitHere_24  (z : St)  : Option (St × Int32) :=
  f_X8_digitHere_25 z ((-1))
theorem b_X8_digitHere_24 {p : Program} {l : Launch} {e : Env} {s : State} {m : MethodId} {args : Array Value} {below : List Frame} {meth : Method} {c : Code} {g : Ga} {A : Nat → Prop} (C : Cx l g A p s m args c cX8_digitHere 2 RX8 (rm_X8_digitHere) (0, 0)) (hr : meth.sig.returnType = (some .int)) (hk : meth.locks = false)   (z : St)   {res : St × Int32} (hf : f_X8_digitHere_24  z  = some res) : Zj p l e (rm_X8_digitHere) s m args below meth c g A 2 (0, 0) (QI g A below args s res) z 24 [] [] := by
  unfold f_X8_digitHere_24 at hf
  refine z_iconst C dX8_digitHere_24 (v := (-1)) (by decide) ?_
  exact z_sub [] rfl (b_X8_digitHere_25 C hr hk z ((-1)) hf)
def f_X8_digitHere_11  (z : St) (x1 : Int32) : Option (St × Int32) :=
  if 57 < x1 then f_X8_digitHere_24 z else f_X8_digitHere_17 z x1
theorem b_X8_digitHere_11 {p : Program} {l : Launch} {e : Env} {s : State} {m : MethodId} {args : Array Value} {below : List Frame} {meth : Method} {c : Code} {g : Ga} {A : Nat → Prop} (C : Cx l g A p s m args c cX8_digitHere 2 RX8 (rm_X8_digitHere) (0, 0)) (hr : meth.sig.returnType = (some .int)) (hk : meth.locks = false)   (z : St) (x1 : Int32)  {res : St × Int32} (hf : f_X8_digitHere_11  z x1 = some res) : Zj p l e (rm_X8_digitHere) s m args below meth c g A 2 (0, 0) (QI g A below args s res) z 11 [(1, .int x1)] [] := by
  unfold f_X8_digitHere_11 at hf
  refine z_iload_n C dX8_digitHere_11 rfl 0 rfl ?_
  refine z_bipush C dX8_digitHere_12 (v := 57) (by decide) ?_
  exact z_icmp_gt C dX8_digitHere_14 (by decide) (fun h => z_sub [] rfl (b_X8_digitHere_24 C hr hk z (q_t hf h))) (fun h => z_sub [0] rfl (b_X8_digitHere_17 C hr hk z x1 (q_f hf h)))
def f_X8_digitHere_0  (z : St) (o0 : Nat) : Option (St × Int32) :=
  ((f_X8_byteHere z o0).bind fun r1 => if r1.2 < 48 then f_X8_digitHere_24 r1.1 else f_X8_digitHere_11 r1.1 r1.2)
theorem b_X8_digitHere_0 {p : Program} {l : Launch} {e : Env} {s : State} {m : MethodId} {args : Array Value} {below : List Frame} {meth : Method} {c : Code} {g : Ga} {A : Nat → Prop} (C : Cx l g A p s m args c cX8_digitHere 2 RX8 (rm_X8_digitHere) (0, 0)) (hr : meth.sig.returnType = (some .int)) (hk : meth.locks = false)   (z : St) (o0 : Nat) (ho0 : kd o0 = 8) {res : St × Int32} (hf : f_X8_digitHere_0  z o0 = some res) : Zj p l e (rm_X8_digitHere) s m args below meth c g A 2 (0, 0) (QI g A below args s res) z 0 [(0, .ref (g.1 o0))] [] := by
  unfold f_X8_digitHere_0 at hf
  refine z_aload_n C dX8_digitHere_0 rfl 0 rfl ?_
  obtain ⟨r1, hc2, hf⟩ := q_bd hf
  refine z_cVi C (st := []) (c_X8_byteHere ho0 hc2) mw_X8_byteHere ml_X8_35 ho0 (by decide) rfl dX8_digitHere_1 rfl rfl rfl ⟨Nat.le_of_ble_eq_true rfl, Nat.le_of_ble_eq_true rfl⟩ rfl (Nat.le_of_ble_eq_true rfl) ?_
  refine z_istore_n C (lv2 := [(1, .int r1.2), (0, .ref (g.1 o0))]) dX8_digitHere_4 rfl (by decide) rfl ?_
  refine z_iload_n C dX8_digitHere_5 rfl 0 rfl ?_
  refine z_bipush C dX8_digitHere_6 (v := 48) (by decide) ?_
  exact z_icmp_lt C dX8_digitHere_8 (by decide) (fun h => z_sub [] rfl (b_X8_digitHere_24 C hr hk r1.1 (q_t hf h))) (fun h => z_sub [0] rfl (b_X8_digitHere_11 C hr hk r1.1 r1.2 (q_f hf h)))
def f_X8_digitHere (z : St) (o0 : Nat) : Option (St × Int32) := f_X8_digitHere_0 z o0
theorem c_X8_digitHere {l : Launch} {g : Ga} {A : Nat → Prop} {z : St} {o0 : Nat} (ho0 : kd o0 = 8) {res : St × Int32} (hf : f_X8_digitHere z o0 = some res) : CI l g A yX8_digitHere cX8_digitHere 2 (some .int) rm_X8_digitHere [.ref (g.1 o0)] z res :=
  e_CI (by decide) (Nat.le_of_ble_eq_true rfl) rfl (fun p e s m args below meth c C hr hk => z_sub [0] rfl (b_X8_digitHere_0 C hr hk z o0 ho0 hf))
abbrev rm_X8_readNumber : Room := { frames := 2, cells := 0, slots := 0, locals := 41 }
def f_X8_readNumber_15  (z : St)  : Option (St × Int32) :=
  some (z, (-1))
theorem b_X8_readNumber_15 {p : Program} {l : Launch} {e : Env} {s : State} {m : MethodId} {args : Array Value} {below : List Frame} {meth : Method} {c : Code} {g : Ga} {A : Nat → Prop} (C : Cx l g A p s m args c cX8_readNumber 5 RX8 (rm_X8_readNumber) (0, 0)) (hr : meth.sig.returnType = (some .int)) (hk : meth.locks = false)   (z : St)   {res : St × Int32} (hf : f_X8_readNumber_15  z  = some res) : Zj p l e (rm_X8_readNumber) s m args below meth c g A 5 (0, 0) (QI g A below args s res) z 15 [] [] := by
  unfold f_X8_readNumber_15 at hf
  refine z_iconst C dX8_readNumber_15 (v := (-1)) (by decide) ?_
  cases hf
  exact z_iret C hr hk dX8_readNumber_16
def f_X8_readNumber_65  (z : St) (o0 : Nat) (x2 : Int32) : Option (St × Int32) :=
  some (zI z o0 2 x2, (-1))
theorem b_X8_readNumber_65 {p : Program} {l : Launch} {e : Env} {s : State} {m : MethodId} {args : Array Value} {below : List Frame} {meth : Method} {c : Code} {g : Ga} {A : Nat → Prop} (C : Cx l g A p s m args c cX8_readNumber 5 RX8 (rm_X8_readNumber) (0, 0)) (hr : meth.sig.returnType = (some .int)) (hk : meth.locks = false)   (z : St) (o0 : Nat) (x2 : Int32) (ho0 : kd o0 = 8) {res : St × Int32} (hf : f_X8_readNumber_65  z o0 x2 = some res) : Zj p l e (rm_X8_readNumber) s m args below meth c g A 5 (0, 0) (QI g A below args s res) z 65 [(0, .ref (g.1 o0)), (2, .int x2)] [] := by
  unfold f_X8_readNumber_65 at hf
  refine z_aload_n C dX8_readNumber_65 rfl 0 rfl ?_
  refine z_iload_n C dX8_readNumber_66 rfl 1 rfl ?_
  refine pf_X8_24 C dX8_readNumber_67 ho0 ?_
  refine z_iconst C dX8_readNumber_70 (v := (-1)) (by decide) ?_
  cases hf
  exact z_iret C hr hk dX8_readNumber_71
def f_X8_readNumber_72  (z : St) (x3 : Int32) : Option (St × Int32) :=
  some (z, x3)
theorem b_X8_readNumber_72 {p : Program} {l : Launch} {e : Env} {s : State} {m : MethodId} {args : Array Value} {below : List Frame} {meth : Method} {c : Code} {g : Ga} {A : Nat → Prop} (C : Cx l g A p s m args c cX8_readNumber 5 RX8 (rm_X8_readNumber) (0, 0)) (hr : meth.sig.returnType = (some .int)) (hk : meth.locks = false)   (z : St) (x3 : Int32)  {res : St × Int32} (hf : f_X8_readNumber_72  z x3 = some res) : Zj p l e (rm_X8_readNumber) s m args below meth c g A 5 (0, 0) (QI g A below args s res) z 72 [(3, .int x3)] [] := by
  unfold f_X8_readNumber_72 at hf
  refine z_iload_n C dX8_readNumber_72 rfl 0 rfl ?_
  cases hf
  exact z_iret C hr hk dX8_readNumber_73
def f_X8_readNumber_57  (z : St) (o0 : Nat) (x1 : Int32) (x2 : Int32) (x3 : Int32) : Option (St × Int32) :=
  ((f_X2_mayBe z x1 x3).bind fun r1 => if r1.2 = 0 then f_X8_readNumber_65 r1.1 o0 x2 else f_X8_readNumber_72 r1.1 x3)
theorem b_X8_readNumber_57 {p : Program} {l : Launch} {e : Env} {s : State} {m : MethodId} {args : Array Value} {below : List Frame} {meth : Method} {c : Code} {g : Ga} {A : Nat → Prop} (C : Cx l g A p s m args c cX8_readNumber 5 RX8 (rm_X8_readNumber) (0, 0)) (hr : meth.sig.returnType = (some .int)) (hk : meth.locks = false)   (z : St) (o0 : Nat) (x1 : Int32) (x2 : Int32) (x3 : Int32) (ho0 : kd o0 = 8) {res : St × Int32} (hf : f_X8_readNumber_57  z o0 x1 x2 x3 = some res) : Zj p l e (rm_X8_readNumber) s m args below meth c g A 5 (0, 0) (QI g A below args s res) z 57 [(0, .ref (g.1 o0)), (1, .int x1), (2, .int x2), (3, .int x3)] [] := by
  unfold f_X8_readNumber_57 at hf
  refine z_iload_n C dX8_readNumber_57 rfl 1 rfl ?_
  refine z_iload_n C dX8_readNumber_58 rfl 3 rfl ?_
  obtain ⟨r1, hc2, hf⟩ := q_bd hf
  refine z_cSi C (st := []) (c_X2_mayBe  hc2) mw_X2_mayBe ml_X8_53 dX8_readNumber_59 rfl rfl rfl ⟨Nat.le_of_ble_eq_true rfl, Nat.le_of_ble_eq_true rfl⟩ rfl (Nat.le_of_ble_eq_true rfl) ?_
  exact z_if_ne C dX8_readNumber_62 (by decide) (fun h => z_sub [3] rfl (b_X8_readNumber_72 C hr hk r1.1 x3 (q_f hf h))) (fun h => z_sub [0, 2] rfl (b_X8_readNumber_65 C hr hk r1.1 o0 x2 ho0 (q_t hf h)))
def f_X8_readNumber_39  (z : St) (o0 : Nat) (x1 : Int32) (x2 : Int32) (x3 : Int32) (x4 : Int32) : Option (St × Int32) :=
  f_X8_readNumber_57 (zI z o0 2 ((z.1 o0 2) + 1)) o0 x1 x2 ((x3 * 10) + x4)
theorem b_X8_readNumber_39 {p : Program} {l : Launch} {e : Env} {s : State} {m : MethodId} {args : Array Value} {below : List Frame} {meth : Method} {c : Code} {g : Ga} {A : Nat → Prop} (C : Cx l g A p s m args c cX8_readNumber 5 RX8 (rm_X8_readNumber) (0, 0)) (hr : meth.sig.returnType = (some .int)) (hk : meth.locks = false)   (z : St) (o0 : Nat) (x1 : Int32) (x2 : Int32) (x3 : Int32) (x4 : Int32) (ho0 : kd o0 = 8) {res : St × Int32} (hf : f_X8_readNumber_39  z o0 x1 x2 x3 x4 = some res) : Zj p l e (rm_X8_readNumber) s m args below meth c g A 5 (0, 0) (QI g A below args s res) z 39 [(0, .ref (g.1 o0)), (1, .int x1), (2, .int x2), (3, .int x3), (4, .int x4)] [] := by
  unfold f_X8_readNumber_39 at hf
  refine z_iload_n C dX8_readNumber_39 rfl 3 rfl ?_
  refine z_bipush C dX8_readNumber_40 (v := 10) (by decide) ?_
  refine z_imul C dX8_readNumber_42 ?_
  refine z_iload C dX8_readNumber_43 4 rfl ?_
  refine z_iadd C dX8_readNumber_45 ?_
  refine z_istore_n C (lv2 := [(3, .int ((x3 * 10) + x4)), (0, .ref (g.1 o0)), (1, .int x1), (2, .int x2), (4, .int x4)]) dX8_readNumber_46 rfl (by decide) rfl ?_
  refine z_aload_n C dX8_readNumber_47 rfl 1 rfl ?_
  refine z_dup C dX8_readNumber_48 rfl ?_
  refine gf_X8_24 C dX8_readNumber_49 ho0 ?_
  refine z_iconst C dX8_readNumber_52 (v := 1) (by decide) ?_
  refine z_iadd C dX8_readNumber_53 ?_
  refine pf_X8_24 C dX8_readNumber_54 ho0 ?_
  exact z_sub [1, 2, 3, 0] rfl (b_X8_readNumber_57 C hr hk (zI z o0 2 ((z.1 o0 2) + 1)) o0 x1 x2 ((x3 * 10) + x4) ho0 hf)
def f_X8_readNumber_17  (z : St) (o0 : Nat) (x1 : Int32) (x2 : Int32) (x3 : Int32) : Option (St × Int32) :=
  ((f_X8_digitHere (zI z o0 2 ((z.1 o0 2) + 1)) o0).bind fun r1 => if r1.2 = ((-1)) then f_X8_readNumber_57 r1.1 o0 x1 x2 x3 else f_X8_readNumber_39 r1.1 o0 x1 x2 x3 r1.2)
theorem b_X8_readNumber_17 {p : Program} {l : Launch} {e : Env} {s : State} {m : MethodId} {args : Array Value} {below : List Frame} {meth : Method} {c : Code} {g : Ga} {A : Nat → Prop} (C : Cx l g A p s m args c cX8_readNumber 5 RX8 (rm_X8_readNumber) (0, 0)) (hr : meth.sig.returnType = (some .int)) (hk : meth.locks = false)   (z : St) (o0 : Nat) (x1 : Int32) (x2 : Int32) (x3 : Int32) (ho0 : kd o0 = 8) {res : St × Int32} (hf : f_X8_readNumber_17  z o0 x1 x2 x3 = some res) : Zj p l e (rm_X8_readNumber) s m args below meth c g A 5 (0, 0) (QI g A below args s res) z 17 [(0, .ref (g.1 o0)), (1, .int x1), (2, .int x2), (3, .int x3)] [] := by
  unfold f_X8_readNumber_17 at hf
  refine z_aload_n C dX8_readNumber_17 rfl 0 rfl ?_
  refine z_dup C dX8_readNumber_18 rfl ?_
  refine gf_X8_24 C dX8_readNumber_19 ho0 ?_
  refine z_iconst C dX8_readNumber_22 (v := 1) (by decide) ?_
  refine z_iadd C dX8_readNumber_23 ?_
  refine pf_X8_24 C dX8_readNumber_24 ho0 ?_
  refine z_aload_n C dX8_readNumber_27 rfl 0 rfl ?_
  obtain ⟨r1, hc2, hf⟩ := q_bd hf
  refine z_cVi C (st := []) (c_X8_digitHere ho0 hc2) mw_X8_digitHere ml_X8_50 ho0 (by decide) rfl dX8_readNumber_28 rfl rfl rfl ⟨Nat.le_of_ble_eq_true rfl, Nat.le_of_ble_eq_true rfl⟩ rfl (Nat.le_of_ble_eq_true rfl) ?_
  refine z_istore C (lv2 := [(4, .int r1.2), (0, .ref (g.1 o0)), (1, .int x1), (2, .int x2), (3, .int x3)]) dX8_readNumber_31 (by decide) rfl ?_
  refine z_iload C dX8_readNumber_33 0 rfl ?_
  refine z_iconst C dX8_readNumber_35 (v := (-1)) (by decide) ?_
  exact z_icmp_eq C dX8_readNumber_36 (by decide) (fun h => z_sub [1, 2, 3, 4] rfl (b_X8_readNumber_57 C hr hk r1.1 o0 x1 x2 x3 ho0 (q_t hf h))) (fun h => z_sub [1, 2, 3, 4, 0] rfl (b_X8_readNumber_39 C hr hk r1.1 o0 x1 x2 x3 r1.2 ho0 (q_f hf h)))
def f_X8_readNumber_0  (z : St) (o0 : Nat) (x1 : Int32) : Option (St × Int32) :=
  ((f_X8_digitHere z o0).bind fun r1 => if r1.2 = ((-1)) then f_X8_readNumber_15 r1.1 else f_X8_readNumber_17 r1.1 o0 x1 (z.1 o0 2) r1.2)
theorem b_X8_readNumber_0 {p : Program} {l : Launch} {e : Env} {s : State} {m : MethodId} {args : Array Value} {below : List Frame} {meth : Method} {c : Code} {g : Ga} {A : Nat → Prop} (C : Cx l g A p s m args c cX8_readNumber 5 RX8 (rm_X8_readNumber) (0, 0)) (hr : meth.sig.returnType = (some .int)) (hk : meth.locks = false)   (z : St) (o0 : Nat) (x1 : Int32) (ho0 : kd o0 = 8) {res : St × Int32} (hf : f_X8_readNumber_0  z o0 x1 = some res) : Zj p l e (rm_X8_readNumber) s m args below meth c g A 5 (0, 0) (QI g A below args s res) z 0 [(0, .ref (g.1 o0)), (1, .int x1)] [] := by
  unfold f_X8_readNumber_0 at hf
  refine z_aload_n C dX8_readNumber_0 rfl 0 rfl ?_
  refine gf_X8_24 C dX8_readNumber_1 ho0 ?_
  refine z_istore_n C (lv2 := [(2, .int (z.1 o0 2)), (0, .ref (g.1 o0)), (1, .int x1)]) dX8_readNumber_4 rfl (by decide) rfl ?_
  refine z_aload_n C dX8_readNumber_5 rfl 1 rfl ?_
  obtain ⟨r1, hc2, hf⟩ := q_bd hf
  refine z_cVi C (st := []) (c_X8_digitHere ho0 hc2) mw_X8_digitHere ml_X8_50 ho0 (by decide) rfl dX8_readNumber_6 rfl rfl rfl ⟨Nat.le_of_ble_eq_true rfl, Nat.le_of_ble_eq_true rfl⟩ rfl (Nat.le_of_ble_eq_true rfl) ?_
  refine z_istore_n C (lv2 := [(3, .int r1.2), (2, .int (z.1 o0 2)), (0, .ref (g.1 o0)), (1, .int x1)]) dX8_readNumber_9 rfl (by decide) rfl ?_
  refine z_iload_n C dX8_readNumber_10 rfl 0 rfl ?_
  refine z_iconst C dX8_readNumber_11 (v := (-1)) (by decide) ?_
  exact z_icmp_ne C dX8_readNumber_12 (by decide) (fun h => z_sub [2, 3, 1, 0] rfl (b_X8_readNumber_17 C hr hk r1.1 o0 x1 (z.1 o0 2) r1.2 ho0 (q_f hf h))) (fun h => z_sub [] rfl (b_X8_readNumber_15 C hr hk r1.1 (q_t hf h)))
def f_X8_readNumber (z : St) (o0 : Nat) (x1 : Int32) : Option (St × Int32) := f_X8_readNumber_0 z o0 x1
theorem c_X8_readNumber {l : Launch} {g : Ga} {A : Nat → Prop} {z : St} {o0 : Nat} {x1 : Int32} (ho0 : kd o0 = 8) {res : St × Int32} (hf : f_X8_readNumber z o0 x1 = some res) : CI l g A yX8_readNumber cX8_readNumber 5 (some .int) rm_X8_readNumber [.ref (g.1 o0), .int x1] z res :=
  e_CI (by decide) (Nat.le_of_ble_eq_true rfl) rfl (fun p e s m args below meth c C hr hk => z_sub [0, 1] rfl (b_X8_readNumber_0 C hr hk z o0 x1 ho0 hf))
abbrev rm_X8_readSign : Room := { frames := 1, cells := 0, slots := 0, locals := 20 }
def f_X8_readSign_8  (z : St)  : Option (St × Int32) :=
  some (z, 0)
theorem b_X8_readSign_8 {p : Program} {l : Launch} {e : Env} {s : State} {m : MethodId} {args : Array Value} {below : List Frame} {meth : Method} {c : Code} {g : Ga} {A : Nat → Prop} (C : Cx l g A p s m args c cX8_readSign 2 RX8 (rm_X8_readSign) (0, 0)) (hr : meth.sig.returnType = (some .boolean)) (hk : meth.locks = false)   (z : St)   {res : St × Int32} (hf : f_X8_readSign_8  z  = some res) : Zj p l e (rm_X8_readSign) s m args below meth c g A 2 (0, 0) (QI g A below args s res) z 8 [] [] := by
  unfold f_X8_readSign_8 at hf
  refine z_iconst C dX8_readSign_8 (v := 0) (by decide) ?_
  cases hf
  exact z_zret C hr hk (by decide) dX8_readSign_9
def f_X8_readSign_10  (z : St) (o0 : Nat) : Option (St × Int32) :=
  some (zI z o0 2 ((z.1 o0 2) + 1), 1)
theorem b_X8_readSign_10 {p : Program} {l : Launch} {e : Env} {s : State} {m : MethodId} {args : Array Value} {below : List Frame} {meth : Method} {c : Code} {g : Ga} {A : Nat → Prop} (C : Cx l g A p s m args c cX8_readSign 2 RX8 (rm_X8_readSign) (0, 0)) (hr : meth.sig.returnType = (some .boolean)) (hk : meth.locks = false)   (z : St) (o0 : Nat) (ho0 : kd o0 = 8) {res : St × Int32} (hf : f_X8_readSign_10  z o0 = some res) : Zj p l e (rm_X8_readSign) s m args below meth c g A 2 (0, 0) (QI g A below args s res) z 10 [(0, .ref (g.1 o0))] [] := by
  unfold f_X8_readSign_10 at hf
  refine z_aload_n C dX8_readSign_10 rfl 0 rfl ?_
  refine z_dup C dX8_readSign_11 rfl ?_
  refine gf_X8_24 C dX8_readSign_12 ho0 ?_
  refine z_iconst C dX8_readSign_15 (v := 1) (by decide) ?_
  refine z_iadd C dX8_readSign_16 ?_
  refine pf_X8_24 C dX8_readSign_17 ho0 ?_
  refine z_iconst C dX8_readSign_20 (v := 1) (by decide) ?_
  cases hf
  exact z_zret C hr hk (by decide) dX8_readSign_21
def f_X8_readSign_0  (z : St) (o0 : Nat) (x1 : Int32) : Option (St × Int32) :=
  ((f_X8_byteHere z o0).bind fun r1 => if r1.2 = x1 then f_X8_readSign_10 r1.1 o0 else f_X8_readSign_8 r1.1)
theorem b_X8_readSign_0 {p : Program} {l : Launch} {e : Env} {s : State} {m : MethodId} {args : Array Value} {below : List Frame} {meth : Method} {c : Code} {g : Ga} {A : Nat → Prop} (C : Cx l g A p s m args c cX8_readSign 2 RX8 (rm_X8_readSign) (0, 0)) (hr : meth.sig.returnType = (some .boolean)) (hk : meth.locks = false)   (z : St) (o0 : Nat) (x1 : Int32) (ho0 : kd o0 = 8) {res : St × Int32} (hf : f_X8_readSign_0  z o0 x1 = some res) : Zj p l e (rm_X8_readSign) s m args below meth c g A 2 (0, 0) (QI g A below args s res) z 0 [(0, .ref (g.1 o0)), (1, .int x1)] [] := by
  unfold f_X8_readSign_0 at hf
  refine z_aload_n C dX8_readSign_0 rfl 0 rfl ?_
  obtain ⟨r1, hc2, hf⟩ := q_bd hf
  refine z_cVi C (st := []) (c_X8_byteHere ho0 hc2) mw_X8_byteHere ml_X8_35 ho0 (by decide) rfl dX8_readSign_1 rfl rfl rfl ⟨Nat.le_of_ble_eq_true rfl, Nat.le_of_ble_eq_true rfl⟩ rfl (Nat.le_of_ble_eq_true rfl) ?_
  refine z_iload_n C dX8_readSign_4 rfl 1 rfl ?_
  exact z_icmp_eq C dX8_readSign_5 (by decide) (fun h => z_sub [0] rfl (b_X8_readSign_10 C hr hk r1.1 o0 ho0 (q_t hf h))) (fun h => z_sub [] rfl (b_X8_readSign_8 C hr hk r1.1 (q_f hf h)))
def f_X8_readSign (z : St) (o0 : Nat) (x1 : Int32) : Option (St × Int32) := f_X8_readSign_0 z o0 x1
theorem c_X8_readSign {l : Launch} {g : Ga} {A : Nat → Prop} {z : St} {o0 : Nat} {x1 : Int32} (ho0 : kd o0 = 8) {res : St × Int32} (hf : f_X8_readSign z o0 x1 = some res) : CI l g A yX8_readSign cX8_readSign 2 (some .boolean) rm_X8_readSign [.ref (g.1 o0), .int x1] z res :=
  e_CI (by decide) (Nat.le_of_ble_eq_true rfl) rfl (fun p e s m args below meth c C hr hk => z_sub [0, 1] rfl (b_X8_readSign_0 C hr hk z o0 x1 ho0 hf))
abbrev rm_X8_readItem : Room := { frames := 3, cells := 0, slots := 0, locals := 69 }
def f_X8_readItem_13  (z : St)  : Option (St × Int32) :=
  some (z, 0)
theorem b_X8_readItem_13 {p : Program} {l : Launch} {e : Env} {s : State} {m : MethodId} {args : Array Value} {below : List Frame} {meth : Method} {c : Code} {g : Ga} {A : Nat → Prop} (C : Cx l g A p s m args c cX8_readItem 6 RX8 (rm_X8_readItem) (0, 0)) (hr : meth.sig.returnType = (some .boolean)) (hk : meth.locks = false)   (z : St)   {res : St × Int32} (hf : f_X8_readItem_13  z  = some res) : Zj p l e (rm_X8_readItem) s m args below meth c g A 6 (0, 0) (QI g A below args s res) z 13 [] [] := by
  unfold f_X8_readItem_13 at hf
  refine z_iconst C dX8_readItem_13 (v := 0) (by decide) ?_
  cases hf
  exact z_zret C hr hk (by decide) dX8_readItem_14
def f_X8_readItem_45  (z : St)  : Option (St × Int32) :=
  some (z, 0)
theorem b_X8_readItem_45 {p : Program} {l : Launch} {e : Env} {s : State} {m : MethodId} {args : Array Value} {below : List Frame} {meth : Method} {c : Code} {g : Ga} {A : Nat → Prop} (C : Cx l g A p s m args c cX8_readItem 6 RX8 (rm_X8_readItem) (0, 0)) (hr : meth.sig.returnType = (some .boolean)) (hk : meth.locks = false)   (z : St)   {res : St × Int32} (hf : f_X8_readItem_45  z  = some res) : Zj p l e (rm_X8_readItem) s m args below meth c g A 6 (0, 0) (QI g A below args s res) z 45 [] [] := by
  unfold f_X8_readItem_45 at hf
  refine z_iconst C dX8_readItem_45 (v := 0) (by decide) ?_
  cases hf
  exact z_zret C hr hk (by decide) dX8_readItem_46
def f_X8_readItem_69  (z : St)  : Option (St × Int32) :=
  some (z, 0)
theorem b_X8_readItem_69 {p : Program} {l : Launch} {e : Env} {s : State} {m : MethodId} {args : Array Value} {below : List Frame} {meth : Method} {c : Code} {g : Ga} {A : Nat → Prop} (C : Cx l g A p s m args c cX8_readItem 6 RX8 (rm_X8_readItem) (0, 0)) (hr : meth.sig.returnType = (some .boolean)) (hk : meth.locks = false)   (z : St)   {res : St × Int32} (hf : f_X8_readItem_69  z  = some res) : Zj p l e (rm_X8_readItem) s m args below meth c g A 6 (0, 0) (QI g A below args s res) z 69 [] [] := by
  unfold f_X8_readItem_69 at hf
  refine z_iconst C dX8_readItem_69 (v := 0) (by decide) ?_
  cases hf
  exact z_zret C hr hk (by decide) dX8_readItem_70
def f_X8_readItem_84  (z : St)  : Option (St × Int32) :=
  some (z, 0)
theorem b_X8_readItem_84 {p : Program} {l : Launch} {e : Env} {s : State} {m : MethodId} {args : Array Value} {below : List Frame} {meth : Method} {c : Code} {g : Ga} {A : Nat → Prop} (C : Cx l g A p s m args c cX8_readItem 6 RX8 (rm_X8_readItem) (0, 0)) (hr : meth.sig.returnType = (some .boolean)) (hk : meth.locks = false)   (z : St)   {res : St × Int32} (hf : f_X8_readItem_84  z  = some res) : Zj p l e (rm_X8_readItem) s m args below meth c g A 6 (0, 0) (QI g A below args s res) z 84 [] [] := by
  unfold f_X8_readItem_84 at hf
  refine z_iconst C dX8_readItem_84 (v := 0) (by decide) ?_
  cases hf
  exact z_zret C hr hk (by decide) dX8_readItem_85
def f_X8_readItem_86  (z : St) (o1 : Nat) (x2 : Int32) (x3 : Int32) (x4 : Int32) (x5 : Int32) : Option (St × Int32) :=
  ((f_X2_add z o1 x2 x3 x4 x5).bind fun r1 => some (r1, 1))
theorem b_X8_readItem_86 {p : Program} {l : Launch} {e : Env} {s : State} {m : MethodId} {args : Array Value} {below : List Frame} {meth : Method} {c : Code} {g : Ga} {A : Nat → Prop} (C : Cx l g A p s m args c cX8_readItem 6 RX8 (rm_X8_readItem) (0, 0)) (hr : meth.sig.returnType = (some .boolean)) (hk : meth.locks = false)   (z : St) (o1 : Nat) (x2 : Int32) (x3 : Int32) (x4 : Int32) (x5 : Int32) (ho1 : kd o1 = 2) {res : St × Int32} (hf : f_X8_readItem_86  z o1 x2 x3 x4 x5 = some res) : Zj p l e (rm_X8_readItem) s m args below meth c g A 6 (0, 0) (QI g A below args s res) z 86 [(1, .ref (g.1 o1)), (2, .int x2), (3, .int x3), (4, .int x4), (5, .int x5)] [] := by
  unfold f_X8_readItem_86 at hf
  refine z_aload_n C dX8_readItem_86 rfl 0 rfl ?_
  refine z_iload_n C dX8_readItem_87 rfl 1 rfl ?_
  refine z_iload_n C dX8_readItem_88 rfl 2 rfl ?_
  refine z_iload C dX8_readItem_89 3 rfl ?_
  refine z_iload C dX8_readItem_91 4 rfl ?_
  obtain ⟨r1, hc2, hf⟩ := q_bd hf
  refine z_cVv C (st := []) (c_X2_add ho1 hc2) mw_X2_add ml_X8_46 ho1 (by decide) rfl dX8_readItem_93 rfl rfl rfl ⟨Nat.le_of_ble_eq_true rfl, Nat.le_of_ble_eq_true rfl⟩ rfl (Nat.le_of_ble_eq_true rfl) ?_
  refine z_iconst C dX8_readItem_96 (v := 1) (by decide) ?_
  cases hf
  exact z_zret C hr hk (by decide) dX8_readItem_97
def f_X8_readItem_71  (z : St) (o0 : Nat) (o1 : Nat) (x2 : Int32) (x3 : Int32) (x4 : Int32) : Option (St × Int32) :=
  ((f_X8_readNumber z o0 3).bind fun r1 => if r1.2 = ((-1)) then f_X8_readItem_84 r1.1 else f_X8_readItem_86 r1.1 o1 x2 x3 x4 r1.2)
theorem b_X8_readItem_71 {p : Program} {l : Launch} {e : Env} {s : State} {m : MethodId} {args : Array Value} {below : List Frame} {meth : Method} {c : Code} {g : Ga} {A : Nat → Prop} (C : Cx l g A p s m args c cX8_readItem 6 RX8 (rm_X8_readItem) (0, 0)) (hr : meth.sig.returnType = (some .boolean)) (hk : meth.locks = false)   (z : St) (o0 : Nat) (o1 : Nat) (x2 : Int32) (x3 : Int32) (x4 : Int32) (ho0 : kd o0 = 8) (ho1 : kd o1 = 2) {res : St × Int32} (hf : f_X8_readItem_71  z o0 o1 x2 x3 x4 = some res) : Zj p l e (rm_X8_readItem) s m args below meth c g A 6 (0, 0) (QI g A below args s res) z 71 [(0, .ref (g.1 o0)), (1, .ref (g.1 o1)), (2, .int x2), (3, .int x3), (4, .int x4)] [] := by
  unfold f_X8_readItem_71 at hf
  refine z_aload_n C dX8_readItem_71 rfl 0 rfl ?_
  refine z_iconst C dX8_readItem_72 (v := 3) (by decide) ?_
  obtain ⟨r1, hc2, hf⟩ := q_bd hf
  refine z_cVi C (st := []) (c_X8_readNumber ho0 hc2) mw_X8_readNumber ml_X8_43 ho0 (by decide) rfl dX8_readItem_73 rfl rfl rfl ⟨Nat.le_of_ble_eq_true rfl, Nat.le_of_ble_eq_true rfl⟩ rfl (Nat.le_of_ble_eq_true rfl) ?_
  refine z_istore C (lv2 := [(5, .int r1.2), (0, .ref (g.1 o0)), (1, .ref (g.1 o1)), (2, .int x2), (3, .int x3), (4, .int x4)]) dX8_readItem_76 (by decide) rfl ?_
  refine z_iload C dX8_readItem_78 0 rfl ?_
  refine z_iconst C dX8_readItem_80 (v := (-1)) (by decide) ?_
  exact z_icmp_ne C dX8_readItem_81 (by decide) (fun h => z_sub [2, 3, 4, 5, 0] rfl (b_X8_readItem_86 C hr hk r1.1 o1 x2 x3 x4 r1.2 ho1 (q_f hf h))) (fun h => z_sub [] rfl (b_X8_readItem_84 C hr hk r1.1 (q_t hf h)))
def f_X8_readItem_60  (z : St) (o0 : Nat) (o1 : Nat) (x2 : Int32) (x3 : Int32) (x4 : Int32) : Option (St × Int32) :=
  ((f_X8_readSign z o0 44).bind fun r1 => if r1.2 = 0 then f_X8_readItem_69 r1.1 else f_X8_readItem_71 r1.1 o0 o1 x2 x3 x4)
theorem b_X8_readItem_60 {p : Program} {l : Launch} {e : Env} {s : State} {m : MethodId} {args : Array Value} {below : List Frame} {meth : Method} {c : Code} {g : Ga} {A : Nat → Prop} (C : Cx l g A p s m args c cX8_readItem 6 RX8 (rm_X8_readItem) (0, 0)) (hr : meth.sig.returnType = (some .boolean)) (hk : meth.locks = false)   (z : St) (o0 : Nat) (o1 : Nat) (x2 : Int32) (x3 : Int32) (x4 : Int32) (ho0 : kd o0 = 8) (ho1 : kd o1 = 2) {res : St × Int32} (hf : f_X8_readItem_60  z o0 o1 x2 x3 x4 = some res) : Zj p l e (rm_X8_readItem) s m args below meth c g A 6 (0, 0) (QI g A below args s res) z 60 [(0, .ref (g.1 o0)), (1, .ref (g.1 o1)), (2, .int x2), (3, .int x3), (4, .int x4)] [] := by
  unfold f_X8_readItem_60 at hf
  refine z_aload_n C dX8_readItem_60 rfl 0 rfl ?_
  refine z_bipush C dX8_readItem_61 (v := 44) (by decide) ?_
  obtain ⟨r1, hc2, hf⟩ := q_bd hf
  refine z_cVi C (st := []) (c_X8_readSign ho0 hc2) mw_X8_readSign ml_X8_31 ho0 (by decide) rfl dX8_readItem_63 rfl rfl rfl ⟨Nat.le_of_ble_eq_true rfl, Nat.le_of_ble_eq_true rfl⟩ rfl (Nat.le_of_ble_eq_true rfl) ?_
  exact z_if_ne C dX8_readItem_66 (by decide) (fun h => z_sub [0, 1, 2, 3, 4] rfl (b_X8_readItem_71 C hr hk r1.1 o0 o1 x2 x3 x4 ho0 ho1 (q_f hf h))) (fun h => z_sub [] rfl (b_X8_readItem_69 C hr hk r1.1 (q_t hf h)))
def f_X8_readItem_47  (z : St) (o0 : Nat) (o1 : Nat) (x2 : Int32) (x3 : Int32) : Option (St × Int32) :=
  ((f_X8_readNumber z o0 2).bind fun r1 => if r1.2 = ((-1)) then f_X8_readItem_69 r1.1 else f_X8_readItem_60 r1.1 o0 o1 x2 x3 r1.2)
theorem b_X8_readItem_47 {p : Program} {l : Launch} {e : Env} {s : State} {m : MethodId} {args : Array Value} {below : List Frame} {meth : Method} {c : Code} {g : Ga} {A : Nat → Prop} (C : Cx l g A p s m args c cX8_readItem 6 RX8 (rm_X8_readItem) (0, 0)) (hr : meth.sig.returnType = (some .boolean)) (hk : meth.locks = false)   (z : St) (o0 : Nat) (o1 : Nat) (x2 : Int32) (x3 : Int32) (ho0 : kd o0 = 8) (ho1 : kd o1 = 2) {res : St × Int32} (hf : f_X8_readItem_47  z o0 o1 x2 x3 = some res) : Zj p l e (rm_X8_readItem) s m args below meth c g A 6 (0, 0) (QI g A below args s res) z 47 [(0, .ref (g.1 o0)), (1, .ref (g.1 o1)), (2, .int x2), (3, .int x3)] [] := by
  unfold f_X8_readItem_47 at hf
  refine z_aload_n C dX8_readItem_47 rfl 0 rfl ?_
  refine z_iconst C dX8_readItem_48 (v := 2) (by decide) ?_
  obtain ⟨r1, hc2, hf⟩ := q_bd hf
  refine z_cVi C (st := []) (c_X8_readNumber ho0 hc2) mw_X8_readNumber ml_X8_43 ho0 (by decide) rfl dX8_readItem_49 rfl rfl rfl ⟨Nat.le_of_ble_eq_true rfl, Nat.le_of_ble_eq_true rfl⟩ rfl (Nat.le_of_ble_eq_true rfl) ?_
  refine z_istore C (lv2 := [(4, .int r1.2), (0, .ref (g.1 o0)), (1, .ref (g.1 o1)), (2, .int x2), (3, .int x3)]) dX8_readItem_52 (by decide) rfl ?_
  refine z_iload C dX8_readItem_54 0 rfl ?_
  refine z_iconst C dX8_readItem_56 (v := (-1)) (by decide) ?_
  exact z_icmp_eq C dX8_readItem_57 (by decide) (fun h => z_sub [] rfl (b_X8_readItem_69 C hr hk r1.1 (q_t hf h))) (fun h => z_sub [1, 2, 3, 4, 0] rfl (b_X8_readItem_60 C hr hk r1.1 o0 o1 x2 x3 r1.2 ho0 ho1 (q_f hf h)))
def f_X8_readItem_36  (z : St) (o0 : Nat) (o1 : Nat) (x2 : Int32) (x3 : Int32) : Option (St × Int32) :=
  ((f_X8_readSign z o0 44).bind fun r1 => if r1.2 = 0 then f_X8_readItem_45 r1.1 else f_X8_readItem_47 r1.1 o0 o1 x2 x3)
theorem b_X8_readItem_36 {p : Program} {l : Launch} {e : Env} {s : State} {m : MethodId} {args : Array Value} {below : List Frame} {meth : Method} {c : Code} {g : Ga} {A : Nat → Prop} (C : Cx l g A p s m args c cX8_readItem 6 RX8 (rm_X8_readItem) (0, 0)) (hr : meth.sig.returnType = (some .boolean)) (hk : meth.locks = false)   (z : St) (o0 : Nat) (o1 : Nat) (x2 : Int32) (x3 : Int32) (ho0 : kd o0 = 8) (ho1 : kd o1 = 2) {res : St × Int32} (hf : f_X8_readItem_36  z o0 o1 x2 x3 = some res) : Zj p l e (rm_X8_readItem) s m args below meth c g A 6 (0, 0) (QI g A below args s res) z 36 [(0, .ref (g.1 o0)), (1, .ref (g.1 o1)), (2, .int x2), (3, .int x3)] [] := by
  unfold f_X8_readItem_36 at hf
  refine z_aload_n C dX8_readItem_36 rfl 0 rfl ?_
  refine z_bipush C dX8_readItem_37 (v := 44) (by decide) ?_
  obtain ⟨r1, hc2, hf⟩ := q_bd hf
  refine z_cVi C (st := []) (c_X8_readSign ho0 hc2) mw_X8_readSign ml_X8_31 ho0 (by decide) rfl dX8_readItem_39 rfl rfl rfl ⟨Nat.le_of_ble_eq_true rfl, Nat.le_of_ble_eq_true rfl⟩ rfl (Nat.le_of_ble_eq_true rfl) ?_
  exact z_if_ne C dX8_readItem_42 (by decide) (fun h => z_sub [0, 1, 2, 3] rfl (b_X8_readItem_47 C hr hk r1.1 o0 o1 x2 x3 ho0 ho1 (q_f hf h))) (fun h => z_sub [] rfl (b_X8_readItem_45 C hr hk r1.1 (q_t hf h)))
def f_X8_readItem_15  (z : St) (o0 : Nat) (o1 : Nat) (x2 : Int32) : Option (St × Int32) :=
  ((f_X8_readNumber (zI z o0 2 ((z.1 o0 2) + 1)) o0 1).bind fun r1 => if r1.2 = ((-1)) then f_X8_readItem_45 r1.1 else f_X8_readItem_36 r1.1 o0 o1 x2 r1.2)
theorem b_X8_readItem_15 {p : Program} {l : Launch} {e : Env} {s : State} {m : MethodId} {args : Array Value} {below : List Frame} {meth : Method} {c : Code} {g : Ga} {A : Nat → Prop} (C : Cx l g A p s m args c cX8_readItem 6 RX8 (rm_X8_readItem) (0, 0)) (hr : meth.sig.returnType = (some .boolean)) (hk : meth.locks = false)   (z : St) (o0 : Nat) (o1 : Nat) (x2 : Int32) (ho0 : kd o0 = 8) (ho1 : kd o1 = 2) {res : St × Int32} (hf : f_X8_readItem_15  z o0 o1 x2 = some res) : Zj p l e (rm_X8_readItem) s m args below meth c g A 6 (0, 0) (QI g A below args s res) z 15 [(0, .ref (g.1 o0)), (1, .ref (g.1 o1)), (2, .int x2)] [] := by
  unfold f_X8_readItem_15 at hf
  refine z_aload_n C dX8_readItem_15 rfl 0 rfl ?_
  refine z_dup C dX8_readItem_16 rfl ?_
  refine gf_X8_24 C dX8_readItem_17 ho0 ?_
  refine z_iconst C dX8_readItem_20 (v := 1) (by decide) ?_
  refine z_iadd C dX8_readItem_21 ?_
  refine pf_X8_24 C dX8_readItem_22 ho0 ?_
  refine z_aload_n C dX8_readItem_25 rfl 0 rfl ?_
  refine z_iconst C dX8_readItem_26 (v := 1) (by decide) ?_
  obtain ⟨r1, hc2, hf⟩ := q_bd hf
  refine z_cVi C (st := []) (c_X8_readNumber ho0 hc2) mw_X8_readNumber ml_X8_43 ho0 (by decide) rfl dX8_readItem_27 rfl rfl rfl ⟨Nat.le_of_ble_eq_true rfl, Nat.le_of_ble_eq_true rfl⟩ rfl (Nat.le_of_ble_eq_true rfl) ?_
  refine z_istore_n C (lv2 := [(3, .int r1.2), (0, .ref (g.1 o0)), (1, .ref (g.1 o1)), (2, .int x2)]) dX8_readItem_30 rfl (by decide) rfl ?_
  refine z_iload_n C dX8_readItem_31 rfl 0 rfl ?_
  refine z_iconst C dX8_readItem_32 (v := (-1)) (by decide) ?_
  exact z_icmp_eq C dX8_readItem_33 (by decide) (fun h => z_sub [] rfl (b_X8_readItem_45 C hr hk r1.1 (q_t hf h))) (fun h => z_sub [1, 2, 3, 0] rfl (b_X8_readItem_36 C hr hk r1.1 o0 o1 x2 r1.2 ho0 ho1 (q_f hf h)))
def f_X8_readItem_0  (z : St) (o0 : Nat) (o1 : Nat) : Option (St × Int32) :=
  ((f_X8_byteHere z o0).bind fun r1 => ((f_X8_kindOf r1.1 r1.2).bind fun r3 => if r3.2 = ((-1)) then f_X8_readItem_13 r3.1 else f_X8_readItem_15 r3.1 o0 o1 r3.2))
theorem b_X8_readItem_0 {p : Program} {l : Launch} {e : Env} {s : State} {m : MethodId} {args : Array Value} {below : List Frame} {meth : Method} {c : Code} {g : Ga} {A : Nat → Prop} (C : Cx l g A p s m args c cX8_readItem 6 RX8 (rm_X8_readItem) (0, 0)) (hr : meth.sig.returnType = (some .boolean)) (hk : meth.locks = false)   (z : St) (o0 : Nat) (o1 : Nat) (ho0 : kd o0 = 8) (ho1 : kd o1 = 2) {res : St × Int32} (hf : f_X8_readItem_0  z o0 o1 = some res) : Zj p l e (rm_X8_readItem) s m args below meth c g A 6 (0, 0) (QI g A below args s res) z 0 [(0, .ref (g.1 o0)), (1, .ref (g.1 o1))] [] := by
  unfold f_X8_readItem_0 at hf
  refine z_aload_n C dX8_readItem_0 rfl 0 rfl ?_
  obtain ⟨r1, hc2, hf⟩ := q_bd hf
  refine z_cVi C (st := []) (c_X8_byteHere ho0 hc2) mw_X8_byteHere ml_X8_35 ho0 (by decide) rfl dX8_readItem_1 rfl rfl rfl ⟨Nat.le_of_ble_eq_true rfl, Nat.le_of_ble_eq_true rfl⟩ rfl (Nat.le_of_ble_eq_true rfl) ?_
  obtain ⟨r3, hc4, hf⟩ := q_bd hf
  refine z_cSi C (st := []) (c_X8_kindOf  hc4) mw_X8_kindOf ml_X8_39 dX8_readItem_4 rfl rfl rfl ⟨Nat.le_of_ble_eq_true rfl, Nat.le_of_ble_eq_true rfl⟩ rfl (Nat.le_of_ble_eq_true rfl) ?_
  refine z_istore_n C (lv2 := [(2, .int r3.2), (0, .ref (g.1 o0)), (1, .ref (g.1 o1))]) dX8_readItem_7 rfl (by decide) rfl ?_
  refine z_iload_n C dX8_readItem_8 rfl 0 rfl ?_
  refine z_iconst C dX8_readItem_9 (v := (-1)) (by decide) ?_
  exact z_icmp_ne C dX8_readItem_10 (by decide) (fun h => z_sub [1, 2, 0] rfl (b_X8_readItem_15 C hr hk r3.1 o0 o1 r3.2 ho0 ho1 (q_f hf h))) (fun h => z_sub [] rfl (b_X8_readItem_13 C hr hk r3.1 (q_t hf h)))
def f_X8_readItem (z : St) (o0 : Nat) (o1 : Nat) : Option (St × Int32) := f_X8_readItem_0 z o0 o1
theorem c_X8_readItem {l : Launch} {g : Ga} {A : Nat → Prop} {z : St} {o0 : Nat} {o1 : Nat} (ho0 : kd o0 = 8) (ho1 : kd o1 = 2) {res : St × Int32} (hf : f_X8_readItem z o0 o1 = some res) : CI l g A yX8_readItem cX8_readItem 6 (some .boolean) rm_X8_readItem [.ref (g.1 o0), .ref (g.1 o1)] z res :=
  e_CI (by decide) (Nat.le_of_ble_eq_true rfl) rfl (fun p e s m args below meth c C hr hk => z_sub [0, 1] rfl (b_X8_readItem_0 C hr hk z o0 o1 ho0 ho1 hf))
abbrev rm_X8_readItems : Room := { frames := 4, cells := 0, slots := 0, locals := 94 }
def f_X8_readItems_25  (z : St) (o0 : Nat) : Option (St × Int32) :=
  some (z, z.1 o0 2)
theorem b_X8_readItems_25 {p : Program} {l : Launch} {e : Env} {s : State} {m : MethodId} {args : Array Value} {below : List Frame} {meth : Method} {c : Code} {g : Ga} {A : Nat → Prop} (C : Cx l g A p s m args c cX8_readItems 3 RX8 (rm_X8_readItems) (0, 0)) (hr : meth.sig.returnType = (some .int)) (hk : meth.locks = false)   (z : St) (o0 : Nat) (ho0 : kd o0 = 8) {res : St × Int32} (hf : f_X8_readItems_25  z o0 = some res) : Zj p l e (rm_X8_readItems) s m args below meth c g A 3 (0, 0) (QI g A below args s res) z 25 [(0, .ref (g.1 o0))] [] := by
  unfold f_X8_readItems_25 at hf
  refine z_aload_n C dX8_readItems_25 rfl 0 rfl ?_
  refine gf_X8_24 C dX8_readItems_26 ho0 ?_
  cases hf
  exact z_iret C hr hk dX8_readItems_29
def f_X8_readItems_41  (z : St)  : Option (St × Int32) :=
  some (z, (-1))
theorem b_X8_readItems_41 {p : Program} {l : Launch} {e : Env} {s : State} {m : MethodId} {args : Array Value} {below : List Frame} {meth : Method} {c : Code} {g : Ga} {A : Nat → Prop} (C : Cx l g A p s m args c cX8_readItems 3 RX8 (rm_X8_readItems) (0, 0)) (hr : meth.sig.returnType = (some .int)) (hk : meth.locks = false)   (z : St)   {res : St × Int32} (hf : f_X8_readItems_41  z  = some res) : Zj p l e (rm_X8_readItems) s m args below meth c g A 3 (0, 0) (QI g A below args s res) z 41 [] [] := by
  unfold f_X8_readItems_41 at hf
  refine z_iconst C dX8_readItems_41 (v := (-1)) (by decide) ?_
  cases hf
  exact z_iret C hr hk dX8_readItems_42
def f_X8_readItems_52  (z : St) (o0 : Nat) : Option (St × Int32) :=
  some (z, z.1 o0 2)
theorem b_X8_readItems_52 {p : Program} {l : Launch} {e : Env} {s : State} {m : MethodId} {args : Array Value} {below : List Frame} {meth : Method} {c : Code} {g : Ga} {A : Nat → Prop} (C : Cx l g A p s m args c cX8_readItems 3 RX8 (rm_X8_readItems) (0, 0)) (hr : meth.sig.returnType = (some .int)) (hk : meth.locks = false)   (z : St) (o0 : Nat) (ho0 : kd o0 = 8) {res : St × Int32} (hf : f_X8_readItems_52  z o0 = some res) : Zj p l e (rm_X8_readItems) s m args below meth c g A 3 (0, 0) (QI g A below args s res) z 52 [(0, .ref (g.1 o0))] [] := by
  unfold f_X8_readItems_52 at hf
  refine z_aload_n C dX8_readItems_52 rfl 0 rfl ?_
  refine gf_X8_24 C dX8_readItems_53 ho0 ?_
  cases hf
  exact z_iret C hr hk dX8_readItems_56
def f_X8_readItems_57 (K11 : St → Nat → Nat → Int32 → Option (St × Int32)) (z : St) (o0 : Nat) (o1 : Nat) (x2 : Int32) : Option (St × Int32) :=
  K11 z o0 o1 (x2 + 1)
theorem b_X8_readItems_57 {p : Program} {l : Launch} {e : Env} {s : State} {m : MethodId} {args : Array Value} {below : List Frame} {meth : Method} {c : Code} {g : Ga} {A : Nat → Prop} (C : Cx l g A p s m args c cX8_readItems 3 RX8 (rm_X8_readItems) (0, 0)) (hr : meth.sig.returnType = (some .int)) (hk : meth.locks = false) {K11 : St → Nat → Nat → Int32 → Option (St × Int32)} (hK11 : ∀ (z : St) (o0 : Nat) (o1 : Nat) (x2 : Int32) (_ : kd o0 = 8) (_ : kd o1 = 2) {res : St × Int32}, K11 z o0 o1 x2 = some res → Zj p l e (rm_X8_readItems) s m args below meth c g A 3 (0, 0) (QI g A below args s res) z 11 [(0, .ref (g.1 o0)), (1, .ref (g.1 o1)), (2, .int x2)] []) (z : St) (o0 : Nat) (o1 : Nat) (x2 : Int32) (ho0 : kd o0 = 8) (ho1 : kd o1 = 2) {res : St × Int32} (hf : f_X8_readItems_57 K11 z o0 o1 x2 = some res) : Zj p l e (rm_X8_readItems) s m args below meth c g A 3 (0, 0) (QI g A below args s res) z 57 [(0, .ref (g.1 o0)), (1, .ref (g.1 o1)), (2, .int x2)] [] := by
  unfold f_X8_readItems_57 at hf
  refine z_iinc C (k := 2) (v := x2 + 1) (lv2 := [(2, .int (x2 + 1)), (0, .ref (g.1 o0)), (1, .ref (g.1 o1))]) dX8_readItems_57 rfl rfl (by decide) rfl ?_
  exact z_goto C dX8_readItems_60 (by decide) (z_sub [1, 2, 0] rfl (hK11 z o0 o1 (x2 + 1) ho0 ho1 hf))
def f_X8_readItems_43 (K11 : St → Nat → Nat → Int32 → Option (St × Int32)) (z : St) (o0 : Nat) (o1 : Nat) (x2 : Int32) : Option (St × Int32) :=
  ((f_X8_readSign z o0 59).bind fun r1 => if r1.2 = 0 then f_X8_readItems_52 r1.1 o0 else f_X8_readItems_57 K11 r1.1 o0 o1 x2)
theorem b_X8_readItems_43 {p : Program} {l : Launch} {e : Env} {s : State} {m : MethodId} {args : Array Value} {below : List Frame} {meth : Method} {c : Code} {g : Ga} {A : Nat → Prop} (C : Cx l g A p s m args c cX8_readItems 3 RX8 (rm_X8_readItems) (0, 0)) (hr : meth.sig.returnType = (some .int)) (hk : meth.locks = false) {K11 : St → Nat → Nat → Int32 → Option (St × Int32)} (hK11 : ∀ (z : St) (o0 : Nat) (o1 : Nat) (x2 : Int32) (_ : kd o0 = 8) (_ : kd o1 = 2) {res : St × Int32}, K11 z o0 o1 x2 = some res → Zj p l e (rm_X8_readItems) s m args below meth c g A 3 (0, 0) (QI g A below args s res) z 11 [(0, .ref (g.1 o0)), (1, .ref (g.1 o1)), (2, .int x2)] []) (z : St) (o0 : Nat) (o1 : Nat) (x2 : Int32) (ho0 : kd o0 = 8) (ho1 : kd o1 = 2) {res : St × Int32} (hf : f_X8_readItems_43 K11 z o0 o1 x2 = some res) : Zj p l e (rm_X8_readItems) s m args below meth c g A 3 (0, 0) (QI g A below args s res) z 43 [(0, .ref (g.1 o0)), (1, .ref (g.1 o1)), (2, .int x2)] [] := by
  unfold f_X8_readItems_43 at hf
  refine z_aload_n C dX8_readItems_43 rfl 0 rfl ?_
  refine z_bipush C dX8_readItems_44 (v := 59) (by decide) ?_
  obtain ⟨r1, hc2, hf⟩ := q_bd hf
  refine z_cVi C (st := []) (c_X8_readSign ho0 hc2) mw_X8_readSign ml_X8_31 ho0 (by decide) rfl dX8_readItems_46 rfl rfl rfl ⟨Nat.le_of_ble_eq_true rfl, Nat.le_of_ble_eq_true rfl⟩ rfl (Nat.le_of_ble_eq_true rfl) ?_
  exact z_if_ne C dX8_readItems_49 (by decide) (fun h => z_sub [0, 1, 2] rfl (b_X8_readItems_57 C hr hk hK11 r1.1 o0 o1 x2 ho0 ho1 (q_f hf h))) (fun h => z_sub [0] rfl (b_X8_readItems_52 C hr hk r1.1 o0 ho0 (q_t hf h)))
def f_X8_readItems_30 (K11 : St → Nat → Nat → Int32 → Option (St × Int32)) (z : St) (o0 : Nat) (o1 : Nat) (x2 : Int32) : Option (St × Int32) :=
  if (z.1 o0 2) = (z.1 o0 1) then f_X8_readItems_41 z else f_X8_readItems_43 K11 z o0 o1 x2
theorem b_X8_readItems_30 {p : Program} {l : Launch} {e : Env} {s : State} {m : MethodId} {args : Array Value} {below : List Frame} {meth : Method} {c : Code} {g : Ga} {A : Nat → Prop} (C : Cx l g A p s m args c cX8_readItems 3 RX8 (rm_X8_readItems) (0, 0)) (hr : meth.sig.returnType = (some .int)) (hk : meth.locks = false) {K11 : St → Nat → Nat → Int32 → Option (St × Int32)} (hK11 : ∀ (z : St) (o0 : Nat) (o1 : Nat) (x2 : Int32) (_ : kd o0 = 8) (_ : kd o1 = 2) {res : St × Int32}, K11 z o0 o1 x2 = some res → Zj p l e (rm_X8_readItems) s m args below meth c g A 3 (0, 0) (QI g A below args s res) z 11 [(0, .ref (g.1 o0)), (1, .ref (g.1 o1)), (2, .int x2)] []) (z : St) (o0 : Nat) (o1 : Nat) (x2 : Int32) (ho0 : kd o0 = 8) (ho1 : kd o1 = 2) {res : St × Int32} (hf : f_X8_readItems_30 K11 z o0 o1 x2 = some res) : Zj p l e (rm_X8_readItems) s m args below meth c g A 3 (0, 0) (QI g A below args s res) z 30 [(0, .ref (g.1 o0)), (1, .ref (g.1 o1)), (2, .int x2)] [] := by
  unfold f_X8_readItems_30 at hf
  refine z_aload_n C dX8_readItems_30 rfl 0 rfl ?_
  refine gf_X8_24 C dX8_readItems_31 ho0 ?_
  refine z_aload_n C dX8_readItems_34 rfl 0 rfl ?_
  refine gf_X8_15 C dX8_readItems_35 ho0 ?_
  exact z_icmp_ne C dX8_readItems_38 (by decide) (fun h => z_sub [0, 1, 2] rfl (b_X8_readItems_43 C hr hk hK11 z o0 o1 x2 ho0 ho1 (q_f hf h))) (fun h => z_sub [] rfl (b_X8_readItems_41 C hr hk z (q_t hf h)))
def f_X8_readItems_17 (K11 : St → Nat → Nat → Int32 → Option (St × Int32)) (z : St) (o0 : Nat) (o1 : Nat) (x2 : Int32) : Option (St × Int32) :=
  ((f_X8_readItem z o0 o1).bind fun r1 => if r1.2 = 0 then f_X8_readItems_25 r1.1 o0 else f_X8_readItems_30 K11 r1.1 o0 o1 x2)
theorem b_X8_readItems_17 {p : Program} {l : Launch} {e : Env} {s : State} {m : MethodId} {args : Array Value} {below : List Frame} {meth : Method} {c : Code} {g : Ga} {A : Nat → Prop} (C : Cx l g A p s m args c cX8_readItems 3 RX8 (rm_X8_readItems) (0, 0)) (hr : meth.sig.returnType = (some .int)) (hk : meth.locks = false) {K11 : St → Nat → Nat → Int32 → Option (St × Int32)} (hK11 : ∀ (z : St) (o0 : Nat) (o1 : Nat) (x2 : Int32) (_ : kd o0 = 8) (_ : kd o1 = 2) {res : St × Int32}, K11 z o0 o1 x2 = some res → Zj p l e (rm_X8_readItems) s m args below meth c g A 3 (0, 0) (QI g A below args s res) z 11 [(0, .ref (g.1 o0)), (1, .ref (g.1 o1)), (2, .int x2)] []) (z : St) (o0 : Nat) (o1 : Nat) (x2 : Int32) (ho0 : kd o0 = 8) (ho1 : kd o1 = 2) {res : St × Int32} (hf : f_X8_readItems_17 K11 z o0 o1 x2 = some res) : Zj p l e (rm_X8_readItems) s m args below meth c g A 3 (0, 0) (QI g A below args s res) z 17 [(0, .ref (g.1 o0)), (1, .ref (g.1 o1)), (2, .int x2)] [] := by
  unfold f_X8_readItems_17 at hf
  refine z_aload_n C dX8_readItems_17 rfl 0 rfl ?_
  refine z_aload_n C dX8_readItems_18 rfl 1 rfl ?_
  obtain ⟨r1, hc2, hf⟩ := q_bd hf
  refine z_cVi C (st := []) (c_X8_readItem ho0 ho1 hc2) mw_X8_readItem ml_X8_27 ho0 (by decide) rfl dX8_readItems_19 rfl rfl rfl ⟨Nat.le_of_ble_eq_true rfl, Nat.le_of_ble_eq_true rfl⟩ rfl (Nat.le_of_ble_eq_true rfl) ?_
  exact z_if_ne C dX8_readItems_22 (by decide) (fun h => z_sub [0, 1, 2] rfl (b_X8_readItems_30 C hr hk hK11 r1.1 o0 o1 x2 ho0 ho1 (q_f hf h))) (fun h => z_sub [0] rfl (b_X8_readItems_25 C hr hk r1.1 o0 ho0 (q_t hf h)))
def f_X8_readItems_63  (z : St) (o0 : Nat) : Option (St × Int32) :=
  some (z, z.1 o0 2)
theorem b_X8_readItems_63 {p : Program} {l : Launch} {e : Env} {s : State} {m : MethodId} {args : Array Value} {below : List Frame} {meth : Method} {c : Code} {g : Ga} {A : Nat → Prop} (C : Cx l g A p s m args c cX8_readItems 3 RX8 (rm_X8_readItems) (0, 0)) (hr : meth.sig.returnType = (some .int)) (hk : meth.locks = false)   (z : St) (o0 : Nat) (ho0 : kd o0 = 8) {res : St × Int32} (hf : f_X8_readItems_63  z o0 = some res) : Zj p l e (rm_X8_readItems) s m args below meth c g A 3 (0, 0) (QI g A below args s res) z 63 [(0, .ref (g.1 o0))] [] := by
  unfold f_X8_readItems_63 at hf
  refine z_aload_n C dX8_readItems_63 rfl 0 rfl ?_
  refine gf_X8_24 C dX8_readItems_64 ho0 ?_
  cases hf
  exact z_iret C hr hk dX8_readItems_67
def f_X8_readItems_11  : Nat → St → Nat → Nat → Int32 → Option (St × Int32)
  | 0, _, _, _, _ => none
  | n + 1, z, o0, o1, x2 => if 60 < x2 then f_X8_readItems_63 z o0 else f_X8_readItems_17 (f_X8_readItems_11 n) z o0 o1 x2
theorem b_X8_readItems_11 {p : Program} {l : Launch} {e : Env} {s : State} {m : MethodId} {args : Array Value} {below : List Frame} {meth : Method} {c : Code} {g : Ga} {A : Nat → Prop} (C : Cx l g A p s m args c cX8_readItems 3 RX8 (rm_X8_readItems) (0, 0)) (hr : meth.sig.returnType = (some .int)) (hk : meth.locks = false)   : ∀ (n : Nat) (z : St) (o0 : Nat) (o1 : Nat) (x2 : Int32) (_ : kd o0 = 8) (_ : kd o1 = 2) {res : St × Int32} (_ : f_X8_readItems_11  n z o0 o1 x2 = some res), Zj p l e (rm_X8_readItems) s m args below meth c g A 3 (0, 0) (QI g A below args s res) z 11 [(0, .ref (g.1 o0)), (1, .ref (g.1 o1)), (2, .int x2)] [] := by
  intro n
  induction n with
  | zero =>
    intro z o0 o1 x2 ho0 ho1 res hf
    cases hf
  | succ n ih =>
    intro z o0 o1 x2 ho0 ho1 res hf
    rw [f_X8_readItems_11] at hf
    refine z_iload_n C dX8_readItems_11 rfl 2 rfl ?_
    refine z_bipush C dX8_readItems_12 (v := 60) (by decide) ?_
    exact z_icmp_gt C dX8_readItems_14 (by decide) (fun h => z_sub [0] rfl (b_X8_readItems_63 C hr hk z o0 ho0 (q_t hf h))) (fun h => z_sub [0, 1, 2] rfl (b_X8_readItems_17 C hr hk ih z o0 o1 x2 ho0 ho1 (q_f hf h)))
def f_X8_readItems_0  (z : St) (o0 : Nat) (o1 : Nat) : Option (St × Int32) :=
  ((f_X2_clear z o1).bind fun r1 => f_X8_readItems_11 FU (zI r1 o0 2 0) o0 o1 0)
theorem b_X8_readItems_0 {p : Program} {l : Launch} {e : Env} {s : State} {m : MethodId} {args : Array Value} {below : List Frame} {meth : Method} {c : Code} {g : Ga} {A : Nat → Prop} (C : Cx l g A p s m args c cX8_readItems 3 RX8 (rm_X8_readItems) (0, 0)) (hr : meth.sig.returnType = (some .int)) (hk : meth.locks = false)   (z : St) (o0 : Nat) (o1 : Nat) (ho0 : kd o0 = 8) (ho1 : kd o1 = 2) {res : St × Int32} (hf : f_X8_readItems_0  z o0 o1 = some res) : Zj p l e (rm_X8_readItems) s m args below meth c g A 3 (0, 0) (QI g A below args s res) z 0 [(0, .ref (g.1 o0)), (1, .ref (g.1 o1))] [] := by
  unfold f_X8_readItems_0 at hf
  refine z_aload_n C dX8_readItems_0 rfl 1 rfl ?_
  obtain ⟨r1, hc2, hf⟩ := q_bd hf
  refine z_cVv C (st := []) (c_X2_clear ho1 hc2) mw_X2_clear ml_X8_19 ho1 (by decide) rfl dX8_readItems_1 rfl rfl rfl ⟨Nat.le_of_ble_eq_true rfl, Nat.le_of_ble_eq_true rfl⟩ rfl (Nat.le_of_ble_eq_true rfl) ?_
  refine z_aload_n C dX8_readItems_4 rfl 0 rfl ?_
  refine z_iconst C dX8_readItems_5 (v := 0) (by decide) ?_
  refine pf_X8_24 C dX8_readItems_6 ho0 ?_
  refine z_iconst C dX8_readItems_9 (v := 0) (by decide) ?_
  refine z_istore_n C (lv2 := [(2, .int 0), (0, .ref (g.1 o0)), (1, .ref (g.1 o1))]) dX8_readItems_10 rfl (by decide) rfl ?_
  exact z_sub [1, 2, 0] rfl (b_X8_readItems_11 C hr hk FU (zI r1 o0 2 0) o0 o1 0 ho0 ho1 hf)
def f_X8_readItems (z : St) (o0 : Nat) (o1 : Nat) : Option (St × Int32) := f_X8_readItems_0 z o0 o1
theorem c_X8_readItems {l : Launch} {g : Ga} {A : Nat → Prop} {z : St} {o0 : Nat} {o1 : Nat} (ho0 : kd o0 = 8) (ho1 : kd o1 = 2) {res : St × Int32} (hf : f_X8_readItems z o0 o1 = some res) : CI l g A yX8_readItems cX8_readItems 3 (some .int) rm_X8_readItems [.ref (g.1 o0), .ref (g.1 o1)] z res :=
  e_CI (by decide) (Nat.le_of_ble_eq_true rfl) rfl (fun p e s m args below meth c C hr hk => z_sub [0, 1] rfl (b_X8_readItems_0 C hr hk z o0 o1 ho0 ho1 hf))
