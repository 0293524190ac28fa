abbrev rm_X2_mayBe : Room := { frames := 0, cells := 0, slots := 0, locals := 0 }
def f_X2_mayBe_43  (z : St) (s0 : Int32) : Option (St × Int32) :=
  if zb s0 = true then some (z, s0) else none
theorem b_X2_mayBe_43 {p : Program} {l : Launch} {e : Env} {s : State} {m : MethodId} {args : Array Value} {below : List Frame} {meth : Method} {c : Code} {g : Ga} {A : Nat → Prop} (C : Cx l g A p s m args c cX2_mayBe 2 RX2 (rm_X2_mayBe) (0, 0)) (hr : meth.sig.returnType = (some .boolean)) (hk : meth.locks = false)   (z : St) (s0 : Int32)  {res : St × Int32} (hf : f_X2_mayBe_43  z s0 = some res) : Zj p l e (rm_X2_mayBe) s m args below meth c g A 2 (0, 0) (QI g A below args s res) z 43 [] [.int s0] := by
  unfold f_X2_mayBe_43 at hf
  obtain ⟨h1, hf⟩ := q_ck hf
  cases hf
  exact z_zret C hr hk h1 dX2_mayBe_43
def f_X2_mayBe_38  (z : St)  : Option (St × Int32) :=
  f_X2_mayBe_43 z 1
theorem b_X2_mayBe_38 {p : Program} {l : Launch} {e : Env} {s : State} {m : MethodId} {args : Array Value} {below : List Frame} {meth : Method} {c : Code} {g : Ga} {A : Nat → Prop} (C : Cx l g A p s m args c cX2_mayBe 2 RX2 (rm_X2_mayBe) (0, 0)) (hr : meth.sig.returnType = (some .boolean)) (hk : meth.locks = false)   (z : St)   {res : St × Int32} (hf : f_X2_mayBe_38  z  = some res) : Zj p l e (rm_X2_mayBe) s m args below meth c g A 2 (0, 0) (QI g A below args s res) z 38 [] [] := by
  unfold f_X2_mayBe_38 at hf
  refine z_iconst C dX2_mayBe_38 (v := 1) (by decide) ?_
  exact z_goto C dX2_mayBe_39 (by decide) (z_sub [] rfl (b_X2_mayBe_43 C hr hk z 1 hf))
def f_X2_mayBe_42  (z : St)  : Option (St × Int32) :=
  f_X2_mayBe_43 z 0
theorem b_X2_mayBe_42 {p : Program} {l : Launch} {e : Env} {s : State} {m : MethodId} {args : Array Value} {below : List Frame} {meth : Method} {c : Code} {g : Ga} {A : Nat → Prop} (C : Cx l g A p s m args c cX2_mayBe 2 RX2 (rm_X2_mayBe) (0, 0)) (hr : meth.sig.returnType = (some .boolean)) (hk : meth.locks = false)   (z : St)   {res : St × Int32} (hf : f_X2_mayBe_42  z  = some res) : Zj p l e (rm_X2_mayBe) s m args below meth c g A 2 (0, 0) (QI g A below args s res) z 42 [] [] := by
  unfold f_X2_mayBe_42 at hf
  refine z_iconst C dX2_mayBe_42 (v := 0) (by decide) ?_
  exact z_sub [] rfl (b_X2_mayBe_43 C hr hk z 0 hf)
def f_X2_mayBe_29  (z : St) (x0 : Int32) (x1 : Int32) : Option (St × Int32) :=
  if inb x0 4 = true then (if (tb2 (Int32.toNatClampNeg x0)) < x1 then f_X2_mayBe_42 z else f_X2_mayBe_38 z) else none
theorem b_X2_mayBe_29 {p : Program} {l : Launch} {e : Env} {s : State} {m : MethodId} {args : Array Value} {below : List Frame} {meth : Method} {c : Code} {g : Ga} {A : Nat → Prop} (C : Cx l g A p s m args c cX2_mayBe 2 RX2 (rm_X2_mayBe) (0, 0)) (hr : meth.sig.returnType = (some .boolean)) (hk : meth.locks = false)   (z : St) (x0 : Int32) (x1 : Int32)  {res : St × Int32} (hf : f_X2_mayBe_29  z x0 x1 = some res) : Zj p l e (rm_X2_mayBe) s m args below meth c g A 2 (0, 0) (QI g A below args s res) z 29 [(0, .int x0), (1, .int x1)] [] := by
  unfold f_X2_mayBe_29 at hf
  refine z_iload_n C dX2_mayBe_29 rfl 1 rfl ?_
  refine z_gs2 C dX2_mayBe_30 gs_X2_20 ?_
  refine z_iload_n C dX2_mayBe_33 rfl 0 rfl ?_
  obtain ⟨h1, hf⟩ := q_ck hf
  refine z_st2 C dX2_mayBe_34 h1 ?_
  exact z_icmp_gt C dX2_mayBe_35 (by decide) (fun h => z_sub [] rfl (b_X2_mayBe_42 C hr hk z (q_t hf h))) (fun h => z_sub [] rfl (b_X2_mayBe_38 C hr hk z (q_f hf h)))
def f_X2_mayBe_20  (z : St) (x0 : Int32) (x1 : Int32) : Option (St × Int32) :=
  if inb x0 4 = true then (if x1 < (tb1 (Int32.toNatClampNeg x0)) then f_X2_mayBe_42 z else f_X2_mayBe_29 z x0 x1) else none
theorem b_X2_mayBe_20 {p : Program} {l : Launch} {e : Env} {s : State} {m : MethodId} {args : Array Value} {below : List Frame} {meth : Method} {c : Code} {g : Ga} {A : Nat → Prop} (C : Cx l g A p s m args c cX2_mayBe 2 RX2 (rm_X2_mayBe) (0, 0)) (hr : meth.sig.returnType = (some .boolean)) (hk : meth.locks = false)   (z : St) (x0 : Int32) (x1 : Int32)  {res : St × Int32} (hf : f_X2_mayBe_20  z x0 x1 = some res) : Zj p l e (rm_X2_mayBe) s m args below meth c g A 2 (0, 0) (QI g A below args s res) z 20 [(0, .int x0), (1, .int x1)] [] := by
  unfold f_X2_mayBe_20 at hf
  refine z_iload_n C dX2_mayBe_20 rfl 1 rfl ?_
  refine z_gs1 C dX2_mayBe_21 gs_X2_16 ?_
  refine z_iload_n C dX2_mayBe_24 rfl 0 rfl ?_
  obtain ⟨h1, hf⟩ := q_ck hf
  refine z_st1 C dX2_mayBe_25 h1 ?_
  exact z_icmp_lt C dX2_mayBe_26 (by decide) (fun h => z_sub [] rfl (b_X2_mayBe_42 C hr hk z (q_t hf h))) (fun h => z_sub [0, 1] rfl (b_X2_mayBe_29 C hr hk z x0 x1 (q_f hf h)))
def f_X2_mayBe_12  (z : St) (x0 : Int32) (x1 : Int32) : Option (St × Int32) :=
  if 4 ≤ x0 then f_X2_mayBe_42 z else f_X2_mayBe_20 z x0 x1
theorem b_X2_mayBe_12 {p : Program} {l : Launch} {e : Env} {s : State} {m : MethodId} {args : Array Value} {below : List Frame} {meth : Method} {c : Code} {g : Ga} {A : Nat → Prop} (C : Cx l g A p s m args c cX2_mayBe 2 RX2 (rm_X2_mayBe) (0, 0)) (hr : meth.sig.returnType = (some .boolean)) (hk : meth.locks = false)   (z : St) (x0 : Int32) (x1 : Int32)  {res : St × Int32} (hf : f_X2_mayBe_12  z x0 x1 = some res) : Zj p l e (rm_X2_mayBe) s m args below meth c g A 2 (0, 0) (QI g A below args s res) z 12 [(0, .int x0), (1, .int x1)] [] := by
  unfold f_X2_mayBe_12 at hf
  refine z_iload_n C dX2_mayBe_12 rfl 0 rfl ?_
  refine z_gs2 C dX2_mayBe_13 gs_X2_20 ?_
  refine z_sl2 C dX2_mayBe_16 (v := 4) rfl ?_
  exact z_icmp_ge C dX2_mayBe_17 (by decide) (fun h => z_sub [] rfl (b_X2_mayBe_42 C hr hk z (q_t hf h))) (fun h => z_sub [0, 1] rfl (b_X2_mayBe_20 C hr hk z x0 x1 (q_f hf h)))
def f_X2_mayBe_4  (z : St) (x0 : Int32) (x1 : Int32) : Option (St × Int32) :=
  if 4 ≤ x0 then f_X2_mayBe_42 z else f_X2_mayBe_12 z x0 x1
theorem b_X2_mayBe_4 {p : Program} {l : Launch} {e : Env} {s : State} {m : MethodId} {args : Array Value} {below : List Frame} {meth : Method} {c : Code} {g : Ga} {A : Nat → Prop} (C : Cx l g A p s m args c cX2_mayBe 2 RX2 (rm_X2_mayBe) (0, 0)) (hr : meth.sig.returnType = (some .boolean)) (hk : meth.locks = false)   (z : St) (x0 : Int32) (x1 : Int32)  {res : St × Int32} (hf : f_X2_mayBe_4  z x0 x1 = some res) : Zj p l e (rm_X2_mayBe) s m args below meth c g A 2 (0, 0) (QI g A below args s res) z 4 [(0, .int x0), (1, .int x1)] [] := by
  unfold f_X2_mayBe_4 at hf
  refine z_iload_n C dX2_mayBe_4 rfl 0 rfl ?_
  refine z_gs1 C dX2_mayBe_5 gs_X2_16 ?_
  refine z_sl1 C dX2_mayBe_8 (v := 4) rfl ?_
  exact z_icmp_ge C dX2_mayBe_9 (by decide) (fun h => z_sub [] rfl (b_X2_mayBe_42 C hr hk z (q_t hf h))) (fun h => z_sub [0, 1] rfl (b_X2_mayBe_12 C hr hk z x0 x1 (q_f hf h)))
def f_X2_mayBe_0  (z : St) (x0 : Int32) (x1 : Int32) : Option (St × Int32) :=
  if x0 < 0 then f_X2_mayBe_42 z else f_X2_mayBe_4 z x0 x1
theorem b_X2_mayBe_0 {p : Program} {l : Launch} {e : Env} {s : State} {m : MethodId} {args : Array Value} {below : List Frame} {meth : Method} {c : Code} {g : Ga} {A : Nat → Prop} (C : Cx l g A p s m args c cX2_mayBe 2 RX2 (rm_X2_mayBe) (0, 0)) (hr : meth.sig.returnType = (some .boolean)) (hk : meth.locks = false)   (z : St) (x0 : Int32) (x1 : Int32)  {res : St × Int32} (hf : f_X2_mayBe_0  z x0 x1 = some res) : Zj p l e (rm_X2_mayBe) s m args below meth c g A 2 (0, 0) (QI g A below args s res) z 0 [(0, .int x0), (1, .int x1)] [] := by
  unfold f_X2_mayBe_0 at hf
  refine z_iload_n C dX2_mayBe_0 rfl 0 rfl ?_
  exact z_if_lt C dX2_mayBe_1 (by decide) (fun h => z_sub [] rfl (b_X2_mayBe_42 C hr hk z (q_t hf h))) (fun h => z_sub [0, 1] rfl (b_X2_mayBe_4 C hr hk z x0 x1 (q_f hf h)))
def f_X2_mayBe (z : St) (x0 : Int32) (x1 : Int32) : Option (St × Int32) := f_X2_mayBe_0 z x0 x1
theorem c_X2_mayBe {l : Launch} {g : Ga} {A : Nat → Prop} {z : St} {x0 : Int32} {x1 : Int32}  {res : St × Int32} (hf : f_X2_mayBe z x0 x1 = some res) : CI l g A yX2_mayBe cX2_mayBe 2 (some .boolean) rm_X2_mayBe [.int x0, .int x1] z res :=
  e_CI (by decide) (Nat.le_of_ble_eq_true rfl) rfl (fun p e s m args below meth c C hr hk => z_sub [0, 1] rfl (b_X2_mayBe_0 C hr hk z x0 x1  hf))
abbrev rm_X2_holds : Room := { frames := 0, cells := 0, slots := 0, locals := 0 }
def f_X2_holds_23  (z : St) (s0 : Int32) : Option (St × Int32) :=
  if zb s0 = true then some (z, s0) else none
theorem b_X2_holds_23 {p : Program} {l : Launch} {e : Env} {s : State} {m : MethodId} {args : Array Value} {below : List Frame} {meth : Method} {c : Code} {g : Ga} {A : Nat → Prop} (C : Cx l g A p s m args c cX2_holds 2 RX2 (rm_X2_holds) (0, 0)) (hr : meth.sig.returnType = (some .boolean)) (hk : meth.locks = false)   (z : St) (s0 : Int32)  {res : St × Int32} (hf : f_X2_holds_23  z s0 = some res) : Zj p l e (rm_X2_holds) s m args below meth c g A 2 (0, 0) (QI g A below args s res) z 23 [] [.int s0] := by
  unfold f_X2_holds_23 at hf
  obtain ⟨h1, hf⟩ := q_ck hf
  cases hf
  exact z_zret C hr hk h1 dX2_holds_23
def f_X2_holds_18  (z : St)  : Option (St × Int32) :=
  f_X2_holds_23 z 1
theorem b_X2_holds_18 {p : Program} {l : Launch} {e : Env} {s : State} {m : MethodId} {args : Array Value} {below : List Frame} {meth : Method} {c : Code} {g : Ga} {A : Nat → Prop} (C : Cx l g A p s m args c cX2_holds 2 RX2 (rm_X2_holds) (0, 0)) (hr : meth.sig.returnType = (some .boolean)) (hk : meth.locks = false)   (z : St)   {res : St × Int32} (hf : f_X2_holds_18  z  = some res) : Zj p l e (rm_X2_holds) s m args below meth c g A 2 (0, 0) (QI g A below args s res) z 18 [] [] := by
  unfold f_X2_holds_18 at hf
  refine z_iconst C dX2_holds_18 (v := 1) (by decide) ?_
  exact z_goto C dX2_holds_19 (by decide) (z_sub [] rfl (b_X2_holds_23 C hr hk z 1 hf))
def f_X2_holds_22  (z : St)  : Option (St × Int32) :=
  f_X2_holds_23 z 0
theorem b_X2_holds_22 {p : Program} {l : Launch} {e : Env} {s : State} {m : MethodId} {args : Array Value} {below : List Frame} {meth : Method} {c : Code} {g : Ga} {A : Nat → Prop} (C : Cx l g A p s m args c cX2_holds 2 RX2 (rm_X2_holds) (0, 0)) (hr : meth.sig.returnType = (some .boolean)) (hk : meth.locks = false)   (z : St)   {res : St × Int32} (hf : f_X2_holds_22  z  = some res) : Zj p l e (rm_X2_holds) s m args below meth c g A 2 (0, 0) (QI g A below args s res) z 22 [] [] := by
  unfold f_X2_holds_22 at hf
  refine z_iconst C dX2_holds_22 (v := 0) (by decide) ?_
  exact z_sub [] rfl (b_X2_holds_23 C hr hk z 0 hf)
def f_X2_holds_12  (z : St) (x1 : Int32) : Option (St × Int32) :=
  if 8 ≤ x1 then f_X2_holds_22 z else f_X2_holds_18 z
theorem b_X2_holds_12 {p : Program} {l : Launch} {e : Env} {s : State} {m : MethodId} {args : Array Value} {below : List Frame} {meth : Method} {c : Code} {g : Ga} {A : Nat → Prop} (C : Cx l g A p s m args c cX2_holds 2 RX2 (rm_X2_holds) (0, 0)) (hr : meth.sig.returnType = (some .boolean)) (hk : meth.locks = false)   (z : St) (x1 : Int32)  {res : St × Int32} (hf : f_X2_holds_12  z x1 = some res) : Zj p l e (rm_X2_holds) s m args below meth c g A 2 (0, 0) (QI g A below args s res) z 12 [(1, .int x1)] [] := by
  unfold f_X2_holds_12 at hf
  refine z_iload_n C dX2_holds_12 rfl 0 rfl ?_
  refine z_bipush C dX2_holds_13 (v := 8) (by decide) ?_
  exact z_icmp_ge C dX2_holds_15 (by decide) (fun h => z_sub [] rfl (b_X2_holds_22 C hr hk z (q_t hf h))) (fun h => z_sub [] rfl (b_X2_holds_18 C hr hk z (q_f hf h)))
def f_X2_holds_4  (z : St) (o0 : Nat) (x1 : Int32) : Option (St × Int32) :=
  if (z.1 o0 1) ≤ x1 then f_X2_holds_22 z else f_X2_holds_12 z x1
theorem b_X2_holds_4 {p : Program} {l : Launch} {e : Env} {s : State} {m : MethodId} {args : Array Value} {below : List Frame} {meth : Method} {c : Code} {g : Ga} {A : Nat → Prop} (C : Cx l g A p s m args c cX2_holds 2 RX2 (rm_X2_holds) (0, 0)) (hr : meth.sig.returnType = (some .boolean)) (hk : meth.locks = false)   (z : St) (o0 : Nat) (x1 : Int32) (ho0 : kd o0 = 2) {res : St × Int32} (hf : f_X2_holds_4  z o0 x1 = some res) : Zj p l e (rm_X2_holds) s m args below meth c g A 2 (0, 0) (QI g A below args s res) z 4 [(0, .ref (g.1 o0)), (1, .int x1)] [] := by
  unfold f_X2_holds_4 at hf
  refine z_iload_n C dX2_holds_4 rfl 1 rfl ?_
  refine z_aload_n C dX2_holds_5 rfl 0 rfl ?_
  refine gf_X2_23 C dX2_holds_6 ho0 ?_
  exact z_icmp_ge C dX2_holds_9 (by decide) (fun h => z_sub [] rfl (b_X2_holds_22 C hr hk z (q_t hf h))) (fun h => z_sub [1] rfl (b_X2_holds_12 C hr hk z x1 (q_f hf h)))
def f_X2_holds_0  (z : St) (o0 : Nat) (x1 : Int32) : Option (St × Int32) :=
  if x1 < 0 then f_X2_holds_22 z else f_X2_holds_4 z o0 x1
theorem b_X2_holds_0 {p : Program} {l : Launch} {e : Env} {s : State} {m : MethodId} {args : Array Value} {below : List Frame} {meth : Method} {c : Code} {g : Ga} {A : Nat → Prop} (C : Cx l g A p s m args c cX2_holds 2 RX2 (rm_X2_holds) (0, 0)) (hr : meth.sig.returnType = (some .boolean)) (hk : meth.locks = false)   (z : St) (o0 : Nat) (x1 : Int32) (ho0 : kd o0 = 2) {res : St × Int32} (hf : f_X2_holds_0  z o0 x1 = some res) : Zj p l e (rm_X2_holds) s m args below meth c g A 2 (0, 0) (QI g A below args s res) z 0 [(0, .ref (g.1 o0)), (1, .int x1)] [] := by
  unfold f_X2_holds_0 at hf
  refine z_iload_n C dX2_holds_0 rfl 1 rfl ?_
  exact z_if_lt C dX2_holds_1 (by decide) (fun h => z_sub [] rfl (b_X2_holds_22 C hr hk z (q_t hf h))) (fun h => z_sub [0, 1] rfl (b_X2_holds_4 C hr hk z o0 x1 ho0 (q_f hf h)))
def f_X2_holds (z : St) (o0 : Nat) (x1 : Int32) : Option (St × Int32) := f_X2_holds_0 z o0 x1
theorem c_X2_holds {l : Launch} {g : Ga} {A : Nat → Prop} {z : St} {o0 : Nat} {x1 : Int32} (ho0 : kd o0 = 2) {res : St × Int32} (hf : f_X2_holds z o0 x1 = some res) : CI l g A yX2_holds cX2_holds 2 (some .boolean) rm_X2_holds [.ref (g.1 o0), .int x1] z res :=
  e_CI (by decide) (Nat.le_of_ble_eq_true rfl) rfl (fun p e s m args below meth c C hr hk => z_sub [0, 1] rfl (b_X2_holds_0 C hr hk z o0 x1 ho0 hf))
abbrev rm_X2_hasRoom : Room := { frames := 0, cells := 0, slots := 0, locals := 0 }
def f_X2_hasRoom_16  (z : St) (s0 : Int32) : Option (St × Int32) :=
  if zb s0 = true then some (z, s0) else none
theorem b_X2_hasRoom_16 {p : Program} {l : Launch} {e : Env} {s : State} {m : MethodId} {args : Array Value} {below : List Frame} {meth : Method} {c : Code} {g : Ga} {A : Nat → Prop} (C : Cx l g A p s m args c cX2_hasRoom 2 RX2 (rm_X2_hasRoom) (0, 0)) (hr : meth.sig.returnType = (some .boolean)) (hk : meth.locks = false)   (z : St) (s0 : Int32)  {res : St × Int32} (hf : f_X2_hasRoom_16  z s0 = some res) : Zj p l e (rm_X2_hasRoom) s m args below meth c g A 2 (0, 0) (QI g A below args s res) z 16 [] [.int s0] := by
  unfold f_X2_hasRoom_16 at hf
  obtain ⟨h1, hf⟩ := q_ck hf
  cases hf
  exact z_zret C hr hk h1 dX2_hasRoom_16
def f_X2_hasRoom_11  (z : St)  : Option (St × Int32) :=
  f_X2_hasRoom_16 z 1
theorem b_X2_hasRoom_11 {p : Program} {l : Launch} {e : Env} {s : State} {m : MethodId} {args : Array Value} {below : List Frame} {meth : Method} {c : Code} {g : Ga} {A : Nat → Prop} (C : Cx l g A p s m args c cX2_hasRoom 2 RX2 (rm_X2_hasRoom) (0, 0)) (hr : meth.sig.returnType = (some .boolean)) (hk : meth.locks = false)   (z : St)   {res : St × Int32} (hf : f_X2_hasRoom_11  z  = some res) : Zj p l e (rm_X2_hasRoom) s m args below meth c g A 2 (0, 0) (QI g A below args s res) z 11 [] [] := by
  unfold f_X2_hasRoom_11 at hf
  refine z_iconst C dX2_hasRoom_11 (v := 1) (by decide) ?_
  exact z_goto C dX2_hasRoom_12 (by decide) (z_sub [] rfl (b_X2_hasRoom_16 C hr hk z 1 hf))
def f_X2_hasRoom_15  (z : St)  : Option (St × Int32) :=
  f_X2_hasRoom_16 z 0
theorem b_X2_hasRoom_15 {p : Program} {l : Launch} {e : Env} {s : State} {m : MethodId} {args : Array Value} {below : List Frame} {meth : Method} {c : Code} {g : Ga} {A : Nat → Prop} (C : Cx l g A p s m args c cX2_hasRoom 2 RX2 (rm_X2_hasRoom) (0, 0)) (hr : meth.sig.returnType = (some .boolean)) (hk : meth.locks = false)   (z : St)   {res : St × Int32} (hf : f_X2_hasRoom_15  z  = some res) : Zj p l e (rm_X2_hasRoom) s m args below meth c g A 2 (0, 0) (QI g A below args s res) z 15 [] [] := by
  unfold f_X2_hasRoom_15 at hf
  refine z_iconst C dX2_hasRoom_15 (v := 0) (by decide) ?_
  exact z_sub [] rfl (b_X2_hasRoom_16 C hr hk z 0 hf)
def f_X2_hasRoom_0  (z : St) (o0 : Nat) (x1 : Int32) : Option (St × Int32) :=
  if 8 < ((z.1 o0 1) + x1) then f_X2_hasRoom_15 z else f_X2_hasRoom_11 z
theorem b_X2_hasRoom_0 {p : Program} {l : Launch} {e : Env} {s : State} {m : MethodId} {args : Array Value} {below : List Frame} {meth : Method} {c : Code} {g : Ga} {A : Nat → Prop} (C : Cx l g A p s m args c cX2_hasRoom 2 RX2 (rm_X2_hasRoom) (0, 0)) (hr : meth.sig.returnType = (some .boolean)) (hk : meth.locks = false)   (z : St) (o0 : Nat) (x1 : Int32) (ho0 : kd o0 = 2) {res : St × Int32} (hf : f_X2_hasRoom_0  z o0 x1 = some res) : Zj p l e (rm_X2_hasRoom) s m args below meth c g A 2 (0, 0) (QI g A below args s res) z 0 [(0, .ref (g.1 o0)), (1, .int x1)] [] := by
  unfold f_X2_hasRoom_0 at hf
  refine z_aload_n C dX2_hasRoom_0 rfl 0 rfl ?_
  refine gf_X2_23 C dX2_hasRoom_1 ho0 ?_
  refine z_iload_n C dX2_hasRoom_4 rfl 1 rfl ?_
  refine z_iadd C dX2_hasRoom_5 ?_
  refine z_bipush C dX2_hasRoom_6 (v := 8) (by decide) ?_
  exact z_icmp_gt C dX2_hasRoom_8 (by decide) (fun h => z_sub [] rfl (b_X2_hasRoom_15 C hr hk z (q_t hf h))) (fun h => z_sub [] rfl (b_X2_hasRoom_11 C hr hk z (q_f hf h)))
def f_X2_hasRoom (z : St) (o0 : Nat) (x1 : Int32) : Option (St × Int32) := f_X2_hasRoom_0 z o0 x1
theorem c_X2_hasRoom {l : Launch} {g : Ga} {A : Nat → Prop} {z : St} {o0 : Nat} {x1 : Int32} (ho0 : kd o0 = 2) {res : St × Int32} (hf : f_X2_hasRoom z o0 x1 = some res) : CI l g A yX2_hasRoom cX2_hasRoom 2 (some .boolean) rm_X2_hasRoom [.ref (g.1 o0), .int x1] z res :=
  e_CI (by decide) (Nat.le_of_ble_eq_true rfl) rfl (fun p e s m args below meth c C hr hk => z_sub [0, 1] rfl (b_X2_hasRoom_0 C hr hk z o0 x1 ho0 hf))
abbrev rm_X2_value : Room := { frames := 1, cells := 0, slots := 0, locals := 21 }
def f_X2_value_33  (z : St) (s0 : Int32) : Option (St × Int32) :=
  some (z, s0)
theorem b_X2_value_33 {p : Program} {l : Launch} {e : Env} {s : State} {m : MethodId} {args : Array Value} {below : List Frame} {meth : Method} {c : Code} {g : Ga} {A : Nat → Prop} (C : Cx l g A p s m args c cX2_value 3 RX2 (rm_X2_value) (0, 0)) (hr : meth.sig.returnType = (some .int)) (hk : meth.locks = false)   (z : St) (s0 : Int32)  {res : St × Int32} (hf : f_X2_value_33  z s0 = some res) : Zj p l e (rm_X2_value) s m args below meth c g A 3 (0, 0) (QI g A below args s res) z 33 [] [.int s0] := by
  unfold f_X2_value_33 at hf
  cases hf
  exact z_iret C hr hk dX2_value_33
def f_X2_value_21  (z : St) (o0 : Nat) (x1 : Int32) (x2 : Int32) : Option (St × Int32) :=
  if inb x1 4 = true then (if inb x2 8 = true then (f_X2_value_33 z (z.1 (rf (rf o0 0) (Int32.toNatClampNeg x1)) (Int32.toNatClampNeg x2))) else none) else none
theorem b_X2_value_21 {p : Program} {l : Launch} {e : Env} {s : State} {m : MethodId} {args : Array Value} {below : List Frame} {meth : Method} {c : Code} {g : Ga} {A : Nat → Prop} (C : Cx l g A p s m args c cX2_value 3 RX2 (rm_X2_value) (0, 0)) (hr : meth.sig.returnType = (some .int)) (hk : meth.locks = false)   (z : St) (o0 : Nat) (x1 : Int32) (x2 : Int32) (ho0 : kd o0 = 2) {res : St × Int32} (hf : f_X2_value_21  z o0 x1 x2 = some res) : Zj p l e (rm_X2_value) s m args below meth c g A 3 (0, 0) (QI g A below args s res) z 21 [(0, .ref (g.1 o0)), (1, .int x1), (2, .int x2)] [] := by
  unfold f_X2_value_21 at hf
  refine z_aload_n C dX2_value_21 rfl 0 rfl ?_
  refine gf_X2_11 C dX2_value_22 ho0 ?_
  refine z_iload_n C dX2_value_25 rfl 1 rfl ?_
  obtain ⟨h1, hf⟩ := q_ck hf
  refine z_aldG C dX2_value_26 (rt_2_0 _ (kd_lt ho0 (by decide)) ho0) h1 ?_
  refine z_iload_n C dX2_value_27 rfl 2 rfl ?_
  obtain ⟨h2, hf⟩ := q_ck hf
  refine z_iald C (n := 8) dX2_value_28 (rt_51 _ (kd_lt (rt_2_0 _ (kd_lt ho0 (by decide)) ho0) (by decide)) (rt_2_0 _ (kd_lt ho0 (by decide)) ho0) _ (inb_lt h1)) (by decide) h2 ?_
  exact z_goto C dX2_value_29 (by decide) (z_sub [] rfl (b_X2_value_33 C hr hk z (z.1 (rf (rf o0 0) (Int32.toNatClampNeg x1)) (Int32.toNatClampNeg x2)) hf))
def f_X2_value_32  (z : St)  : Option (St × Int32) :=
  f_X2_value_33 z 0
theorem b_X2_value_32 {p : Program} {l : Launch} {e : Env} {s : State} {m : MethodId} {args : Array Value} {below : List Frame} {meth : Method} {c : Code} {g : Ga} {A : Nat → Prop} (C : Cx l g A p s m args c cX2_value 3 RX2 (rm_X2_value) (0, 0)) (hr : meth.sig.returnType = (some .int)) (hk : meth.locks = false)   (z : St)   {res : St × Int32} (hf : f_X2_value_32  z  = some res) : Zj p l e (rm_X2_value) s m args below meth c g A 3 (0, 0) (QI g A below args s res) z 32 [] [] := by
  unfold f_X2_value_32 at hf
  refine z_iconst C dX2_value_32 (v := 0) (by decide) ?_
  exact z_sub [] rfl (b_X2_value_33 C hr hk z 0 hf)
def f_X2_value_13  (z : St) (o0 : Nat) (x1 : Int32) (x2 : Int32) : Option (St × Int32) :=
  ((f_X2_holds z o0 x2).bind fun r1 => if r1.2 = 0 then f_X2_value_32 r1.1 else f_X2_value_21 r1.1 o0 x1 x2)
theorem b_X2_value_13 {p : Program} {l : Launch} {e : Env} {s : State} {m : MethodId} {args : Array Value} {below : List Frame} {meth : Method} {c : Code} {g : Ga} {A : Nat → Prop} (C : Cx l g A p s m args c cX2_value 3 RX2 (rm_X2_value) (0, 0)) (hr : meth.sig.returnType = (some .int)) (hk : meth.locks = false)   (z : St) (o0 : Nat) (x1 : Int32) (x2 : Int32) (ho0 : kd o0 = 2) {res : St × Int32} (hf : f_X2_value_13  z o0 x1 x2 = some res) : Zj p l e (rm_X2_value) s m args below meth c g A 3 (0, 0) (QI g A below args s res) z 13 [(0, .ref (g.1 o0)), (1, .int x1), (2, .int x2)] [] := by
  unfold f_X2_value_13 at hf
  refine z_aload_n C dX2_value_13 rfl 0 rfl ?_
  refine z_iload_n C dX2_value_14 rfl 2 rfl ?_
  obtain ⟨r1, hc2, hf⟩ := q_bd hf
  refine z_cVi C (st := []) (c_X2_holds ho0 hc2) mw_X2_holds ml_X2_27 ho0 (by decide) rfl dX2_value_15 rfl rfl rfl ⟨Nat.le_of_ble_eq_true rfl, Nat.le_of_ble_eq_true rfl⟩ rfl (Nat.le_of_ble_eq_true rfl) ?_
  exact z_if_eq C dX2_value_18 (by decide) (fun h => z_sub [] rfl (b_X2_value_32 C hr hk r1.1 (q_t hf h))) (fun h => z_sub [0, 1, 2] rfl (b_X2_value_21 C hr hk r1.1 o0 x1 x2 ho0 (q_f hf h)))
def f_X2_value_4  (z : St) (o0 : Nat) (x1 : Int32) (x2 : Int32) : Option (St × Int32) :=
  if 4 ≤ x1 then f_X2_value_32 z else f_X2_value_13 z o0 x1 x2
theorem b_X2_value_4 {p : Program} {l : Launch} {e : Env} {s : State} {m : MethodId} {args : Array Value} {below : List Frame} {meth : Method} {c : Code} {g : Ga} {A : Nat → Prop} (C : Cx l g A p s m args c cX2_value 3 RX2 (rm_X2_value) (0, 0)) (hr : meth.sig.returnType = (some .int)) (hk : meth.locks = false)   (z : St) (o0 : Nat) (x1 : Int32) (x2 : Int32) (ho0 : kd o0 = 2) {res : St × Int32} (hf : f_X2_value_4  z o0 x1 x2 = some res) : Zj p l e (rm_X2_value) s m args below meth c g A 3 (0, 0) (QI g A below args s res) z 4 [(0, .ref (g.1 o0)), (1, .int x1), (2, .int x2)] [] := by
  unfold f_X2_value_4 at hf
  refine z_iload_n C dX2_value_4 rfl 1 rfl ?_
  refine z_aload_n C dX2_value_5 rfl 0 rfl ?_
  refine gf_X2_11 C dX2_value_6 ho0 ?_
  refine z_alenG C dX2_value_9 (v := 4) (rt_2_0 _ (kd_lt ho0 (by decide)) ho0) rfl ?_
  exact z_icmp_ge C dX2_value_10 (by decide) (fun h => z_sub [] rfl (b_X2_value_32 C hr hk z (q_t hf h))) (fun h => z_sub [0, 1, 2] rfl (b_X2_value_13 C hr hk z o0 x1 x2 ho0 (q_f hf h)))
def f_X2_value_0  (z : St) (o0 : Nat) (x1 : Int32) (x2 : Int32) : Option (St × Int32) :=
  if x1 < 0 then f_X2_value_32 z else f_X2_value_4 z o0 x1 x2
theorem b_X2_value_0 {p : Program} {l : Launch} {e : Env} {s : State} {m : MethodId} {args : Array Value} {below : List Frame} {meth : Method} {c : Code} {g : Ga} {A : Nat → Prop} (C : Cx l g A p s m args c cX2_value 3 RX2 (rm_X2_value) (0, 0)) (hr : meth.sig.returnType = (some .int)) (hk : meth.locks = false)   (z : St) (o0 : Nat) (x1 : Int32) (x2 : Int32) (ho0 : kd o0 = 2) {res : St × Int32} (hf : f_X2_value_0  z o0 x1 x2 = some res) : Zj p l e (rm_X2_value) s m args below meth c g A 3 (0, 0) (QI g A below args s res) z 0 [(0, .ref (g.1 o0)), (1, .int x1), (2, .int x2)] [] := by
  unfold f_X2_value_0 at hf
  refine z_iload_n C dX2_value_0 rfl 1 rfl ?_
  exact z_if_lt C dX2_value_1 (by decide) (fun h => z_sub [] rfl (b_X2_value_32 C hr hk z (q_t hf h))) (fun h => z_sub [0, 1, 2] rfl (b_X2_value_4 C hr hk z o0 x1 x2 ho0 (q_f hf h)))
def f_X2_value (z : St) (o0 : Nat) (x1 : Int32) (x2 : Int32) : Option (St × Int32) := f_X2_value_0 z o0 x1 x2
theorem c_X2_value {l : Launch} {g : Ga} {A : Nat → Prop} {z : St} {o0 : Nat} {x1 : Int32} {x2 : Int32} (ho0 : kd o0 = 2) {res : St × Int32} (hf : f_X2_value z o0 x1 x2 = some res) : CI l g A yX2_value cX2_value 3 (some .int) rm_X2_value [.ref (g.1 o0), .int x1, .int x2] z res :=
  e_CI (by decide) (Nat.le_of_ble_eq_true rfl) rfl (fun p e s m args below meth c C hr hk => z_sub [0, 1, 2] rfl (b_X2_value_0 C hr hk z o0 x1 x2 ho0 hf))
abbrev rm_X2_change : Room := { frames := 1, cells := 0, slots := 0, locals := 21 }
def f_X2_change_30  (z : St)  : Option (St) :=
  some z
theorem b_X2_change_30 {p : Program} {l : Launch} {e : Env} {s : State} {m : MethodId} {args : Array Value} {below : List Frame} {meth : Method} {c : Code} {g : Ga} {A : Nat → Prop} (C : Cx l g A p s m args c cX2_change 4 RX2 (rm_X2_change) (0, 0)) (hr : meth.sig.returnType = none) (hk : meth.locks = false)   (z : St)   {res : St} (hf : f_X2_change_30  z  = some res) : Zj p l e (rm_X2_change) s m args below meth c g A 4 (0, 0) (QV g A below args s res) z 30 [] [] := by
  unfold f_X2_change_30 at hf
  cases hf
  exact z_vret C hr hk dX2_change_30
def f_X2_change_21  (z : St) (o0 : Nat) (x1 : Int32) (x2 : Int32) (x3 : Int32) : Option (St) :=
  if inb x1 4 = true then (if inb x2 8 = true then (f_X2_change_30 (zI z (rf (rf o0 0) (Int32.toNatClampNeg x1)) (Int32.toNatClampNeg x2) x3)) else none) else none
theorem b_X2_change_21 {p : Program} {l : Launch} {e : Env} {s : State} {m : MethodId} {args : Array Value} {below : List Frame} {meth : Method} {c : Code} {g : Ga} {A : Nat → Prop} (C : Cx l g A p s m args c cX2_change 4 RX2 (rm_X2_change) (0, 0)) (hr : meth.sig.returnType = none) (hk : meth.locks = false)   (z : St) (o0 : Nat) (x1 : Int32) (x2 : Int32) (x3 : Int32) (ho0 : kd o0 = 2) {res : St} (hf : f_X2_change_21  z o0 x1 x2 x3 = some res) : Zj p l e (rm_X2_change) s m args below meth c g A 4 (0, 0) (QV g A below args s res) z 21 [(0, .ref (g.1 o0)), (1, .int x1), (2, .int x2), (3, .int x3)] [] := by
  unfold f_X2_change_21 at hf
  refine z_aload_n C dX2_change_21 rfl 0 rfl ?_
  refine gf_X2_11 C dX2_change_22 ho0 ?_
  refine z_iload_n C dX2_change_25 rfl 1 rfl ?_
  obtain ⟨h1, hf⟩ := q_ck hf
  refine z_aldG C dX2_change_26 (rt_2_0 _ (kd_lt ho0 (by decide)) ho0) h1 ?_
  refine z_iload_n C dX2_change_27 rfl 2 rfl ?_
  refine z_iload_n C dX2_change_28 rfl 3 rfl ?_
  obtain ⟨h2, hf⟩ := q_ck hf
  refine z_iast C (n := 8) dX2_change_29 (rt_51 _ (kd_lt (rt_2_0 _ (kd_lt ho0 (by decide)) ho0) (by decide)) (rt_2_0 _ (kd_lt ho0 (by decide)) ho0) _ (inb_lt h1)) (by decide) h2 ?_
  exact z_sub [] rfl (b_X2_change_30 C hr hk (zI z (rf (rf o0 0) (Int32.toNatClampNeg x1)) (Int32.toNatClampNeg x2) x3) hf)
def f_X2_change_13  (z : St) (o0 : Nat) (x1 : Int32) (x2 : Int32) (x3 : Int32) : Option (St) :=
  ((f_X2_holds z o0 x2).bind fun r1 => if r1.2 = 0 then f_X2_change_30 r1.1 else f_X2_change_21 r1.1 o0 x1 x2 x3)
theorem b_X2_change_13 {p : Program} {l : Launch} {e : Env} {s : State} {m : MethodId} {args : Array Value} {below : List Frame} {meth : Method} {c : Code} {g : Ga} {A : Nat → Prop} (C : Cx l g A p s m args c cX2_change 4 RX2 (rm_X2_change) (0, 0)) (hr : meth.sig.returnType = none) (hk : meth.locks = false)   (z : St) (o0 : Nat) (x1 : Int32) (x2 : Int32) (x3 : Int32) (ho0 : kd o0 = 2) {res : St} (hf : f_X2_change_13  z o0 x1 x2 x3 = some res) : Zj p l e (rm_X2_change) s m args below meth c g A 4 (0, 0) (QV g A below args s res) z 13 [(0, .ref (g.1 o0)), (1, .int x1), (2, .int x2), (3, .int x3)] [] := by
  unfold f_X2_change_13 at hf
  refine z_aload_n C dX2_change_13 rfl 0 rfl ?_
  refine z_iload_n C dX2_change_14 rfl 2 rfl ?_
  obtain ⟨r1, hc2, hf⟩ := q_bd hf
  refine z_cVi C (st := []) (c_X2_holds ho0 hc2) mw_X2_holds ml_X2_27 ho0 (by decide) rfl dX2_change_15 rfl rfl rfl ⟨Nat.le_of_ble_eq_true rfl, Nat.le_of_ble_eq_true rfl⟩ rfl (Nat.le_of_ble_eq_true rfl) ?_
  exact z_if_eq C dX2_change_18 (by decide) (fun h => z_sub [] rfl (b_X2_change_30 C hr hk r1.1 (q_t hf h))) (fun h => z_sub [0, 1, 2, 3] rfl (b_X2_change_21 C hr hk r1.1 o0 x1 x2 x3 ho0 (q_f hf h)))
def f_X2_change_4  (z : St) (o0 : Nat) (x1 : Int32) (x2 : Int32) (x3 : Int32) : Option (St) :=
  if 4 ≤ x1 then f_X2_change_30 z else f_X2_change_13 z o0 x1 x2 x3
theorem b_X2_change_4 {p : Program} {l : Launch} {e : Env} {s : State} {m : MethodId} {args : Array Value} {below : List Frame} {meth : Method} {c : Code} {g : Ga} {A : Nat → Prop} (C : Cx l g A p s m args c cX2_change 4 RX2 (rm_X2_change) (0, 0)) (hr : meth.sig.returnType = none) (hk : meth.locks = false)   (z : St) (o0 : Nat) (x1 : Int32) (x2 : Int32) (x3 : Int32) (ho0 : kd o0 = 2) {res : St} (hf : f_X2_change_4  z o0 x1 x2 x3 = some res) : Zj p l e (rm_X2_change) s m args below meth c g A 4 (0, 0) (QV g A below args s res) z 4 [(0, .ref (g.1 o0)), (1, .int x1), (2, .int x2), (3, .int x3)] [] := by
  unfold f_X2_change_4 at hf
  refine z_iload_n C dX2_change_4 rfl 1 rfl ?_
  refine z_aload_n C dX2_change_5 rfl 0 rfl ?_
  refine gf_X2_11 C dX2_change_6 ho0 ?_
  refine z_alenG C dX2_change_9 (v := 4) (rt_2_0 _ (kd_lt ho0 (by decide)) ho0) rfl ?_
  exact z_icmp_ge C dX2_change_10 (by decide) (fun h => z_sub [] rfl (b_X2_change_30 C hr hk z (q_t hf h))) (fun h => z_sub [0, 1, 2, 3] rfl (b_X2_change_13 C hr hk z o0 x1 x2 x3 ho0 (q_f hf h)))
def f_X2_change_0  (z : St) (o0 : Nat) (x1 : Int32) (x2 : Int32) (x3 : Int32) : Option (St) :=
  if x1 < 0 then f_X2_change_30 z else f_X2_change_4 z o0 x1 x2 x3
theorem b_X2_change_0 {p : Program} {l : Launch} {e : Env} {s : State} {m : MethodId} {args : Array Value} {below : List Frame} {meth : Method} {c : Code} {g : Ga} {A : Nat → Prop} (C : Cx l g A p s m args c cX2_change 4 RX2 (rm_X2_change) (0, 0)) (hr : meth.sig.returnType = none) (hk : meth.locks = false)   (z : St) (o0 : Nat) (x1 : Int32) (x2 : Int32) (x3 : Int32) (ho0 : kd o0 = 2) {res : St} (hf : f_X2_change_0  z o0 x1 x2 x3 = some res) : Zj p l e (rm_X2_change) s m args below meth c g A 4 (0, 0) (QV g A below args s res) z 0 [(0, .ref (g.1 o0)), (1, .int x1), (2, .int x2), (3, .int x3)] [] := by
  unfold f_X2_change_0 at hf
  refine z_iload_n C dX2_change_0 rfl 1 rfl ?_
  exact z_if_lt C dX2_change_1 (by decide) (fun h => z_sub [] rfl (b_X2_change_30 C hr hk z (q_t hf h))) (fun h => z_sub [0, 1, 2, 3] rfl (b_X2_change_4 C hr hk z o0 x1 x2 x3 ho0 (q_f hf h)))
def f_X2_change (z : St) (o0 : Nat) (x1 : Int32) (x2 : Int32) (x3 : Int32) : Option (St) := f_X2_change_0 z o0 x1 x2 x3
theorem c_X2_change {l : Launch} {g : Ga} {A : Nat → Prop} {z : St} {o0 : Nat} {x1 : Int32} {x2 : Int32} {x3 : Int32} (ho0 : kd o0 = 2) {res : St} (hf : f_X2_change z o0 x1 x2 x3 = some res) : CV l g A yX2_change cX2_change 4 none rm_X2_change [.ref (g.1 o0), .int x1, .int x2, .int x3] z res :=
  e_CV (by decide) (Nat.le_of_ble_eq_true rfl) rfl (fun p e s m args below meth c C hr hk => z_sub [0, 1, 2, 3] rfl (b_X2_change_0 C hr hk z o0 x1 x2 x3 ho0 hf))
abbrev rm_X2_clear : Room := { frames := 0, cells := 0, slots := 0, locals := 0 }
def f_X2_clear_0  (z : St) (o0 : Nat) : Option (St) :=
  some (zI z o0 1 0)
theorem b_X2_clear_0 {p : Program} {l : Launch} {e : Env} {s : State} {m : MethodId} {args : Array Value} {below : List Frame} {meth : Method} {c : Code} {g : Ga} {A : Nat → Prop} (C : Cx l g A p s m args c cX2_clear 1 RX2 (rm_X2_clear) (0, 0)) (hr : meth.sig.returnType = none) (hk : meth.locks = false)   (z : St) (o0 : Nat) (ho0 : kd o0 = 2) {res : St} (hf : f_X2_clear_0  z o0 = some res) : Zj p l e (rm_X2_clear) s m args below meth c g A 1 (0, 0) (QV g A below args s res) z 0 [(0, .ref (g.1 o0))] [] := by
  unfold f_X2_clear_0 at hf
  refine z_aload_n C dX2_clear_0 rfl 0 rfl ?_
  refine z_iconst C dX2_clear_1 (v := 0) (by decide) ?_
  refine pf_X2_23 C dX2_clear_2 ho0 ?_
  cases hf
  exact z_vret C hr hk dX2_clear_5
def f_X2_clear (z : St) (o0 : Nat) : Option (St) := f_X2_clear_0 z o0
theorem c_X2_clear {l : Launch} {g : Ga} {A : Nat → Prop} {z : St} {o0 : Nat} (ho0 : kd o0 = 2) {res : St} (hf : f_X2_clear z o0 = some res) : CV l g A yX2_clear cX2_clear 1 none rm_X2_clear [.ref (g.1 o0)] z res :=
  e_CV (by decide) (Nat.le_of_ble_eq_true rfl) rfl (fun p e s m args below meth c C hr hk => z_sub [0] rfl (b_X2_clear_0 C hr hk z o0 ho0 hf))
abbrev rm_X2_add : Room := { frames := 2, cells := 0, slots := 0, locals := 44 }
def f_X2_add_8  (z : St)  : Option (St) :=
  some z
theorem b_X2_add_8 {p : Program} {l : Launch} {e : Env} {s : State} {m : MethodId} {args : Array Value} {below : List Frame} {meth : Method} {c : Code} {g : Ga} {A : Nat → Prop} (C : Cx l g A p s m args c cX2_add 6 RX2 (rm_X2_add) (0, 0)) (hr : meth.sig.returnType = none) (hk : meth.locks = false)   (z : St)   {res : St} (hf : f_X2_add_8  z  = some res) : Zj p l e (rm_X2_add) s m args below meth c g A 6 (0, 0) (QV g A below args s res) z 8 [] [] := by
  unfold f_X2_add_8 at hf
  cases hf
  exact z_vret C hr hk dX2_add_8
def f_X2_add_9  (z : St) (o0 : Nat) (x1 : Int32) (x2 : Int32) (x3 : Int32) (x4 : Int32) : Option (St) :=
  ((f_X2_change (zI z o0 1 ((z.1 o0 1) + 1)) o0 0 (z.1 o0 1) x1).bind fun r1 => ((f_X2_change r1 o0 1 (z.1 o0 1) x2).bind fun r3 => ((f_X2_change r3 o0 2 (z.1 o0 1) x3).bind fun r5 => ((f_X2_change r5 o0 3 (z.1 o0 1) x4).bind fun r7 => some r7))))
theorem b_X2_add_9 {p : Program} {l : Launch} {e : Env} {s : State} {m : MethodId} {args : Array Value} {below : List Frame} {meth : Method} {c : Code} {g : Ga} {A : Nat → Prop} (C : Cx l g A p s m args c cX2_add 6 RX2 (rm_X2_add) (0, 0)) (hr : meth.sig.returnType = none) (hk : meth.locks = false)   (z : St) (o0 : Nat) (x1 : Int32) (x2 : Int32) (x3 : Int32) (x4 : Int32) (ho0 : kd o0 = 2) {res : St} (hf : f_X2_add_9  z o0 x1 x2 x3 x4 = some res) : Zj p l e (rm_X2_add) s m args below meth c g A 6 (0, 0) (QV g A below args s res) z 9 [(0, .ref (g.1 o0)), (1, .int x1), (2, .int x2), (3, .int x3), (4, .int x4)] [] := by
  unfold f_X2_add_9 at hf
  refine z_aload_n C dX2_add_9 rfl 0 rfl ?_
  refine gf_X2_23 C dX2_add_10 ho0 ?_
  refine z_istore C (lv2 := [(5, .int (z.1 o0 1)), (0, .ref (g.1 o0)), (1, .int x1), (2, .int x2), (3, .int x3), (4, .int x4)]) dX2_add_13 (by decide) rfl ?_
  refine z_aload_n C dX2_add_15 rfl 1 rfl ?_
  refine z_dup C dX2_add_16 rfl ?_
  refine gf_X2_23 C dX2_add_17 ho0 ?_
  refine z_iconst C dX2_add_20 (v := 1) (by decide) ?_
  refine z_iadd C dX2_add_21 ?_
  refine pf_X2_23 C dX2_add_22 ho0 ?_
  refine z_aload_n C dX2_add_25 rfl 1 rfl ?_
  refine z_iconst C dX2_add_26 (v := 0) (by decide) ?_
  refine z_iload C dX2_add_27 0 rfl ?_
  refine z_iload_n C dX2_add_29 rfl 2 rfl ?_
  obtain ⟨r1, hc2, hf⟩ := q_bd hf
  refine z_cVv C (st := []) (c_X2_change ho0 hc2) mw_X2_change ml_X2_34 ho0 (by decide) rfl dX2_add_30 rfl rfl rfl ⟨Nat.le_of_ble_eq_true rfl, Nat.le_of_ble_eq_true rfl⟩ rfl (Nat.le_of_ble_eq_true rfl) ?_
  refine z_aload_n C dX2_add_33 rfl 1 rfl ?_
  refine z_iconst C dX2_add_34 (v := 1) (by decide) ?_
  refine z_iload C dX2_add_35 0 rfl ?_
  refine z_iload_n C dX2_add_37 rfl 3 rfl ?_
  obtain ⟨r3, hc4, hf⟩ := q_bd hf
  refine z_cVv C (st := []) (c_X2_change ho0 hc4) mw_X2_change ml_X2_34 ho0 (by decide) rfl dX2_add_38 rfl rfl rfl ⟨Nat.le_of_ble_eq_true rfl, Nat.le_of_ble_eq_true rfl⟩ rfl (Nat.le_of_ble_eq_true rfl) ?_
  refine z_aload_n C dX2_add_41 rfl 1 rfl ?_
  refine z_iconst C dX2_add_42 (v := 2) (by decide) ?_
  refine z_iload C dX2_add_43 0 rfl ?_
  refine z_iload_n C dX2_add_45 rfl 4 rfl ?_
  obtain ⟨r5, hc6, hf⟩ := q_bd hf
  refine z_cVv C (st := []) (c_X2_change ho0 hc6) mw_X2_change ml_X2_34 ho0 (by decide) rfl dX2_add_46 rfl rfl rfl ⟨Nat.le_of_ble_eq_true rfl, Nat.le_of_ble_eq_true rfl⟩ rfl (Nat.le_of_ble_eq_true rfl) ?_
  refine z_aload_n C dX2_add_49 rfl 1 rfl ?_
  refine z_iconst C dX2_add_50 (v := 3) (by decide) ?_
  refine z_iload C dX2_add_51 0 rfl ?_
  refine z_iload C dX2_add_53 5 rfl ?_
  obtain ⟨r7, hc8, hf⟩ := q_bd hf
  refine z_cVv C (st := []) (c_X2_change ho0 hc8) mw_X2_change ml_X2_34 ho0 (by decide) rfl dX2_add_55 rfl rfl rfl ⟨Nat.le_of_ble_eq_true rfl, Nat.le_of_ble_eq_true rfl⟩ rfl (Nat.le_of_ble_eq_true rfl) ?_
  cases hf
  exact z_vret C hr hk dX2_add_58
def f_X2_add_0  (z : St) (o0 : Nat) (x1 : Int32) (x2 : Int32) (x3 : Int32) (x4 : Int32) : Option (St) :=
  ((f_X2_hasRoom z o0 1).bind fun r1 => if r1.2 = 0 then f_X2_add_8 r1.1 else f_X2_add_9 r1.1 o0 x1 x2 x3 x4)
theorem b_X2_add_0 {p : Program} {l : Launch} {e : Env} {s : State} {m : MethodId} {args : Array Value} {below : List Frame} {meth : Method} {c : Code} {g : Ga} {A : Nat → Prop} (C : Cx l g A p s m args c cX2_add 6 RX2 (rm_X2_add) (0, 0)) (hr : meth.sig.returnType = none) (hk : meth.locks = false)   (z : St) (o0 : Nat) (x1 : Int32) (x2 : Int32) (x3 : Int32) (x4 : Int32) (ho0 : kd o0 = 2) {res : St} (hf : f_X2_add_0  z o0 x1 x2 x3 x4 = some res) : Zj p l e (rm_X2_add) s m args below meth c g A 6 (0, 0) (QV g A below args s res) z 0 [(0, .ref (g.1 o0)), (1, .int x1), (2, .int x2), (3, .int x3), (4, .int x4)] [] := by
  unfold f_X2_add_0 at hf
  refine z_aload_n C dX2_add_0 rfl 0 rfl ?_
  refine z_iconst C dX2_add_1 (v := 1) (by decide) ?_
  obtain ⟨r1, hc2, hf⟩ := q_bd hf
  refine z_cVi C (st := []) (c_X2_hasRoom ho0 hc2) mw_X2_hasRoom ml_X2_31 ho0 (by decide) rfl dX2_add_2 rfl rfl rfl ⟨Nat.le_of_ble_eq_true rfl, Nat.le_of_ble_eq_true rfl⟩ rfl (Nat.le_of_ble_eq_true rfl) ?_
  exact z_if_ne C dX2_add_5 (by decide) (fun h => z_sub [0, 1, 2, 3, 4] rfl (b_X2_add_9 C hr hk r1.1 o0 x1 x2 x3 x4 ho0 (q_f hf h))) (fun h => z_sub [] rfl (b_X2_add_8 C hr hk r1.1 (q_t hf h)))
def f_X2_add (z : St) (o0 : Nat) (x1 : Int32) (x2 : Int32) (x3 : Int32) (x4 : Int32) : Option (St) := f_X2_add_0 z o0 x1 x2 x3 x4
theorem c_X2_add {l : Launch} {g : Ga} {A : Nat → Prop} {z : St} {o0 : Nat} {x1 : Int32} {x2 : Int32} {x3 : Int32} {x4 : Int32} (ho0 : kd o0 = 2) {res : St} (hf : f_X2_add z o0 x1 x2 x3 x4 = some res) : CV l g A yX2_add cX2_add 6 none rm_X2_add [.ref (g.1 o0), .int x1, .int x2, .int x3, .int x4] z res :=
  e_CV (by decide) (Nat.le_of_ble_eq_true rfl) rfl (fun p e s m args below meth c C hr hk => z_sub [0, 1, 2, 3, 4] rfl (b_X2_add_0 C hr hk z o0 x1 x2 x3 x4 ho0 hf))
abbrev rm_X2_addAll : Room := { frames := 3, cells := 0, slots := 0, locals := 69 }
def f_X2_addAll_10 (K2 : St → Nat → Nat → Int32 → Option (St)) (z : St) (o0 : Nat) (o1 : Nat) (x2 : Int32) : Option (St) :=
  ((f_X2_value z o1 0 x2).bind fun r1 => ((f_X2_value r1.1 o1 1 x2).bind fun r3 => ((f_X2_value r3.1 o1 2 x2).bind fun r5 => ((f_X2_value r5.1 o1 3 x2).bind fun r7 => ((f_X2_add r7.1 o0 r1.2 r3.2 r5.2 r7.2).bind fun r9 => K2 r9 o0 o1 (x2 + 1))))))
theorem b_X2_addAll_10 {p : Program} {l : Launch} {e : Env} {s : State} {m : MethodId} {args : Array Value} {below : List Frame} {meth : Method} {c : Code} {g : Ga} {A : Nat → Prop} (C : Cx l g A p s m args c cX2_addAll 3 RX2 (rm_X2_addAll) (0, 0)) (hr : meth.sig.returnType = none) (hk : meth.locks = false) {K2 : St → Nat → Nat → Int32 → Option (St)} (hK2 : ∀ (z : St) (o0 : Nat) (o1 : Nat) (x2 : Int32) (_ : kd o0 = 2) (_ : kd o1 = 2) {res : St}, K2 z o0 o1 x2 = some res → Zj p l e (rm_X2_addAll) s m args below meth c g A 3 (0, 0) (QV g A below args s res) z 2 [(0, .ref (g.1 o0)), (1, .ref (g.1 o1)), (2, .int x2)] []) (z : St) (o0 : Nat) (o1 : Nat) (x2 : Int32) (ho0 : kd o0 = 2) (ho1 : kd o1 = 2) {res : St} (hf : f_X2_addAll_10 K2 z o0 o1 x2 = some res) : Zj p l e (rm_X2_addAll) s m args below meth c g A 3 (0, 0) (QV g A below args s res) z 10 [(0, .ref (g.1 o0)), (1, .ref (g.1 o1)), (2, .int x2)] [] := by
  unfold f_X2_addAll_10 at hf
  refine z_aload_n C dX2_addAll_10 rfl 0 rfl ?_
  refine z_aload_n C dX2_addAll_11 rfl 1 rfl ?_
  refine z_iconst C dX2_addAll_12 (v := 0) (by decide) ?_
  refine z_iload_n C dX2_addAll_13 rfl 2 rfl ?_
  obtain ⟨r1, hc2, hf⟩ := q_bd hf
  refine z_cVi C (st := [.ref (g.1 o0)]) (c_X2_value ho1 hc2) mw_X2_value ml_X2_38 ho1 (by decide) rfl dX2_addAll_14 rfl rfl rfl ⟨Nat.le_of_ble_eq_true rfl, Nat.le_of_ble_eq_true rfl⟩ rfl (Nat.le_of_ble_eq_true rfl) ?_
  refine z_aload_n C dX2_addAll_17 rfl 1 rfl ?_
  refine z_iconst C dX2_addAll_18 (v := 1) (by decide) ?_
  refine z_iload_n C dX2_addAll_19 rfl 2 rfl ?_
  obtain ⟨r3, hc4, hf⟩ := q_bd hf
  refine z_cVi C (st := [.int r1.2, .ref (g.1 o0)]) (c_X2_value ho1 hc4) mw_X2_value ml_X2_38 ho1 (by decide) rfl dX2_addAll_20 rfl rfl rfl ⟨Nat.le_of_ble_eq_true rfl, Nat.le_of_ble_eq_true rfl⟩ rfl (Nat.le_of_ble_eq_true rfl) ?_
  refine z_aload_n C dX2_addAll_23 rfl 1 rfl ?_
  refine z_iconst C dX2_addAll_24 (v := 2) (by decide) ?_
  refine z_iload_n C dX2_addAll_25 rfl 2 rfl ?_
  obtain ⟨r5, hc6, hf⟩ := q_bd hf
  refine z_cVi C (st := [.int r3.2, .int r1.2, .ref (g.1 o0)]) (c_X2_value ho1 hc6) mw_X2_value ml_X2_38 ho1 (by decide) rfl dX2_addAll_26 rfl rfl rfl ⟨Nat.le_of_ble_eq_true rfl, Nat.le_of_ble_eq_true rfl⟩ rfl (Nat.le_of_ble_eq_true rfl) ?_
  refine z_aload_n C dX2_addAll_29 rfl 1 rfl ?_
  refine z_iconst C dX2_addAll_30 (v := 3) (by decide) ?_
  refine z_iload_n C dX2_addAll_31 rfl 2 rfl ?_
  obtain ⟨r7, hc8, hf⟩ := q_bd hf
  refine z_cVi C (st := [.int r5.2, .int r3.2, .int r1.2, .ref (g.1 o0)]) (c_X2_value ho1 hc8) mw_X2_value ml_X2_38 ho1 (by decide) rfl dX2_addAll_32 rfl rfl rfl ⟨Nat.le_of_ble_eq_true rfl, Nat.le_of_ble_eq_true rfl⟩ rfl (Nat.le_of_ble_eq_true rfl) ?_
  obtain ⟨r9, hc10, hf⟩ := q_bd hf
  refine z_cVv C (st := []) (c_X2_add ho0 hc10) mw_X2_add ml_X2_42 ho0 (by decide) rfl dX2_addAll_35 rfl rfl rfl ⟨Nat.le_of_ble_eq_true rfl, Nat.le_of_ble_eq_true rfl⟩ rfl (Nat.le_of_ble_eq_true rfl) ?_
  refine z_iinc C (k := 2) (v := x2 + 1) (lv2 := [(2, .int (x2 + 1)), (0, .ref (g.1 o0)), (1, .ref (g.1 o1))]) dX2_addAll_38 rfl rfl (by decide) rfl ?_
  exact z_goto C dX2_addAll_41 (by decide) (z_sub [1, 2, 0] rfl (hK2 r9 o0 o1 (x2 + 1) ho0 ho1 hf))
def f_X2_addAll_44  (z : St)  : Option (St) :=
  some z
theorem b_X2_addAll_44 {p : Program} {l : Launch} {e : Env} {s : State} {m : MethodId} {args : Array Value} {below : List Frame} {meth : Method} {c : Code} {g : Ga} {A : Nat → Prop} (C : Cx l g A p s m args c cX2_addAll 3 RX2 (rm_X2_addAll) (0, 0)) (hr : meth.sig.returnType = none) (hk : meth.locks = false)   (z : St)   {res : St} (hf : f_X2_addAll_44  z  = some res) : Zj p l e (rm_X2_addAll) s m args below meth c g A 3 (0, 0) (QV g A below args s res) z 44 [] [] := by
  unfold f_X2_addAll_44 at hf
  cases hf
  exact z_vret C hr hk dX2_addAll_44
def f_X2_addAll_2  : Nat → St → Nat → Nat → Int32 → Option (St)
  | 0, _, _, _, _ => none
  | n + 1, z, o0, o1, x2 => if (z.1 o1 1) ≤ x2 then f_X2_addAll_44 z else f_X2_addAll_10 (f_X2_addAll_2 n) z o0 o1 x2
theorem b_X2_addAll_2 {p : Program} {l : Launch} {e : Env} {s : State} {m : MethodId} {args : Array Value} {below : List Frame} {meth : Method} {c : Code} {g : Ga} {A : Nat → Prop} (C : Cx l g A p s m args c cX2_addAll 3 RX2 (rm_X2_addAll) (0, 0)) (hr : meth.sig.returnType = none) (hk : meth.locks = false)   : ∀ (n : Nat) (z : St) (o0 : Nat) (o1 : Nat) (x2 : Int32) (_ : kd o0 = 2) (_ : kd o1 = 2) {res : St} (_ : f_X2_addAll_2  n z o0 o1 x2 = some res), Zj p l e (rm_X2_addAll) s m args below meth c g A 3 (0, 0) (QV g A below args s res) z 2 [(0, .ref (g.1 o0)), (1, .ref (g.1 o1)), (2, .int x2)] [] := by
  intro n
  induction n with
  | zero =>
    intro z o0 o1 x2 ho0 ho1 res hf
    cases hf
  | succ n ih =>
    intro z o0 o1 x2 ho0 ho1 res hf
    rw [f_X2_addAll_2] at hf
    refine z_iload_n C dX2_addAll_2 rfl 2 rfl ?_
    refine z_aload_n C dX2_addAll_3 rfl 1 rfl ?_
    refine gf_X2_23 C dX2_addAll_4 ho1 ?_
    exact z_icmp_ge C dX2_addAll_7 (by decide) (fun h => z_sub [] rfl (b_X2_addAll_44 C hr hk z (q_t hf h))) (fun h => z_sub [0, 1, 2] rfl (b_X2_addAll_10 C hr hk ih z o0 o1 x2 ho0 ho1 (q_f hf h)))
def f_X2_addAll_0  (z : St) (o0 : Nat) (o1 : Nat) : Option (St) :=
  f_X2_addAll_2 FU z o0 o1 0
theorem b_X2_addAll_0 {p : Program} {l : Launch} {e : Env} {s : State} {m : MethodId} {args : Array Value} {below : List Frame} {meth : Method} {c : Code} {g : Ga} {A : Nat → Prop} (C : Cx l g A p s m args c cX2_addAll 3 RX2 (rm_X2_addAll) (0, 0)) (hr : meth.sig.returnType = none) (hk : meth.locks = false)   (z : St) (o0 : Nat) (o1 : Nat) (ho0 : kd o0 = 2) (ho1 : kd o1 = 2) {res : St} (hf : f_X2_addAll_0  z o0 o1 = some res) : Zj p l e (rm_X2_addAll) s m args below meth c g A 3 (0, 0) (QV g A below args s res) z 0 [(0, .ref (g.1 o0)), (1, .ref (g.1 o1))] [] := by
  unfold f_X2_addAll_0 at hf
  refine z_iconst C dX2_addAll_0 (v := 0) (by decide) ?_
  refine z_istore_n C (lv2 := [(2, .int 0), (0, .ref (g.1 o0)), (1, .ref (g.1 o1))]) dX2_addAll_1 rfl (by decide) rfl ?_
  exact z_sub [1, 2, 0] rfl (b_X2_addAll_2 C hr hk FU z o0 o1 0 ho0 ho1 hf)
def f_X2_addAll (z : St) (o0 : Nat) (o1 : Nat) : Option (St) := f_X2_addAll_0 z o0 o1
theorem c_X2_addAll {l : Launch} {g : Ga} {A : Nat → Prop} {z : St} {o0 : Nat} {o1 : Nat} (ho0 : kd o0 = 2) (ho1 : kd o1 = 2) {res : St} (hf : f_X2_addAll z o0 o1 = some res) : CV l g A yX2_addAll cX2_addAll 3 none rm_X2_addAll [.ref (g.1 o0), .ref (g.1 o1)] z res :=
  e_CV (by decide) (Nat.le_of_ble_eq_true rfl) rfl (fun p e s m args below meth c C hr hk => z_sub [0, 1] rfl (b_X2_addAll_0 C hr hk z o0 o1 ho0 ho1 hf))
abbrev rm_X2_becomeAs : Room := { frames := 4, cells := 0, slots := 0, locals := 91 }
def f_X2_becomeAs_0  (z : St) (o0 : Nat) (o1 : Nat) : Option (St) :=
  ((f_X2_clear z o0).bind fun r1 => ((f_X2_addAll r1 o0 o1).bind fun r3 => some r3))
theorem b_X2_becomeAs_0 {p : Program} {l : Launch} {e : Env} {s : State} {m : MethodId} {args : Array Value} {below : List Frame} {meth : Method} {c : Code} {g : Ga} {A : Nat → Prop} (C : Cx l g A p s m args c cX2_becomeAs 2 RX2 (rm_X2_becomeAs) (0, 0)) (hr : meth.sig.returnType = none) (hk : meth.locks = false)   (z : St) (o0 : Nat) (o1 : Nat) (ho0 : kd o0 = 2) (ho1 : kd o1 = 2) {res : St} (hf : f_X2_becomeAs_0  z o0 o1 = some res) : Zj p l e (rm_X2_becomeAs) s m args below meth c g A 2 (0, 0) (QV g A below args s res) z 0 [(0, .ref (g.1 o0)), (1, .ref (g.1 o1))] [] := by
  unfold f_X2_becomeAs_0 at hf
  refine z_aload_n C dX2_becomeAs_0 rfl 0 rfl ?_
  obtain ⟨r1, hc2, hf⟩ := q_bd hf
  refine z_cVv C (st := []) (c_X2_clear ho0 hc2) mw_X2_clear ml_X2_46 ho0 (by decide) rfl dX2_becomeAs_1 rfl rfl rfl ⟨Nat.le_of_ble_eq_true rfl, Nat.le_of_ble_eq_true rfl⟩ rfl (Nat.le_of_ble_eq_true rfl) ?_
  refine z_aload_n C dX2_becomeAs_4 rfl 0 rfl ?_
  refine z_aload_n C dX2_becomeAs_5 rfl 1 rfl ?_
  obtain ⟨r3, hc4, hf⟩ := q_bd hf
  refine z_cVv C (st := []) (c_X2_addAll ho0 ho1 hc4) mw_X2_addAll ml_X2_49 ho0 (by decide) rfl dX2_becomeAs_6 rfl rfl rfl ⟨Nat.le_of_ble_eq_true rfl, Nat.le_of_ble_eq_true rfl⟩ rfl (Nat.le_of_ble_eq_true rfl) ?_
  cases hf
  exact z_vret C hr hk dX2_becomeAs_9
def f_X2_becomeAs (z : St) (o0 : Nat) (o1 : Nat) : Option (St) := f_X2_becomeAs_0 z o0 o1
theorem c_X2_becomeAs {l : Launch} {g : Ga} {A : Nat → Prop} {z : St} {o0 : Nat} {o1 : Nat} (ho0 : kd o0 = 2) (ho1 : kd o1 = 2) {res : St} (hf : f_X2_becomeAs z o0 o1 = some res) : CV l g A yX2_becomeAs cX2_becomeAs 2 none rm_X2_becomeAs [.ref (g.1 o0), .ref (g.1 o1)] z res :=
  e_CV (by decide) (Nat.le_of_ble_eq_true rfl) rfl (fun p e s m args below meth c C hr hk => z_sub [0, 1] rfl (b_X2_becomeAs_0 C hr hk z o0 o1 ho0 ho1 hf))
abbrev rm_X2_remove : Room := { frames := 2, cells := 0, slots := 0, locals := 44 }
def f_X2_remove_8  (z : St)  : Option (St) :=
  some z
theorem b_X2_remove_8 {p : Program} {l : Launch} {e : Env} {s : State} {m : MethodId} {args : Array Value} {below : List Frame} {meth : Method} {c : Code} {g : Ga} {A : Nat → Prop} (C : Cx l g A p s m args c cX2_remove 4 RX2 (rm_X2_remove) (0, 0)) (hr : meth.sig.returnType = none) (hk : meth.locks = false)   (z : St)   {res : St} (hf : f_X2_remove_8  z  = some res) : Zj p l e (rm_X2_remove) s m args below meth c g A 4 (0, 0) (QV g A below args s res) z 8 [] [] := by
  unfold f_X2_remove_8 at hf
  cases hf
  exact z_vret C hr hk dX2_remove_8
def f_X2_remove_32 (K11 : St → Nat → Int32 → Int32 → Option (St)) (K22 : St → Nat → Int32 → Int32 → Int32 → Option (St)) (z : St) (o0 : Nat) (x1 : Int32) (x2 : Int32) (x3 : Int32) : Option (St) :=
  ((f_X2_value z o0 x2 (x3 + 1)).bind fun r1 => ((f_X2_change r1.1 o0 x2 x3 r1.2).bind fun r3 => K22 r3 o0 x1 x2 (x3 + 1)))
theorem b_X2_remove_32 {p : Program} {l : Launch} {e : Env} {s : State} {m : MethodId} {args : Array Value} {below : List Frame} {meth : Method} {c : Code} {g : Ga} {A : Nat → Prop} (C : Cx l g A p s m args c cX2_remove 4 RX2 (rm_X2_remove) (0, 0)) (hr : meth.sig.returnType = none) (hk : meth.locks = false) {K11 : St → Nat → Int32 → Int32 → Option (St)} {K22 : St → Nat → Int32 → Int32 → Int32 → Option (St)} (hK11 : ∀ (z : St) (o0 : Nat) (x1 : Int32) (x2 : Int32) (_ : kd o0 = 2) {res : St}, K11 z o0 x1 x2 = some res → Zj p l e (rm_X2_remove) s m args below meth c g A 4 (0, 0) (QV g A below args s res) z 11 [(0, .ref (g.1 o0)), (1, .int x1), (2, .int x2)] []) (hK22 : ∀ (z : St) (o0 : Nat) (x1 : Int32) (x2 : Int32) (x3 : Int32) (_ : kd o0 = 2) {res : St}, K22 z o0 x1 x2 x3 = some res → Zj p l e (rm_X2_remove) s m args below meth c g A 4 (0, 0) (QV g A below args s res) z 22 [(0, .ref (g.1 o0)), (1, .int x1), (2, .int x2), (3, .int x3)] []) (z : St) (o0 : Nat) (x1 : Int32) (x2 : Int32) (x3 : Int32) (ho0 : kd o0 = 2) {res : St} (hf : f_X2_remove_32 K11 K22 z o0 x1 x2 x3 = some res) : Zj p l e (rm_X2_remove) s m args below meth c g A 4 (0, 0) (QV g A below args s res) z 32 [(0, .ref (g.1 o0)), (1, .int x1), (2, .int x2), (3, .int x3)] [] := by
  unfold f_X2_remove_32 at hf
  refine z_aload_n C dX2_remove_32 rfl 0 rfl ?_
  refine z_iload_n C dX2_remove_33 rfl 2 rfl ?_
  refine z_iload_n C dX2_remove_34 rfl 3 rfl ?_
  refine z_aload_n C dX2_remove_35 rfl 0 rfl ?_
  refine z_iload_n C dX2_remove_36 rfl 2 rfl ?_
  refine z_iload_n C dX2_remove_37 rfl 3 rfl ?_
  refine z_iconst C dX2_remove_38 (v := 1) (by decide) ?_
  refine z_iadd C dX2_remove_39 ?_
  obtain ⟨r1, hc2, hf⟩ := q_bd hf
  refine z_cVi C (st := [.int x3, .int x2, .ref (g.1 o0)]) (c_X2_value ho0 hc2) mw_X2_value ml_X2_38 ho0 (by decide) rfl dX2_remove_40 rfl rfl rfl ⟨Nat.le_of_ble_eq_true rfl, Nat.le_of_ble_eq_true rfl⟩ rfl (Nat.le_of_ble_eq_true rfl) ?_
  obtain ⟨r3, hc4, hf⟩ := q_bd hf
  refine z_cVv C (st := []) (c_X2_change ho0 hc4) mw_X2_change ml_X2_34 ho0 (by decide) rfl dX2_remove_43 rfl rfl rfl ⟨Nat.le_of_ble_eq_true rfl, Nat.le_of_ble_eq_true rfl⟩ rfl (Nat.le_of_ble_eq_true rfl) ?_
  refine z_iinc C (k := 3) (v := x3 + 1) (lv2 := [(3, .int (x3 + 1)), (0, .ref (g.1 o0)), (1, .int x1), (2, .int x2)]) dX2_remove_46 rfl rfl (by decide) rfl ?_
  exact z_goto C dX2_remove_49 (by decide) (z_sub [1, 2, 3, 0] rfl (hK22 r3 o0 x1 x2 (x3 + 1) ho0 hf))
def f_X2_remove_52 (K11 : St → Nat → Int32 → Int32 → Option (St)) (z : St) (o0 : Nat) (x1 : Int32) (x2 : Int32) : Option (St) :=
  K11 z o0 x1 (x2 + 1)
theorem b_X2_remove_52 {p : Program} {l : Launch} {e : Env} {s : State} {m : MethodId} {args : Array Value} {below : List Frame} {meth : Method} {c : Code} {g : Ga} {A : Nat → Prop} (C : Cx l g A p s m args c cX2_remove 4 RX2 (rm_X2_remove) (0, 0)) (hr : meth.sig.returnType = none) (hk : meth.locks = false) {K11 : St → Nat → Int32 → Int32 → Option (St)} (hK11 : ∀ (z : St) (o0 : Nat) (x1 : Int32) (x2 : Int32) (_ : kd o0 = 2) {res : St}, K11 z o0 x1 x2 = some res → Zj p l e (rm_X2_remove) s m args below meth c g A 4 (0, 0) (QV g A below args s res) z 11 [(0, .ref (g.1 o0)), (1, .int x1), (2, .int x2)] []) (z : St) (o0 : Nat) (x1 : Int32) (x2 : Int32) (ho0 : kd o0 = 2) {res : St} (hf : f_X2_remove_52 K11 z o0 x1 x2 = some res) : Zj p l e (rm_X2_remove) s m args below meth c g A 4 (0, 0) (QV g A below args s res) z 52 [(0, .ref (g.1 o0)), (1, .int x1), (2, .int x2)] [] := by
  unfold f_X2_remove_52 at hf
  refine z_iinc C (k := 2) (v := x2 + 1) (lv2 := [(2, .int (x2 + 1)), (0, .ref (g.1 o0)), (1, .int x1)]) dX2_remove_52 rfl rfl (by decide) rfl ?_
  exact z_goto C dX2_remove_55 (by decide) (z_sub [1, 2, 0] rfl (hK11 z o0 x1 (x2 + 1) ho0 hf))
def f_X2_remove_22 (K11 : St → Nat → Int32 → Int32 → Option (St)) : Nat → St → Nat → Int32 → Int32 → Int32 → Option (St)
  | 0, _, _, _, _, _ => none
  | n + 1, z, o0, x1, x2, x3 => if ((z.1 o0 1) - 1) ≤ x3 then f_X2_remove_52 K11 z o0 x1 x2 else f_X2_remove_32 K11 (f_X2_remove_22 K11 n) z o0 x1 x2 x3
theorem b_X2_remove_22 {p : Program} {l : Launch} {e : Env} {s : State} {m : MethodId} {args : Array Value} {below : List Frame} {meth : Method} {c : Code} {g : Ga} {A : Nat → Prop} (C : Cx l g A p s m args c cX2_remove 4 RX2 (rm_X2_remove) (0, 0)) (hr : meth.sig.returnType = none) (hk : meth.locks = false) {K11 : St → Nat → Int32 → Int32 → Option (St)} (hK11 : ∀ (z : St) (o0 : Nat) (x1 : Int32) (x2 : Int32) (_ : kd o0 = 2) {res : St}, K11 z o0 x1 x2 = some res → Zj p l e (rm_X2_remove) s m args below meth c g A 4 (0, 0) (QV g A below args s res) z 11 [(0, .ref (g.1 o0)), (1, .int x1), (2, .int x2)] []) : ∀ (n : Nat) (z : St) (o0 : Nat) (x1 : Int32) (x2 : Int32) (x3 : Int32) (_ : kd o0 = 2) {res : St} (_ : f_X2_remove_22 K11 n z o0 x1 x2 x3 = some res), Zj p l e (rm_X2_remove) s m args below meth c g A 4 (0, 0) (QV g A below args s res) z 22 [(0, .ref (g.1 o0)), (1, .int x1), (2, .int x2), (3, .int x3)] [] := by
  intro n
  induction n with
  | zero =>
    intro z o0 x1 x2 x3 ho0 res hf
    cases hf
  | succ n ih =>
    intro z o0 x1 x2 x3 ho0 res hf
    rw [f_X2_remove_22] at hf
    refine z_iload_n C dX2_remove_22 rfl 3 rfl ?_
    refine z_aload_n C dX2_remove_23 rfl 0 rfl ?_
    refine gf_X2_23 C dX2_remove_24 ho0 ?_
    refine z_iconst C dX2_remove_27 (v := 1) (by decide) ?_
    refine z_isub C dX2_remove_28 ?_
    exact z_icmp_ge C dX2_remove_29 (by decide) (fun h => z_sub [0, 1, 2] rfl (b_X2_remove_52 C hr hk hK11 z o0 x1 x2 ho0 (q_t hf h))) (fun h => z_sub [0, 1, 2, 3] rfl (b_X2_remove_32 C hr hk hK11 ih z o0 x1 x2 x3 ho0 (q_f hf h)))
def f_X2_remove_20 (K11 : St → Nat → Int32 → Int32 → Option (St)) (z : St) (o0 : Nat) (x1 : Int32) (x2 : Int32) : Option (St) :=
  f_X2_remove_22 K11 FU z o0 x1 x2 x1
theorem b_X2_remove_20 {p : Program} {l : Launch} {e : Env} {s : State} {m : MethodId} {args : Array Value} {below : List Frame} {meth : Method} {c : Code} {g : Ga} {A : Nat → Prop} (C : Cx l g A p s m args c cX2_remove 4 RX2 (rm_X2_remove) (0, 0)) (hr : meth.sig.returnType = none) (hk : meth.locks = false) {K11 : St → Nat → Int32 → Int32 → Option (St)} (hK11 : ∀ (z : St) (o0 : Nat) (x1 : Int32) (x2 : Int32) (_ : kd o0 = 2) {res : St}, K11 z o0 x1 x2 = some res → Zj p l e (rm_X2_remove) s m args below meth c g A 4 (0, 0) (QV g A below args s res) z 11 [(0, .ref (g.1 o0)), (1, .int x1), (2, .int x2)] []) (z : St) (o0 : Nat) (x1 : Int32) (x2 : Int32) (ho0 : kd o0 = 2) {res : St} (hf : f_X2_remove_20 K11 z o0 x1 x2 = some res) : Zj p l e (rm_X2_remove) s m args below meth c g A 4 (0, 0) (QV g A below args s res) z 20 [(0, .ref (g.1 o0)), (1, .int x1), (2, .int x2)] [] := by
  unfold f_X2_remove_20 at hf
  refine z_iload_n C dX2_remove_20 rfl 1 rfl ?_
  refine z_istore_n C (lv2 := [(3, .int x1), (0, .ref (g.1 o0)), (1, .int x1), (2, .int x2)]) dX2_remove_21 rfl (by decide) rfl ?_
  exact z_sub [1, 2, 3, 0] rfl (b_X2_remove_22 C hr hk hK11 FU z o0 x1 x2 x1 ho0 hf)
def f_X2_remove_58  (z : St) (o0 : Nat) : Option (St) :=
  some (zI z o0 1 ((z.1 o0 1) - 1))
theorem b_X2_remove_58 {p : Program} {l : Launch} {e : Env} {s : State} {m : MethodId} {args : Array Value} {below : List Frame} {meth : Method} {c : Code} {g : Ga} {A : Nat → Prop} (C : Cx l g A p s m args c cX2_remove 4 RX2 (rm_X2_remove) (0, 0)) (hr : meth.sig.returnType = none) (hk : meth.locks = false)   (z : St) (o0 : Nat) (ho0 : kd o0 = 2) {res : St} (hf : f_X2_remove_58  z o0 = some res) : Zj p l e (rm_X2_remove) s m args below meth c g A 4 (0, 0) (QV g A below args s res) z 58 [(0, .ref (g.1 o0))] [] := by
  unfold f_X2_remove_58 at hf
  refine z_aload_n C dX2_remove_58 rfl 0 rfl ?_
  refine z_dup C dX2_remove_59 rfl ?_
  refine gf_X2_23 C dX2_remove_60 ho0 ?_
  refine z_iconst C dX2_remove_63 (v := 1) (by decide) ?_
  refine z_isub C dX2_remove_64 ?_
  refine pf_X2_23 C dX2_remove_65 ho0 ?_
  cases hf
  exact z_vret C hr hk dX2_remove_68
def f_X2_remove_11  : Nat → St → Nat → Int32 → Int32 → Option (St)
  | 0, _, _, _, _ => none
  | n + 1, z, o0, x1, x2 => if 4 ≤ x2 then f_X2_remove_58 z o0 else f_X2_remove_20 (f_X2_remove_11 n) z o0 x1 x2
theorem b_X2_remove_11 {p : Program} {l : Launch} {e : Env} {s : State} {m : MethodId} {args : Array Value} {below : List Frame} {meth : Method} {c : Code} {g : Ga} {A : Nat → Prop} (C : Cx l g A p s m args c cX2_remove 4 RX2 (rm_X2_remove) (0, 0)) (hr : meth.sig.returnType = none) (hk : meth.locks = false)   : ∀ (n : Nat) (z : St) (o0 : Nat) (x1 : Int32) (x2 : Int32) (_ : kd o0 = 2) {res : St} (_ : f_X2_remove_11  n z o0 x1 x2 = some res), Zj p l e (rm_X2_remove) s m args below meth c g A 4 (0, 0) (QV g A below args s res) z 11 [(0, .ref (g.1 o0)), (1, .int x1), (2, .int x2)] [] := by
  intro n
  induction n with
  | zero =>
    intro z o0 x1 x2 ho0 res hf
    cases hf
  | succ n ih =>
    intro z o0 x1 x2 ho0 res hf
    rw [f_X2_remove_11] at hf
    refine z_iload_n C dX2_remove_11 rfl 2 rfl ?_
    refine z_aload_n C dX2_remove_12 rfl 0 rfl ?_
    refine gf_X2_11 C dX2_remove_13 ho0 ?_
    refine z_alenG C dX2_remove_16 (v := 4) (rt_2_0 _ (kd_lt ho0 (by decide)) ho0) rfl ?_
    exact z_icmp_ge C dX2_remove_17 (by decide) (fun h => z_sub [0] rfl (b_X2_remove_58 C hr hk z o0 ho0 (q_t hf h))) (fun h => z_sub [0, 1, 2] rfl (b_X2_remove_20 C hr hk ih z o0 x1 x2 ho0 (q_f hf h)))
def f_X2_remove_9  (z : St) (o0 : Nat) (x1 : Int32) : Option (St) :=
  f_X2_remove_11 FU z o0 x1 0
theorem b_X2_remove_9 {p : Program} {l : Launch} {e : Env} {s : State} {m : MethodId} {args : Array Value} {below : List Frame} {meth : Method} {c : Code} {g : Ga} {A : Nat → Prop} (C : Cx l g A p s m args c cX2_remove 4 RX2 (rm_X2_remove) (0, 0)) (hr : meth.sig.returnType = none) (hk : meth.locks = false)   (z : St) (o0 : Nat) (x1 : Int32) (ho0 : kd o0 = 2) {res : St} (hf : f_X2_remove_9  z o0 x1 = some res) : Zj p l e (rm_X2_remove) s m args below meth c g A 4 (0, 0) (QV g A below args s res) z 9 [(0, .ref (g.1 o0)), (1, .int x1)] [] := by
  unfold f_X2_remove_9 at hf
  refine z_iconst C dX2_remove_9 (v := 0) (by decide) ?_
  refine z_istore_n C (lv2 := [(2, .int 0), (0, .ref (g.1 o0)), (1, .int x1)]) dX2_remove_10 rfl (by decide) rfl ?_
  exact z_sub [1, 2, 0] rfl (b_X2_remove_11 C hr hk FU z o0 x1 0 ho0 hf)
def f_X2_remove_0  (z : St) (o0 : Nat) (x1 : Int32) : Option (St) :=
  ((f_X2_holds z o0 x1).bind fun r1 => if r1.2 = 0 then f_X2_remove_8 r1.1 else f_X2_remove_9 r1.1 o0 x1)
theorem b_X2_remove_0 {p : Program} {l : Launch} {e : Env} {s : State} {m : MethodId} {args : Array Value} {below : List Frame} {meth : Method} {c : Code} {g : Ga} {A : Nat → Prop} (C : Cx l g A p s m args c cX2_remove 4 RX2 (rm_X2_remove) (0, 0)) (hr : meth.sig.returnType = none) (hk : meth.locks = false)   (z : St) (o0 : Nat) (x1 : Int32) (ho0 : kd o0 = 2) {res : St} (hf : f_X2_remove_0  z o0 x1 = some res) : Zj p l e (rm_X2_remove) s m args below meth c g A 4 (0, 0) (QV g A below args s res) z 0 [(0, .ref (g.1 o0)), (1, .int x1)] [] := by
  unfold f_X2_remove_0 at hf
  refine z_aload_n C dX2_remove_0 rfl 0 rfl ?_
  refine z_iload_n C dX2_remove_1 rfl 1 rfl ?_
  obtain ⟨r1, hc2, hf⟩ := q_bd hf
  refine z_cVi C (st := []) (c_X2_holds ho0 hc2) mw_X2_holds ml_X2_27 ho0 (by decide) rfl dX2_remove_2 rfl rfl rfl ⟨Nat.le_of_ble_eq_true rfl, Nat.le_of_ble_eq_true rfl⟩ rfl (Nat.le_of_ble_eq_true rfl) ?_
  exact z_if_ne C dX2_remove_5 (by decide) (fun h => z_sub [0, 1] rfl (b_X2_remove_9 C hr hk r1.1 o0 x1 ho0 (q_f hf h))) (fun h => z_sub [] rfl (b_X2_remove_8 C hr hk r1.1 (q_t hf h)))
def f_X2_remove (z : St) (o0 : Nat) (x1 : Int32) : Option (St) := f_X2_remove_0 z o0 x1
theorem c_X2_remove {l : Launch} {g : Ga} {A : Nat → Prop} {z : St} {o0 : Nat} {x1 : Int32} (ho0 : kd o0 = 2) {res : St} (hf : f_X2_remove z o0 x1 = some res) : CV l g A yX2_remove cX2_remove 4 none rm_X2_remove [.ref (g.1 o0), .int x1] z res :=
  e_CV (by decide) (Nat.le_of_ble_eq_true rfl) rfl (fun p e s m args below meth c C hr hk => z_sub [0, 1] rfl (b_X2_remove_0 C hr hk z o0 x1 ho0 hf))
abbrev rm_X2_isOfKind : Room := { frames := 2, cells := 0, slots := 0, locals := 43 }
def f_X2_isOfKind_24  (z : St)  : Option (St × Int32) :=
  some (z, 1)
theorem b_X2_isOfKind_24 {p : Program} {l : Launch} {e : Env} {s : State} {m : MethodId} {args : Array Value} {below : List Frame} {meth : Method} {c : Code} {g : Ga} {A : Nat → Prop} (C : Cx l g A p s m args c cX2_isOfKind 5 RX2 (rm_X2_isOfKind) (0, 0)) (hr : meth.sig.returnType = (some .boolean)) (hk : meth.locks = false)   (z : St)   {res : St × Int32} (hf : f_X2_isOfKind_24  z  = some res) : Zj p l e (rm_X2_isOfKind) s m args below meth c g A 5 (0, 0) (QI g A below args s res) z 24 [] [] := by
  unfold f_X2_isOfKind_24 at hf
  refine z_iconst C dX2_isOfKind_24 (v := 1) (by decide) ?_
  cases hf
  exact z_zret C hr hk (by decide) dX2_isOfKind_25
def f_X2_isOfKind_38  (z : St)  : Option (St × Int32) :=
  some (z, 0)
theorem b_X2_isOfKind_38 {p : Program} {l : Launch} {e : Env} {s : State} {m : MethodId} {args : Array Value} {below : List Frame} {meth : Method} {c : Code} {g : Ga} {A : Nat → Prop} (C : Cx l g A p s m args c cX2_isOfKind 5 RX2 (rm_X2_isOfKind) (0, 0)) (hr : meth.sig.returnType = (some .boolean)) (hk : meth.locks = false)   (z : St)   {res : St × Int32} (hf : f_X2_isOfKind_38  z  = some res) : Zj p l e (rm_X2_isOfKind) s m args below meth c g A 5 (0, 0) (QI g A below args s res) z 38 [] [] := by
  unfold f_X2_isOfKind_38 at hf
  refine z_iconst C dX2_isOfKind_38 (v := 0) (by decide) ?_
  cases hf
  exact z_zret C hr hk (by decide) dX2_isOfKind_39
def f_X2_isOfKind_40 (K10 : St → Int32 → Int32 → Int32 → Option (St × Int32)) (z : St) (x2 : Int32) (x3 : Int32) (x4 : Int32) : Option (St × Int32) :=
  if inb x3 6 = true then (K10 z x2 (tb0 (Int32.toNatClampNeg x3)) (x4 + 1)) else none
theorem b_X2_isOfKind_40 {p : Program} {l : Launch} {e : Env} {s : State} {m : MethodId} {args : Array Value} {below : List Frame} {meth : Method} {c : Code} {g : Ga} {A : Nat → Prop} (C : Cx l g A p s m args c cX2_isOfKind 5 RX2 (rm_X2_isOfKind) (0, 0)) (hr : meth.sig.returnType = (some .boolean)) (hk : meth.locks = false) {K10 : St → Int32 → Int32 → Int32 → Option (St × Int32)} (hK10 : ∀ (z : St) (x2 : Int32) (x3 : Int32) (x4 : Int32)  {res : St × Int32}, K10 z x2 x3 x4 = some res → Zj p l e (rm_X2_isOfKind) s m args below meth c g A 5 (0, 0) (QI g A below args s res) z 10 [(2, .int x2), (3, .int x3), (4, .int x4)] []) (z : St) (x2 : Int32) (x3 : Int32) (x4 : Int32)  {res : St × Int32} (hf : f_X2_isOfKind_40 K10 z x2 x3 x4 = some res) : Zj p l e (rm_X2_isOfKind) s m args below meth c g A 5 (0, 0) (QI g A below args s res) z 40 [(2, .int x2), (3, .int x3), (4, .int x4)] [] := by
  unfold f_X2_isOfKind_40 at hf
  refine z_gs0 C dX2_isOfKind_40 gs_X2_53 ?_
  refine z_iload_n C dX2_isOfKind_43 rfl 1 rfl ?_
  obtain ⟨h1, hf⟩ := q_ck hf
  refine z_st0 C dX2_isOfKind_44 h1 ?_
  refine z_istore_n C (lv2 := [(3, .int (tb0 (Int32.toNatClampNeg x3))), (2, .int x2), (4, .int x4)]) dX2_isOfKind_45 rfl (by decide) rfl ?_
  refine z_iinc C (k := 2) (v := x4 + 1) (lv2 := [(4, .int (x4 + 1)), (3, .int (tb0 (Int32.toNatClampNeg x3))), (2, .int x2)]) dX2_isOfKind_46 rfl rfl (by decide) rfl ?_
  exact z_goto C dX2_isOfKind_49 (by decide) (z_sub [2, 1, 0] rfl (hK10 z x2 (tb0 (Int32.toNatClampNeg x3)) (x4 + 1) hf))
def f_X2_isOfKind_30 (K10 : St → Int32 → Int32 → Int32 → Option (St × Int32)) (z : St) (x2 : Int32) (x3 : Int32) (x4 : Int32) : Option (St × Int32) :=
  if x3 < 6 then f_X2_isOfKind_40 K10 z x2 x3 x4 else f_X2_isOfKind_38 z
theorem b_X2_isOfKind_30 {p : Program} {l : Launch} {e : Env} {s : State} {m : MethodId} {args : Array Value} {below : List Frame} {meth : Method} {c : Code} {g : Ga} {A : Nat → Prop} (C : Cx l g A p s m args c cX2_isOfKind 5 RX2 (rm_X2_isOfKind) (0, 0)) (hr : meth.sig.returnType = (some .boolean)) (hk : meth.locks = false) {K10 : St → Int32 → Int32 → Int32 → Option (St × Int32)} (hK10 : ∀ (z : St) (x2 : Int32) (x3 : Int32) (x4 : Int32)  {res : St × Int32}, K10 z x2 x3 x4 = some res → Zj p l e (rm_X2_isOfKind) s m args below meth c g A 5 (0, 0) (QI g A below args s res) z 10 [(2, .int x2), (3, .int x3), (4, .int x4)] []) (z : St) (x2 : Int32) (x3 : Int32) (x4 : Int32)  {res : St × Int32} (hf : f_X2_isOfKind_30 K10 z x2 x3 x4 = some res) : Zj p l e (rm_X2_isOfKind) s m args below meth c g A 5 (0, 0) (QI g A below args s res) z 30 [(2, .int x2), (3, .int x3), (4, .int x4)] [] := by
  unfold f_X2_isOfKind_30 at hf
  refine z_iload_n C dX2_isOfKind_30 rfl 1 rfl ?_
  refine z_gs0 C dX2_isOfKind_31 gs_X2_53 ?_
  refine z_sl0 C dX2_isOfKind_34 (v := 6) rfl ?_
  exact z_icmp_lt C dX2_isOfKind_35 (by decide) (fun h => z_sub [0, 1, 2] rfl (b_X2_isOfKind_40 C hr hk hK10 z x2 x3 x4 (q_t hf h))) (fun h => z_sub [] rfl (b_X2_isOfKind_38 C hr hk z (q_f hf h)))
def f_X2_isOfKind_26 (K10 : St → Int32 → Int32 → Int32 → Option (St × Int32)) (z : St) (x2 : Int32) (x3 : Int32) (x4 : Int32) : Option (St × Int32) :=
  if x3 < 0 then f_X2_isOfKind_38 z else f_X2_isOfKind_30 K10 z x2 x3 x4
theorem b_X2_isOfKind_26 {p : Program} {l : Launch} {e : Env} {s : State} {m : MethodId} {args : Array Value} {below : List Frame} {meth : Method} {c : Code} {g : Ga} {A : Nat → Prop} (C : Cx l g A p s m args c cX2_isOfKind 5 RX2 (rm_X2_isOfKind) (0, 0)) (hr : meth.sig.returnType = (some .boolean)) (hk : meth.locks = false) {K10 : St → Int32 → Int32 → Int32 → Option (St × Int32)} (hK10 : ∀ (z : St) (x2 : Int32) (x3 : Int32) (x4 : Int32)  {res : St × Int32}, K10 z x2 x3 x4 = some res → Zj p l e (rm_X2_isOfKind) s m args below meth c g A 5 (0, 0) (QI g A below args s res) z 10 [(2, .int x2), (3, .int x3), (4, .int x4)] []) (z : St) (x2 : Int32) (x3 : Int32) (x4 : Int32)  {res : St × Int32} (hf : f_X2_isOfKind_26 K10 z x2 x3 x4 = some res) : Zj p l e (rm_X2_isOfKind) s m args below meth c g A 5 (0, 0) (QI g A below args s res) z 26 [(2, .int x2), (3, .int x3), (4, .int x4)] [] := by
  unfold f_X2_isOfKind_26 at hf
  refine z_iload_n C dX2_isOfKind_26 rfl 1 rfl ?_
  exact z_if_lt C dX2_isOfKind_27 (by decide) (fun h => z_sub [] rfl (b_X2_isOfKind_38 C hr hk z (q_t hf h))) (fun h => z_sub [0, 1, 2] rfl (b_X2_isOfKind_30 C hr hk hK10 z x2 x3 x4 (q_f hf h)))
def f_X2_isOfKind_19 (K10 : St → Int32 → Int32 → Int32 → Option (St × Int32)) (z : St) (x2 : Int32) (x3 : Int32) (x4 : Int32) : Option (St × Int32) :=
  if x3 = x2 then f_X2_isOfKind_24 z else f_X2_isOfKind_26 K10 z x2 x3 x4
theorem b_X2_isOfKind_19 {p : Program} {l : Launch} {e : Env} {s : State} {m : MethodId} {args : Array Value} {below : List Frame} {meth : Method} {c : Code} {g : Ga} {A : Nat → Prop} (C : Cx l g A p s m args c cX2_isOfKind 5 RX2 (rm_X2_isOfKind) (0, 0)) (hr : meth.sig.returnType = (some .boolean)) (hk : meth.locks = false) {K10 : St → Int32 → Int32 → Int32 → Option (St × Int32)} (hK10 : ∀ (z : St) (x2 : Int32) (x3 : Int32) (x4 : Int32)  {res : St × Int32}, K10 z x2 x3 x4 = some res → Zj p l e (rm_X2_isOfKind) s m args below meth c g A 5 (0, 0) (QI g A below args s res) z 10 [(2, .int x2), (3, .int x3), (4, .int x4)] []) (z : St) (x2 : Int32) (x3 : Int32) (x4 : Int32)  {res : St × Int32} (hf : f_X2_isOfKind_19 K10 z x2 x3 x4 = some res) : Zj p l e (rm_X2_isOfKind) s m args below meth c g A 5 (0, 0) (QI g A below args s res) z 19 [(2, .int x2), (3, .int x3), (4, .int x4)] [] := by
  unfold f_X2_isOfKind_19 at hf
  refine z_iload_n C dX2_isOfKind_19 rfl 1 rfl ?_
  refine z_iload_n C dX2_isOfKind_20 rfl 0 rfl ?_
  exact z_icmp_ne C dX2_isOfKind_21 (by decide) (fun h => z_sub [0, 1, 2] rfl (b_X2_isOfKind_26 C hr hk hK10 z x2 x3 x4 (q_f hf h))) (fun h => z_sub [] rfl (b_X2_isOfKind_24 C hr hk z (q_t hf h)))
def f_X2_isOfKind_52  (z : St)  : Option (St × Int32) :=
  some (z, 0)
theorem b_X2_isOfKind_52 {p : Program} {l : Launch} {e : Env} {s : State} {m : MethodId} {args : Array Value} {below : List Frame} {meth : Method} {c : Code} {g : Ga} {A : Nat → Prop} (C : Cx l g A p s m args c cX2_isOfKind 5 RX2 (rm_X2_isOfKind) (0, 0)) (hr : meth.sig.returnType = (some .boolean)) (hk : meth.locks = false)   (z : St)   {res : St × Int32} (hf : f_X2_isOfKind_52  z  = some res) : Zj p l e (rm_X2_isOfKind) s m args below meth c g A 5 (0, 0) (QI g A below args s res) z 52 [] [] := by
  unfold f_X2_isOfKind_52 at hf
  refine z_iconst C dX2_isOfKind_52 (v := 0) (by decide) ?_
  cases hf
  exact z_zret C hr hk (by decide) dX2_isOfKind_53
def f_X2_isOfKind_10  : Nat → St → Int32 → Int32 → Int32 → Option (St × Int32)
  | 0, _, _, _, _ => none
  | n + 1, z, x2, x3, x4 => if 6 ≤ x4 then f_X2_isOfKind_52 z else f_X2_isOfKind_19 (f_X2_isOfKind_10 n) z x2 x3 x4
theorem b_X2_isOfKind_10 {p : Program} {l : Launch} {e : Env} {s : State} {m : MethodId} {args : Array Value} {below : List Frame} {meth : Method} {c : Code} {g : Ga} {A : Nat → Prop} (C : Cx l g A p s m args c cX2_isOfKind 5 RX2 (rm_X2_isOfKind) (0, 0)) (hr : meth.sig.returnType = (some .boolean)) (hk : meth.locks = false)   : ∀ (n : Nat) (z : St) (x2 : Int32) (x3 : Int32) (x4 : Int32)  {res : St × Int32} (_ : f_X2_isOfKind_10  n z x2 x3 x4 = some res), Zj p l e (rm_X2_isOfKind) s m args below meth c g A 5 (0, 0) (QI g A below args s res) z 10 [(2, .int x2), (3, .int x3), (4, .int x4)] [] := by
  intro n
  induction n with
  | zero =>
    intro z x2 x3 x4  res hf
    cases hf
  | succ n ih =>
    intro z x2 x3 x4  res hf
    rw [f_X2_isOfKind_10] at hf
    refine z_iload C dX2_isOfKind_10 2 rfl ?_
    refine z_gs0 C dX2_isOfKind_12 gs_X2_53 ?_
    refine z_sl0 C dX2_isOfKind_15 (v := 6) rfl ?_
    exact z_icmp_ge C dX2_isOfKind_16 (by decide) (fun h => z_sub [] rfl (b_X2_isOfKind_52 C hr hk z (q_t hf h))) (fun h => z_sub [0, 1, 2] rfl (b_X2_isOfKind_19 C hr hk ih z x2 x3 x4 (q_f hf h)))
def f_X2_isOfKind_0  (z : St) (o0 : Nat) (x1 : Int32) (x2 : Int32) : Option (St × Int32) :=
  ((f_X2_value z o0 0 x1).bind fun r1 => f_X2_isOfKind_10 FU r1.1 x2 r1.2 0)
theorem b_X2_isOfKind_0 {p : Program} {l : Launch} {e : Env} {s : State} {m : MethodId} {args : Array Value} {below : List Frame} {meth : Method} {c : Code} {g : Ga} {A : Nat → Prop} (C : Cx l g A p s m args c cX2_isOfKind 5 RX2 (rm_X2_isOfKind) (0, 0)) (hr : meth.sig.returnType = (some .boolean)) (hk : meth.locks = false)   (z : St) (o0 : Nat) (x1 : Int32) (x2 : Int32) (ho0 : kd o0 = 2) {res : St × Int32} (hf : f_X2_isOfKind_0  z o0 x1 x2 = some res) : Zj p l e (rm_X2_isOfKind) s m args below meth c g A 5 (0, 0) (QI g A below args s res) z 0 [(0, .ref (g.1 o0)), (1, .int x1), (2, .int x2)] [] := by
  unfold f_X2_isOfKind_0 at hf
  refine z_aload_n C dX2_isOfKind_0 rfl 0 rfl ?_
  refine z_iconst C dX2_isOfKind_1 (v := 0) (by decide) ?_
  refine z_iload_n C dX2_isOfKind_2 rfl 1 rfl ?_
  obtain ⟨r1, hc2, hf⟩ := q_bd hf
  refine z_cVi C (st := []) (c_X2_value ho0 hc2) mw_X2_value ml_X2_38 ho0 (by decide) rfl dX2_isOfKind_3 rfl rfl rfl ⟨Nat.le_of_ble_eq_true rfl, Nat.le_of_ble_eq_true rfl⟩ rfl (Nat.le_of_ble_eq_true rfl) ?_
  refine z_istore_n C (lv2 := [(3, .int r1.2), (0, .ref (g.1 o0)), (1, .int x1), (2, .int x2)]) dX2_isOfKind_6 rfl (by decide) rfl ?_
  refine z_iconst C dX2_isOfKind_7 (v := 0) (by decide) ?_
  refine z_istore C (lv2 := [(4, .int 0), (3, .int r1.2), (0, .ref (g.1 o0)), (1, .int x1), (2, .int x2)]) dX2_isOfKind_8 (by decide) rfl ?_
  exact z_sub [4, 1, 0] rfl (b_X2_isOfKind_10 C hr hk FU r1.1 x2 r1.2 0 hf)
def f_X2_isOfKind (z : St) (o0 : Nat) (x1 : Int32) (x2 : Int32) : Option (St × Int32) := f_X2_isOfKind_0 z o0 x1 x2
theorem c_X2_isOfKind {l : Launch} {g : Ga} {A : Nat → Prop} {z : St} {o0 : Nat} {x1 : Int32} {x2 : Int32} (ho0 : kd o0 = 2) {res : St × Int32} (hf : f_X2_isOfKind z o0 x1 x2 = some res) : CI l g A yX2_isOfKind cX2_isOfKind 5 (some .boolean) rm_X2_isOfKind [.ref (g.1 o0), .int x1, .int x2] z res :=
  e_CI (by decide) (Nat.le_of_ble_eq_true rfl) rfl (fun p e s m args below meth c C hr hk => z_sub [0, 1, 2] rfl (b_X2_isOfKind_0 C hr hk z o0 x1 x2 ho0 hf))
abbrev rm_X2_comesOf : Room := { frames := 3, cells := 0, slots := 0, locals := 67 }
def f_X2_comesOf_16  (z : St) (x2 : Int32) : Option (St × Int32) :=
  some (z, x2 / 2)
theorem b_X2_comesOf_16 {p : Program} {l : Launch} {e : Env} {s : State} {m : MethodId} {args : Array Value} {below : List Frame} {meth : Method} {c : Code} {g : Ga} {A : Nat → Prop} (C : Cx l g A p s m args c cX2_comesOf 3 RX2 (rm_X2_comesOf) (0, 0)) (hr : meth.sig.returnType = (some .int)) (hk : meth.locks = false)   (z : St) (x2 : Int32)  {res : St × Int32} (hf : f_X2_comesOf_16  z x2 = some res) : Zj p l e (rm_X2_comesOf) s m args below meth c g A 3 (0, 0) (QI g A below args s res) z 16 [(2, .int x2)] [] := by
  unfold f_X2_comesOf_16 at hf
  refine z_iload_n C dX2_comesOf_16 rfl 0 rfl ?_
  refine z_iconst C dX2_comesOf_17 (v := 2) (by decide) ?_
  refine z_idiv C dX2_comesOf_18 (by decide) ?_
  cases hf
  exact z_iret C hr hk dX2_comesOf_19
def f_X2_comesOf_36  (z : St) (s0 : Int32) : Option (St × Int32) :=
  some (z, s0)
theorem b_X2_comesOf_36 {p : Program} {l : Launch} {e : Env} {s : State} {m : MethodId} {args : Array Value} {below : List Frame} {meth : Method} {c : Code} {g : Ga} {A : Nat → Prop} (C : Cx l g A p s m args c cX2_comesOf 3 RX2 (rm_X2_comesOf) (0, 0)) (hr : meth.sig.returnType = (some .int)) (hk : meth.locks = false)   (z : St) (s0 : Int32)  {res : St × Int32} (hf : f_X2_comesOf_36  z s0 = some res) : Zj p l e (rm_X2_comesOf) s m args below meth c g A 3 (0, 0) (QI g A below args s res) z 36 [] [.int s0] := by
  unfold f_X2_comesOf_36 at hf
  cases hf
  exact z_iret C hr hk dX2_comesOf_36
def f_X2_comesOf_29  (z : St) (x2 : Int32) : Option (St × Int32) :=
  f_X2_comesOf_36 z (x2 + 3)
theorem b_X2_comesOf_29 {p : Program} {l : Launch} {e : Env} {s : State} {m : MethodId} {args : Array Value} {below : List Frame} {meth : Method} {c : Code} {g : Ga} {A : Nat → Prop} (C : Cx l g A p s m args c cX2_comesOf 3 RX2 (rm_X2_comesOf) (0, 0)) (hr : meth.sig.returnType = (some .int)) (hk : meth.locks = false)   (z : St) (x2 : Int32)  {res : St × Int32} (hf : f_X2_comesOf_29  z x2 = some res) : Zj p l e (rm_X2_comesOf) s m args below meth c g A 3 (0, 0) (QI g A below args s res) z 29 [(2, .int x2)] [] := by
  unfold f_X2_comesOf_29 at hf
  refine z_iload_n C dX2_comesOf_29 rfl 0 rfl ?_
  refine z_iconst C dX2_comesOf_30 (v := 3) (by decide) ?_
  refine z_iadd C dX2_comesOf_31 ?_
  exact z_goto C dX2_comesOf_32 (by decide) (z_sub [] rfl (b_X2_comesOf_36 C hr hk z (x2 + 3) hf))
def f_X2_comesOf_35  (z : St) (x2 : Int32) : Option (St × Int32) :=
  f_X2_comesOf_36 z x2
theorem b_X2_comesOf_35 {p : Program} {l : Launch} {e : Env} {s : State} {m : MethodId} {args : Array Value} {below : List Frame} {meth : Method} {c : Code} {g : Ga} {A : Nat → Prop} (C : Cx l g A p s m args c cX2_comesOf 3 RX2 (rm_X2_comesOf) (0, 0)) (hr : meth.sig.returnType = (some .int)) (hk : meth.locks = false)   (z : St) (x2 : Int32)  {res : St × Int32} (hf : f_X2_comesOf_35  z x2 = some res) : Zj p l e (rm_X2_comesOf) s m args below meth c g A 3 (0, 0) (QI g A below args s res) z 35 [(2, .int x2)] [] := by
  unfold f_X2_comesOf_35 at hf
  refine z_iload_n C dX2_comesOf_35 rfl 0 rfl ?_
  exact z_sub [] rfl (b_X2_comesOf_36 C hr hk z x2 hf)
def f_X2_comesOf_20  (z : St) (o0 : Nat) (x1 : Int32) (x2 : Int32) : Option (St × Int32) :=
  ((f_X2_isOfKind z o0 x1 4).bind fun r1 => if r1.2 = 0 then f_X2_comesOf_35 r1.1 x2 else f_X2_comesOf_29 r1.1 x2)
theorem b_X2_comesOf_20 {p : Program} {l : Launch} {e : Env} {s : State} {m : MethodId} {args : Array Value} {below : List Frame} {meth : Method} {c : Code} {g : Ga} {A : Nat → Prop} (C : Cx l g A p s m args c cX2_comesOf 3 RX2 (rm_X2_comesOf) (0, 0)) (hr : meth.sig.returnType = (some .int)) (hk : meth.locks = false)   (z : St) (o0 : Nat) (x1 : Int32) (x2 : Int32) (ho0 : kd o0 = 2) {res : St × Int32} (hf : f_X2_comesOf_20  z o0 x1 x2 = some res) : Zj p l e (rm_X2_comesOf) s m args below meth c g A 3 (0, 0) (QI g A below args s res) z 20 [(0, .ref (g.1 o0)), (1, .int x1), (2, .int x2)] [] := by
  unfold f_X2_comesOf_20 at hf
  refine z_aload_n C dX2_comesOf_20 rfl 0 rfl ?_
  refine z_iload_n C dX2_comesOf_21 rfl 1 rfl ?_
  refine z_iconst C dX2_comesOf_22 (v := 4) (by decide) ?_
  obtain ⟨r1, hc2, hf⟩ := q_bd hf
  refine z_cVi C (st := []) (c_X2_isOfKind ho0 hc2) mw_X2_isOfKind ml_X2_56 ho0 (by decide) rfl dX2_comesOf_23 rfl rfl rfl ⟨Nat.le_of_ble_eq_true rfl, Nat.le_of_ble_eq_true rfl⟩ rfl (Nat.le_of_ble_eq_true rfl) ?_
  exact z_if_eq C dX2_comesOf_26 (by decide) (fun h => z_sub [2] rfl (b_X2_comesOf_35 C hr hk r1.1 x2 (q_t hf h))) (fun h => z_sub [2] rfl (b_X2_comesOf_29 C hr hk r1.1 x2 (q_f hf h)))
def f_X2_comesOf_0  (z : St) (o0 : Nat) (x1 : Int32) : Option (St × Int32) :=
  ((f_X2_value z o0 1 x1).bind fun r1 => ((f_X2_isOfKind r1.1 o0 x1 3).bind fun r3 => if r3.2 = 0 then f_X2_comesOf_20 r3.1 o0 x1 r1.2 else f_X2_comesOf_16 r3.1 r1.2))
theorem b_X2_comesOf_0 {p : Program} {l : Launch} {e : Env} {s : State} {m : MethodId} {args : Array Value} {below : List Frame} {meth : Method} {c : Code} {g : Ga} {A : Nat → Prop} (C : Cx l g A p s m args c cX2_comesOf 3 RX2 (rm_X2_comesOf) (0, 0)) (hr : meth.sig.returnType = (some .int)) (hk : meth.locks = false)   (z : St) (o0 : Nat) (x1 : Int32) (ho0 : kd o0 = 2) {res : St × Int32} (hf : f_X2_comesOf_0  z o0 x1 = some res) : Zj p l e (rm_X2_comesOf) s m args below meth c g A 3 (0, 0) (QI g A below args s res) z 0 [(0, .ref (g.1 o0)), (1, .int x1)] [] := by
  unfold f_X2_comesOf_0 at hf
  refine z_aload_n C dX2_comesOf_0 rfl 0 rfl ?_
  refine z_iconst C dX2_comesOf_1 (v := 1) (by decide) ?_
  refine z_iload_n C dX2_comesOf_2 rfl 1 rfl ?_
  obtain ⟨r1, hc2, hf⟩ := q_bd hf
  refine z_cVi C (st := []) (c_X2_value ho0 hc2) mw_X2_value ml_X2_38 ho0 (by decide) rfl dX2_comesOf_3 rfl rfl rfl ⟨Nat.le_of_ble_eq_true rfl, Nat.le_of_ble_eq_true rfl⟩ rfl (Nat.le_of_ble_eq_true rfl) ?_
  refine z_istore_n C (lv2 := [(2, .int r1.2), (0, .ref (g.1 o0)), (1, .int x1)]) dX2_comesOf_6 rfl (by decide) rfl ?_
  refine z_aload_n C dX2_comesOf_7 rfl 1 rfl ?_
  refine z_iload_n C dX2_comesOf_8 rfl 2 rfl ?_
  refine z_iconst C dX2_comesOf_9 (v := 3) (by decide) ?_
  obtain ⟨r3, hc4, hf⟩ := q_bd hf
  refine z_cVi C (st := []) (c_X2_isOfKind ho0 hc4) mw_X2_isOfKind ml_X2_56 ho0 (by decide) rfl dX2_comesOf_10 rfl rfl rfl ⟨Nat.le_of_ble_eq_true rfl, Nat.le_of_ble_eq_true rfl⟩ rfl (Nat.le_of_ble_eq_true rfl) ?_
  exact z_if_eq C dX2_comesOf_13 (by decide) (fun h => z_sub [1, 2, 0] rfl (b_X2_comesOf_20 C hr hk r3.1 o0 x1 r1.2 ho0 (q_t hf h))) (fun h => z_sub [0] rfl (b_X2_comesOf_16 C hr hk r3.1 r1.2 (q_f hf h)))
def f_X2_comesOf (z : St) (o0 : Nat) (x1 : Int32) : Option (St × Int32) := f_X2_comesOf_0 z o0 x1
theorem c_X2_comesOf {l : Launch} {g : Ga} {A : Nat → Prop} {z : St} {o0 : Nat} {x1 : Int32} (ho0 : kd o0 = 2) {res : St × Int32} (hf : f_X2_comesOf z o0 x1 = some res) : CI l g A yX2_comesOf cX2_comesOf 3 (some .int) rm_X2_comesOf [.ref (g.1 o0), .int x1] z res :=
  e_CI (by decide) (Nat.le_of_ble_eq_true rfl) rfl (fun p e s m args below meth c C hr hk => z_sub [0, 1] rfl (b_X2_comesOf_0 C hr hk z o0 x1 ho0 hf))
abbrev rm_X2_takesOf : Room := { frames := 3, cells := 0, slots := 0, locals := 67 }
def f_X2_takesOf_46  (z : St) (s0 : Int32) : Option (St × Int32) :=
  some (z, s0)
theorem b_X2_takesOf_46 {p : Program} {l : Launch} {e : Env} {s : State} {m : MethodId} {args : Array Value} {below : List Frame} {meth : Method} {c : Code} {g : Ga} {A : Nat → Prop} (C : Cx l g A p s m args c cX2_takesOf 4 RX2 (rm_X2_takesOf) (0, 0)) (hr : meth.sig.returnType = (some .int)) (hk : meth.locks = false)   (z : St) (s0 : Int32)  {res : St × Int32} (hf : f_X2_takesOf_46  z s0 = some res) : Zj p l e (rm_X2_takesOf) s m args below meth c g A 4 (0, 0) (QI g A below args s res) z 46 [] [.int s0] := by
  unfold f_X2_takesOf_46 at hf
  cases hf
  exact z_iret C hr hk dX2_takesOf_46
def f_X2_takesOf_35  (z : St) (x3 : Int32) : Option (St × Int32) :=
  f_X2_takesOf_46 z (imax 1 (x3 - 1))
theorem b_X2_takesOf_35 {p : Program} {l : Launch} {e : Env} {s : State} {m : MethodId} {args : Array Value} {below : List Frame} {meth : Method} {c : Code} {g : Ga} {A : Nat → Prop} (C : Cx l g A p s m args c cX2_takesOf 4 RX2 (rm_X2_takesOf) (0, 0)) (hr : meth.sig.returnType = (some .int)) (hk : meth.locks = false)   (z : St) (x3 : Int32)  {res : St × Int32} (hf : f_X2_takesOf_35  z x3 = some res) : Zj p l e (rm_X2_takesOf) s m args below meth c g A 4 (0, 0) (QI g A below args s res) z 35 [(3, .int x3)] [] := by
  unfold f_X2_takesOf_35 at hf
  refine z_iconst C dX2_takesOf_35 (v := 1) (by decide) ?_
  refine z_iload_n C dX2_takesOf_36 rfl 0 rfl ?_
  refine z_iconst C dX2_takesOf_37 (v := 1) (by decide) ?_
  refine z_isub C dX2_takesOf_38 ?_
  refine z_mmax C (st := []) dX2_takesOf_39 ml_X2_60 mm_max.1 mm_i mm_max.2 ⟨Nat.le_of_ble_eq_true rfl, Nat.le_of_ble_eq_true rfl⟩ (Nat.le_of_ble_eq_true rfl) ?_
  exact z_goto C dX2_takesOf_42 (by decide) (z_sub [] rfl (b_X2_takesOf_46 C hr hk z (imax 1 (x3 - 1)) hf))
def f_X2_takesOf_45  (z : St) (x3 : Int32) : Option (St × Int32) :=
  f_X2_takesOf_46 z x3
theorem b_X2_takesOf_45 {p : Program} {l : Launch} {e : Env} {s : State} {m : MethodId} {args : Array Value} {below : List Frame} {meth : Method} {c : Code} {g : Ga} {A : Nat → Prop} (C : Cx l g A p s m args c cX2_takesOf 4 RX2 (rm_X2_takesOf) (0, 0)) (hr : meth.sig.returnType = (some .int)) (hk : meth.locks = false)   (z : St) (x3 : Int32)  {res : St × Int32} (hf : f_X2_takesOf_45  z x3 = some res) : Zj p l e (rm_X2_takesOf) s m args below meth c g A 4 (0, 0) (QI g A below args s res) z 45 [(3, .int x3)] [] := by
  unfold f_X2_takesOf_45 at hf
  refine z_iload_n C dX2_takesOf_45 rfl 0 rfl ?_
  exact z_sub [] rfl (b_X2_takesOf_46 C hr hk z x3 hf)
def f_X2_takesOf_25  (z : St) (o0 : Nat) (x1 : Int32) (s0 : Int32) : Option (St × Int32) :=
  ((f_X2_isOfKind z o0 x1 5).bind fun r1 => if r1.2 = 0 then f_X2_takesOf_45 r1.1 s0 else f_X2_takesOf_35 r1.1 s0)
theorem b_X2_takesOf_25 {p : Program} {l : Launch} {e : Env} {s : State} {m : MethodId} {args : Array Value} {below : List Frame} {meth : Method} {c : Code} {g : Ga} {A : Nat → Prop} (C : Cx l g A p s m args c cX2_takesOf 4 RX2 (rm_X2_takesOf) (0, 0)) (hr : meth.sig.returnType = (some .int)) (hk : meth.locks = false)   (z : St) (o0 : Nat) (x1 : Int32) (s0 : Int32) (ho0 : kd o0 = 2) {res : St × Int32} (hf : f_X2_takesOf_25  z o0 x1 s0 = some res) : Zj p l e (rm_X2_takesOf) s m args below meth c g A 4 (0, 0) (QI g A below args s res) z 25 [(0, .ref (g.1 o0)), (1, .int x1)] [.int s0] := by
  unfold f_X2_takesOf_25 at hf
  refine z_istore_n C (lv2 := [(3, .int s0), (0, .ref (g.1 o0)), (1, .int x1)]) dX2_takesOf_25 rfl (by decide) rfl ?_
  refine z_aload_n C dX2_takesOf_26 rfl 1 rfl ?_
  refine z_iload_n C dX2_takesOf_27 rfl 2 rfl ?_
  refine z_iconst C dX2_takesOf_28 (v := 5) (by decide) ?_
  obtain ⟨r1, hc2, hf⟩ := q_bd hf
  refine z_cVi C (st := []) (c_X2_isOfKind ho0 hc2) mw_X2_isOfKind ml_X2_56 ho0 (by decide) rfl dX2_takesOf_29 rfl rfl rfl ⟨Nat.le_of_ble_eq_true rfl, Nat.le_of_ble_eq_true rfl⟩ rfl (Nat.le_of_ble_eq_true rfl) ?_
  exact z_if_eq C dX2_takesOf_32 (by decide) (fun h => z_sub [0] rfl (b_X2_takesOf_45 C hr hk r1.1 s0 (q_t hf h))) (fun h => z_sub [0] rfl (b_X2_takesOf_35 C hr hk r1.1 s0 (q_f hf h)))
def f_X2_takesOf_16  (z : St) (o0 : Nat) (x1 : Int32) (x2 : Int32) : Option (St × Int32) :=
  f_X2_takesOf_25 z o0 x1 (x2 + (x2 / 4))
theorem b_X2_takesOf_16 {p : Program} {l : Launch} {e : Env} {s : State} {m : MethodId} {args : Array Value} {below : List Frame} {meth : Method} {c : Code} {g : Ga} {A : Nat → Prop} (C : Cx l g A p s m args c cX2_takesOf 4 RX2 (rm_X2_takesOf) (0, 0)) (hr : meth.sig.returnType = (some .int)) (hk : meth.locks = false)   (z : St) (o0 : Nat) (x1 : Int32) (x2 : Int32) (ho0 : kd o0 = 2) {res : St × Int32} (hf : f_X2_takesOf_16  z o0 x1 x2 = some res) : Zj p l e (rm_X2_takesOf) s m args below meth c g A 4 (0, 0) (QI g A below args s res) z 16 [(0, .ref (g.1 o0)), (1, .int x1), (2, .int x2)] [] := by
  unfold f_X2_takesOf_16 at hf
  refine z_iload_n C dX2_takesOf_16 rfl 2 rfl ?_
  refine z_iload_n C dX2_takesOf_17 rfl 2 rfl ?_
  refine z_iconst C dX2_takesOf_18 (v := 4) (by decide) ?_
  refine z_idiv C dX2_takesOf_19 (by decide) ?_
  refine z_iadd C dX2_takesOf_20 ?_
  exact z_goto C dX2_takesOf_21 (by decide) (z_sub [0, 1] rfl (b_X2_takesOf_25 C hr hk z o0 x1 (x2 + (x2 / 4)) ho0 hf))
def f_X2_takesOf_24  (z : St) (o0 : Nat) (x1 : Int32) (x2 : Int32) : Option (St × Int32) :=
  f_X2_takesOf_25 z o0 x1 x2
theorem b_X2_takesOf_24 {p : Program} {l : Launch} {e : Env} {s : State} {m : MethodId} {args : Array Value} {below : List Frame} {meth : Method} {c : Code} {g : Ga} {A : Nat → Prop} (C : Cx l g A p s m args c cX2_takesOf 4 RX2 (rm_X2_takesOf) (0, 0)) (hr : meth.sig.returnType = (some .int)) (hk : meth.locks = false)   (z : St) (o0 : Nat) (x1 : Int32) (x2 : Int32) (ho0 : kd o0 = 2) {res : St × Int32} (hf : f_X2_takesOf_24  z o0 x1 x2 = some res) : Zj p l e (rm_X2_takesOf) s m args below meth c g A 4 (0, 0) (QI g A below args s res) z 24 [(0, .ref (g.1 o0)), (1, .int x1), (2, .int x2)] [] := by
  unfold f_X2_takesOf_24 at hf
  refine z_iload_n C dX2_takesOf_24 rfl 2 rfl ?_
  exact z_sub [0, 1] rfl (b_X2_takesOf_25 C hr hk z o0 x1 x2 ho0 hf)
def f_X2_takesOf_0  (z : St) (o0 : Nat) (x1 : Int32) : Option (St × Int32) :=
  ((f_X2_value z o0 2 x1).bind fun r1 => ((f_X2_isOfKind r1.1 o0 x1 2).bind fun r3 => if r3.2 = 0 then f_X2_takesOf_24 r3.1 o0 x1 r1.2 else f_X2_takesOf_16 r3.1 o0 x1 r1.2))
theorem b_X2_takesOf_0 {p : Program} {l : Launch} {e : Env} {s : State} {m : MethodId} {args : Array Value} {below : List Frame} {meth : Method} {c : Code} {g : Ga} {A : Nat → Prop} (C : Cx l g A p s m args c cX2_takesOf 4 RX2 (rm_X2_takesOf) (0, 0)) (hr : meth.sig.returnType = (some .int)) (hk : meth.locks = false)   (z : St) (o0 : Nat) (x1 : Int32) (ho0 : kd o0 = 2) {res : St × Int32} (hf : f_X2_takesOf_0  z o0 x1 = some res) : Zj p l e (rm_X2_takesOf) s m args below meth c g A 4 (0, 0) (QI g A below args s res) z 0 [(0, .ref (g.1 o0)), (1, .int x1)] [] := by
  unfold f_X2_takesOf_0 at hf
  refine z_aload_n C dX2_takesOf_0 rfl 0 rfl ?_
  refine z_iconst C dX2_takesOf_1 (v := 2) (by decide) ?_
  refine z_iload_n C dX2_takesOf_2 rfl 1 rfl ?_
  obtain ⟨r1, hc2, hf⟩ := q_bd hf
  refine z_cVi C (st := []) (c_X2_value ho0 hc2) mw_X2_value ml_X2_38 ho0 (by decide) rfl dX2_takesOf_3 rfl rfl rfl ⟨Nat.le_of_ble_eq_true rfl, Nat.le_of_ble_eq_true rfl⟩ rfl (Nat.le_of_ble_eq_true rfl) ?_
  refine z_istore_n C (lv2 := [(2, .int r1.2), (0, .ref (g.1 o0)), (1, .int x1)]) dX2_takesOf_6 rfl (by decide) rfl ?_
  refine z_aload_n C dX2_takesOf_7 rfl 1 rfl ?_
  refine z_iload_n C dX2_takesOf_8 rfl 2 rfl ?_
  refine z_iconst C dX2_takesOf_9 (v := 2) (by decide) ?_
  obtain ⟨r3, hc4, hf⟩ := q_bd hf
  refine z_cVi C (st := []) (c_X2_isOfKind ho0 hc4) mw_X2_isOfKind ml_X2_56 ho0 (by decide) rfl dX2_takesOf_10 rfl rfl rfl ⟨Nat.le_of_ble_eq_true rfl, Nat.le_of_ble_eq_true rfl⟩ rfl (Nat.le_of_ble_eq_true rfl) ?_
  exact z_if_eq C dX2_takesOf_13 (by decide) (fun h => z_sub [1, 2, 0] rfl (b_X2_takesOf_24 C hr hk r3.1 o0 x1 r1.2 ho0 (q_t hf h))) (fun h => z_sub [1, 2, 0] rfl (b_X2_takesOf_16 C hr hk r3.1 o0 x1 r1.2 ho0 (q_f hf h)))
def f_X2_takesOf (z : St) (o0 : Nat) (x1 : Int32) : Option (St × Int32) := f_X2_takesOf_0 z o0 x1
theorem c_X2_takesOf {l : Launch} {g : Ga} {A : Nat → Prop} {z : St} {o0 : Nat} {x1 : Int32} (ho0 : kd o0 = 2) {res : St × Int32} (hf : f_X2_takesOf z o0 x1 = some res) : CI l g A yX2_takesOf cX2_takesOf 4 (some .int) rm_X2_takesOf [.ref (g.1 o0), .int x1] z res :=
  e_CI (by decide) (Nat.le_of_ble_eq_true rfl) rfl (fun p e s m args below meth c C hr hk => z_sub [0, 1] rfl (b_X2_takesOf_0 C hr hk z o0 x1 ho0 hf))
abbrev rm_X2_coolsOf : Room := { frames := 3, cells := 0, slots := 0, locals := 67 }
def f_X2_coolsOf_16  (z : St) (x2 : Int32) : Option (St × Int32) :=
  some (z, x2 + 5)
theorem b_X2_coolsOf_16 {p : Program} {l : Launch} {e : Env} {s : State} {m : MethodId} {args : Array Value} {below : List Frame} {meth : Method} {c : Code} {g : Ga} {A : Nat → Prop} (C : Cx l g A p s m args c cX2_coolsOf 3 RX2 (rm_X2_coolsOf) (0, 0)) (hr : meth.sig.returnType = (some .int)) (hk : meth.locks = false)   (z : St) (x2 : Int32)  {res : St × Int32} (hf : f_X2_coolsOf_16  z x2 = some res) : Zj p l e (rm_X2_coolsOf) s m args below meth c g A 3 (0, 0) (QI g A below args s res) z 16 [(2, .int x2)] [] := by
  unfold f_X2_coolsOf_16 at hf
  refine z_iload_n C dX2_coolsOf_16 rfl 0 rfl ?_
  refine z_iconst C dX2_coolsOf_17 (v := 5) (by decide) ?_
  refine z_iadd C dX2_coolsOf_18 ?_
  cases hf
  exact z_iret C hr hk dX2_coolsOf_19
def f_X2_coolsOf_36  (z : St) (s0 : Int32) : Option (St × Int32) :=
  some (z, s0)
theorem b_X2_coolsOf_36 {p : Program} {l : Launch} {e : Env} {s : State} {m : MethodId} {args : Array Value} {below : List Frame} {meth : Method} {c : Code} {g : Ga} {A : Nat → Prop} (C : Cx l g A p s m args c cX2_coolsOf 3 RX2 (rm_X2_coolsOf) (0, 0)) (hr : meth.sig.returnType = (some .int)) (hk : meth.locks = false)   (z : St) (s0 : Int32)  {res : St × Int32} (hf : f_X2_coolsOf_36  z s0 = some res) : Zj p l e (rm_X2_coolsOf) s m args below meth c g A 3 (0, 0) (QI g A below args s res) z 36 [] [.int s0] := by
  unfold f_X2_coolsOf_36 at hf
  cases hf
  exact z_iret C hr hk dX2_coolsOf_36
def f_X2_coolsOf_29  (z : St) (x2 : Int32) : Option (St × Int32) :=
  f_X2_coolsOf_36 z (x2 * 2)
theorem b_X2_coolsOf_29 {p : Program} {l : Launch} {e : Env} {s : State} {m : MethodId} {args : Array Value} {below : List Frame} {meth : Method} {c : Code} {g : Ga} {A : Nat → Prop} (C : Cx l g A p s m args c cX2_coolsOf 3 RX2 (rm_X2_coolsOf) (0, 0)) (hr : meth.sig.returnType = (some .int)) (hk : meth.locks = false)   (z : St) (x2 : Int32)  {res : St × Int32} (hf : f_X2_coolsOf_29  z x2 = some res) : Zj p l e (rm_X2_coolsOf) s m args below meth c g A 3 (0, 0) (QI g A below args s res) z 29 [(2, .int x2)] [] := by
  unfold f_X2_coolsOf_29 at hf
  refine z_iload_n C dX2_coolsOf_29 rfl 0 rfl ?_
  refine z_iconst C dX2_coolsOf_30 (v := 2) (by decide) ?_
  refine z_imul C dX2_coolsOf_31 ?_
  exact z_goto C dX2_coolsOf_32 (by decide) (z_sub [] rfl (b_X2_coolsOf_36 C hr hk z (x2 * 2) hf))
def f_X2_coolsOf_35  (z : St) (x2 : Int32) : Option (St × Int32) :=
  f_X2_coolsOf_36 z x2
theorem b_X2_coolsOf_35 {p : Program} {l : Launch} {e : Env} {s : State} {m : MethodId} {args : Array Value} {below : List Frame} {meth : Method} {c : Code} {g : Ga} {A : Nat → Prop} (C : Cx l g A p s m args c cX2_coolsOf 3 RX2 (rm_X2_coolsOf) (0, 0)) (hr : meth.sig.returnType = (some .int)) (hk : meth.locks = false)   (z : St) (x2 : Int32)  {res : St × Int32} (hf : f_X2_coolsOf_35  z x2 = some res) : Zj p l e (rm_X2_coolsOf) s m args below meth c g A 3 (0, 0) (QI g A below args s res) z 35 [(2, .int x2)] [] := by
  unfold f_X2_coolsOf_35 at hf
  refine z_iload_n C dX2_coolsOf_35 rfl 0 rfl ?_
  exact z_sub [] rfl (b_X2_coolsOf_36 C hr hk z x2 hf)
def f_X2_coolsOf_20  (z : St) (o0 : Nat) (x1 : Int32) (x2 : Int32) : Option (St × Int32) :=
  ((f_X2_isOfKind z o0 x1 4).bind fun r1 => if r1.2 = 0 then f_X2_coolsOf_35 r1.1 x2 else f_X2_coolsOf_29 r1.1 x2)
theorem b_X2_coolsOf_20 {p : Program} {l : Launch} {e : Env} {s : State} {m : MethodId} {args : Array Value} {below : List Frame} {meth : Method} {c : Code} {g : Ga} {A : Nat → Prop} (C : Cx l g A p s m args c cX2_coolsOf 3 RX2 (rm_X2_coolsOf) (0, 0)) (hr : meth.sig.returnType = (some .int)) (hk : meth.locks = false)   (z : St) (o0 : Nat) (x1 : Int32) (x2 : Int32) (ho0 : kd o0 = 2) {res : St × Int32} (hf : f_X2_coolsOf_20  z o0 x1 x2 = some res) : Zj p l e (rm_X2_coolsOf) s m args below meth c g A 3 (0, 0) (QI g A below args s res) z 20 [(0, .ref (g.1 o0)), (1, .int x1), (2, .int x2)] [] := by
  unfold f_X2_coolsOf_20 at hf
  refine z_aload_n C dX2_coolsOf_20 rfl 0 rfl ?_
  refine z_iload_n C dX2_coolsOf_21 rfl 1 rfl ?_
  refine z_iconst C dX2_coolsOf_22 (v := 4) (by decide) ?_
  obtain ⟨r1, hc2, hf⟩ := q_bd hf
  refine z_cVi C (st := []) (c_X2_isOfKind ho0 hc2) mw_X2_isOfKind ml_X2_56 ho0 (by decide) rfl dX2_coolsOf_23 rfl rfl rfl ⟨Nat.le_of_ble_eq_true rfl, Nat.le_of_ble_eq_true rfl⟩ rfl (Nat.le_of_ble_eq_true rfl) ?_
  exact z_if_eq C dX2_coolsOf_26 (by decide) (fun h => z_sub [2] rfl (b_X2_coolsOf_35 C hr hk r1.1 x2 (q_t hf h))) (fun h => z_sub [2] rfl (b_X2_coolsOf_29 C hr hk r1.1 x2 (q_f hf h)))
def f_X2_coolsOf_0  (z : St) (o0 : Nat) (x1 : Int32) : Option (St × Int32) :=
  ((f_X2_value z o0 3 x1).bind fun r1 => ((f_X2_isOfKind r1.1 o0 x1 1).bind fun r3 => if r3.2 = 0 then f_X2_coolsOf_20 r3.1 o0 x1 r1.2 else f_X2_coolsOf_16 r3.1 r1.2))
theorem b_X2_coolsOf_0 {p : Program} {l : Launch} {e : Env} {s : State} {m : MethodId} {args : Array Value} {below : List Frame} {meth : Method} {c : Code} {g : Ga} {A : Nat → Prop} (C : Cx l g A p s m args c cX2_coolsOf 3 RX2 (rm_X2_coolsOf) (0, 0)) (hr : meth.sig.returnType = (some .int)) (hk : meth.locks = false)   (z : St) (o0 : Nat) (x1 : Int32) (ho0 : kd o0 = 2) {res : St × Int32} (hf : f_X2_coolsOf_0  z o0 x1 = some res) : Zj p l e (rm_X2_coolsOf) s m args below meth c g A 3 (0, 0) (QI g A below args s res) z 0 [(0, .ref (g.1 o0)), (1, .int x1)] [] := by
  unfold f_X2_coolsOf_0 at hf
  refine z_aload_n C dX2_coolsOf_0 rfl 0 rfl ?_
  refine z_iconst C dX2_coolsOf_1 (v := 3) (by decide) ?_
  refine z_iload_n C dX2_coolsOf_2 rfl 1 rfl ?_
  obtain ⟨r1, hc2, hf⟩ := q_bd hf
  refine z_cVi C (st := []) (c_X2_value ho0 hc2) mw_X2_value ml_X2_38 ho0 (by decide) rfl dX2_coolsOf_3 rfl rfl rfl ⟨Nat.le_of_ble_eq_true rfl, Nat.le_of_ble_eq_true rfl⟩ rfl (Nat.le_of_ble_eq_true rfl) ?_
  refine z_istore_n C (lv2 := [(2, .int r1.2), (0, .ref (g.1 o0)), (1, .int x1)]) dX2_coolsOf_6 rfl (by decide) rfl ?_
  refine z_aload_n C dX2_coolsOf_7 rfl 1 rfl ?_
  refine z_iload_n C dX2_coolsOf_8 rfl 2 rfl ?_
  refine z_iconst C dX2_coolsOf_9 (v := 1) (by decide) ?_
  obtain ⟨r3, hc4, hf⟩ := q_bd hf
  refine z_cVi C (st := []) (c_X2_isOfKind ho0 hc4) mw_X2_isOfKind ml_X2_56 ho0 (by decide) rfl dX2_coolsOf_10 rfl rfl rfl ⟨Nat.le_of_ble_eq_true rfl, Nat.le_of_ble_eq_true rfl⟩ rfl (Nat.le_of_ble_eq_true rfl) ?_
  exact z_if_eq C dX2_coolsOf_13 (by decide) (fun h => z_sub [1, 2, 0] rfl (b_X2_coolsOf_20 C hr hk r3.1 o0 x1 r1.2 ho0 (q_t hf h))) (fun h => z_sub [0] rfl (b_X2_coolsOf_16 C hr hk r3.1 r1.2 (q_f hf h)))
def f_X2_coolsOf (z : St) (o0 : Nat) (x1 : Int32) : Option (St × Int32) := f_X2_coolsOf_0 z o0 x1
theorem c_X2_coolsOf {l : Launch} {g : Ga} {A : Nat → Prop} {z : St} {o0 : Nat} {x1 : Int32} (ho0 : kd o0 = 2) {res : St × Int32} (hf : f_X2_coolsOf z o0 x1 = some res) : CI l g A yX2_coolsOf cX2_coolsOf 3 (some .int) rm_X2_coolsOf [.ref (g.1 o0), .int x1] z res :=
  e_CI (by decide) (Nat.le_of_ble_eq_true rfl) rfl (fun p e s m args below meth c C hr hk => z_sub [0, 1] rfl (b_X2_coolsOf_0 C hr hk z o0 x1 ho0 hf))
