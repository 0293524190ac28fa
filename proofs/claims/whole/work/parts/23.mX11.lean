abbrev rm_X11_in : Room := { frames := 0, cells := 0, slots := 0, locals := 0 }
def f_X11_in_15  (z : St) (s0 : Int32) : Option (St × Int32) :=
  if zb s0 = true then some (z, s0) else none
theorem b_X11_in_15 {p : Program} {l : Launch} {e : Env} {s : State} {m : MethodId} {args : Array Value} {below : List Frame} {meth : Method} {c : Code} {g : Ga} {A : Nat → Prop} (C : Cx l g A p s m args c cX11_in 3 RX11 (rm_X11_in) (0, 0)) (hr : meth.sig.returnType = (some .boolean)) (hk : meth.locks = false)   (z : St) (s0 : Int32)  {res : St × Int32} (hf : f_X11_in_15  z s0 = some res) : Zj p l e (rm_X11_in) s m args below meth c g A 3 (0, 0) (QI g A below args s res) z 15 [] [.int s0] := by
  unfold f_X11_in_15 at hf
  obtain ⟨h1, hf⟩ := q_ck hf
  cases hf
  exact z_zret C hr hk h1 dX11_in_15
def f_X11_in_10  (z : St)  : Option (St × Int32) :=
  f_X11_in_15 z 1
theorem b_X11_in_10 {p : Program} {l : Launch} {e : Env} {s : State} {m : MethodId} {args : Array Value} {below : List Frame} {meth : Method} {c : Code} {g : Ga} {A : Nat → Prop} (C : Cx l g A p s m args c cX11_in 3 RX11 (rm_X11_in) (0, 0)) (hr : meth.sig.returnType = (some .boolean)) (hk : meth.locks = false)   (z : St)   {res : St × Int32} (hf : f_X11_in_10  z  = some res) : Zj p l e (rm_X11_in) s m args below meth c g A 3 (0, 0) (QI g A below args s res) z 10 [] [] := by
  unfold f_X11_in_10 at hf
  refine z_iconst C dX11_in_10 (v := 1) (by decide) ?_
  exact z_goto C dX11_in_11 (by decide) (z_sub [] rfl (b_X11_in_15 C hr hk z 1 hf))
def f_X11_in_14  (z : St)  : Option (St × Int32) :=
  f_X11_in_15 z 0
theorem b_X11_in_14 {p : Program} {l : Launch} {e : Env} {s : State} {m : MethodId} {args : Array Value} {below : List Frame} {meth : Method} {c : Code} {g : Ga} {A : Nat → Prop} (C : Cx l g A p s m args c cX11_in 3 RX11 (rm_X11_in) (0, 0)) (hr : meth.sig.returnType = (some .boolean)) (hk : meth.locks = false)   (z : St)   {res : St × Int32} (hf : f_X11_in_14  z  = some res) : Zj p l e (rm_X11_in) s m args below meth c g A 3 (0, 0) (QI g A below args s res) z 14 [] [] := by
  unfold f_X11_in_14 at hf
  refine z_iconst C dX11_in_14 (v := 0) (by decide) ?_
  exact z_sub [] rfl (b_X11_in_15 C hr hk z 0 hf)
def f_X11_in_5  (z : St) (x0 : Int32) (x2 : Int32) : Option (St × Int32) :=
  if x2 < x0 then f_X11_in_14 z else f_X11_in_10 z
theorem b_X11_in_5 {p : Program} {l : Launch} {e : Env} {s : State} {m : MethodId} {args : Array Value} {below : List Frame} {meth : Method} {c : Code} {g : Ga} {A : Nat → Prop} (C : Cx l g A p s m args c cX11_in 3 RX11 (rm_X11_in) (0, 0)) (hr : meth.sig.returnType = (some .boolean)) (hk : meth.locks = false)   (z : St) (x0 : Int32) (x2 : Int32)  {res : St × Int32} (hf : f_X11_in_5  z x0 x2 = some res) : Zj p l e (rm_X11_in) s m args below meth c g A 3 (0, 0) (QI g A below args s res) z 5 [(0, .int x0), (2, .int x2)] [] := by
  unfold f_X11_in_5 at hf
  refine z_iload_n C dX11_in_5 rfl 0 rfl ?_
  refine z_iload_n C dX11_in_6 rfl 1 rfl ?_
  exact z_icmp_gt C dX11_in_7 (by decide) (fun h => z_sub [] rfl (b_X11_in_14 C hr hk z (q_t hf h))) (fun h => z_sub [] rfl (b_X11_in_10 C hr hk z (q_f hf h)))
def f_X11_in_0  (z : St) (x0 : Int32) (x1 : Int32) (x2 : Int32) : Option (St × Int32) :=
  if x0 < x1 then f_X11_in_14 z else f_X11_in_5 z x0 x2
theorem b_X11_in_0 {p : Program} {l : Launch} {e : Env} {s : State} {m : MethodId} {args : Array Value} {below : List Frame} {meth : Method} {c : Code} {g : Ga} {A : Nat → Prop} (C : Cx l g A p s m args c cX11_in 3 RX11 (rm_X11_in) (0, 0)) (hr : meth.sig.returnType = (some .boolean)) (hk : meth.locks = false)   (z : St) (x0 : Int32) (x1 : Int32) (x2 : Int32)  {res : St × Int32} (hf : f_X11_in_0  z x0 x1 x2 = some res) : Zj p l e (rm_X11_in) s m args below meth c g A 3 (0, 0) (QI g A below args s res) z 0 [(0, .int x0), (1, .int x1), (2, .int x2)] [] := by
  unfold f_X11_in_0 at hf
  refine z_iload_n C dX11_in_0 rfl 0 rfl ?_
  refine z_iload_n C dX11_in_1 rfl 1 rfl ?_
  exact z_icmp_lt C dX11_in_2 (by decide) (fun h => z_sub [] rfl (b_X11_in_14 C hr hk z (q_t hf h))) (fun h => z_sub [0, 2] rfl (b_X11_in_5 C hr hk z x0 x2 (q_f hf h)))
def f_X11_in (z : St) (x0 : Int32) (x1 : Int32) (x2 : Int32) : Option (St × Int32) := f_X11_in_0 z x0 x1 x2
theorem c_X11_in {l : Launch} {g : Ga} {A : Nat → Prop} {z : St} {x0 : Int32} {x1 : Int32} {x2 : Int32}  {res : St × Int32} (hf : f_X11_in z x0 x1 x2 = some res) : CI l g A yX11_in cX11_in 3 (some .boolean) rm_X11_in [.int x0, .int x1, .int x2] z res :=
  e_CI (by decide) (Nat.le_of_ble_eq_true rfl) rfl (fun p e s m args below meth c C hr hk => z_sub [0, 1, 2] rfl (b_X11_in_0 C hr hk z x0 x1 x2  hf))
abbrev rm_X11_isJob : Room := { frames := 1, cells := 0, slots := 0, locals := 22 }
def f_X11_isJob_0  (z : St) (o0 : Nat) (x1 : Int32) : Option (St × Int32) :=
  ((f_X11_in z x1 0 ((z.1 o0 5) - 1)).bind fun r1 => if zb r1.2 = true then some (r1.1, r1.2) else none)
theorem b_X11_isJob_0 {p : Program} {l : Launch} {e : Env} {s : State} {m : MethodId} {args : Array Value} {below : List Frame} {meth : Method} {c : Code} {g : Ga} {A : Nat → Prop} (C : Cx l g A p s m args c cX11_isJob 2 RX11 (rm_X11_isJob) (0, 0)) (hr : meth.sig.returnType = (some .boolean)) (hk : meth.locks = false)   (z : St) (o0 : Nat) (x1 : Int32) (ho0 : kd o0 = 11) {res : St × Int32} (hf : f_X11_isJob_0  z o0 x1 = some res) : Zj p l e (rm_X11_isJob) s m args below meth c g A 2 (0, 0) (QI g A below args s res) z 0 [(0, .ref (g.1 o0)), (1, .int x1)] [] := by
  unfold f_X11_isJob_0 at hf
  refine z_iload_n C dX11_isJob_0 rfl 1 rfl ?_
  refine z_iconst C dX11_isJob_1 (v := 0) (by decide) ?_
  refine z_aload_n C dX11_isJob_2 rfl 0 rfl ?_
  refine gf_X11_111 C dX11_isJob_3 ho0 ?_
  refine z_iconst C dX11_isJob_6 (v := 1) (by decide) ?_
  refine z_isub C dX11_isJob_7 ?_
  obtain ⟨r1, hc2, hf⟩ := q_bd hf
  refine z_cSi C (st := []) (c_X11_in  hc2) mw_X11_in ml_X11_114 dX11_isJob_8 rfl rfl rfl ⟨Nat.le_of_ble_eq_true rfl, Nat.le_of_ble_eq_true rfl⟩ rfl (Nat.le_of_ble_eq_true rfl) ?_
  obtain ⟨h3, hf⟩ := q_ck hf
  cases hf
  exact z_zret C hr hk h3 dX11_isJob_11
def f_X11_isJob (z : St) (o0 : Nat) (x1 : Int32) : Option (St × Int32) := f_X11_isJob_0 z o0 x1
theorem c_X11_isJob {l : Launch} {g : Ga} {A : Nat → Prop} {z : St} {o0 : Nat} {x1 : Int32} (ho0 : kd o0 = 11) {res : St × Int32} (hf : f_X11_isJob z o0 x1 = some res) : CI l g A yX11_isJob cX11_isJob 2 (some .boolean) rm_X11_isJob [.ref (g.1 o0), .int x1] z res :=
  e_CI (by decide) (Nat.le_of_ble_eq_true rfl) rfl (fun p e s m args below meth c C hr hk => z_sub [0, 1] rfl (b_X11_isJob_0 C hr hk z o0 x1 ho0 hf))
abbrev rm_X11_mayBe : Room := { frames := 1, cells := 0, slots := 0, locals := 22 }
def f_X11_mayBe_35  (z : St) (s0 : Int32) : Option (St × Int32) :=
  if zb s0 = true then some (z, s0) else none
theorem b_X11_mayBe_35 {p : Program} {l : Launch} {e : Env} {s : State} {m : MethodId} {args : Array Value} {below : List Frame} {meth : Method} {c : Code} {g : Ga} {A : Nat → Prop} (C : Cx l g A p s m args c cX11_mayBe 2 RX11 (rm_X11_mayBe) (0, 0)) (hr : meth.sig.returnType = (some .boolean)) (hk : meth.locks = false)   (z : St) (s0 : Int32)  {res : St × Int32} (hf : f_X11_mayBe_35  z s0 = some res) : Zj p l e (rm_X11_mayBe) s m args below meth c g A 2 (0, 0) (QI g A below args s res) z 35 [] [.int s0] := by
  unfold f_X11_mayBe_35 at hf
  obtain ⟨h1, hf⟩ := q_ck hf
  cases hf
  exact z_zret C hr hk h1 dX11_mayBe_35
def f_X11_mayBe_4  (z : St) (x1 : Int32) : Option (St × Int32) :=
  ((f_X11_in z x1 0 5).bind fun r1 => f_X11_mayBe_35 r1.1 r1.2)
theorem b_X11_mayBe_4 {p : Program} {l : Launch} {e : Env} {s : State} {m : MethodId} {args : Array Value} {below : List Frame} {meth : Method} {c : Code} {g : Ga} {A : Nat → Prop} (C : Cx l g A p s m args c cX11_mayBe 2 RX11 (rm_X11_mayBe) (0, 0)) (hr : meth.sig.returnType = (some .boolean)) (hk : meth.locks = false)   (z : St) (x1 : Int32)  {res : St × Int32} (hf : f_X11_mayBe_4  z x1 = some res) : Zj p l e (rm_X11_mayBe) s m args below meth c g A 2 (0, 0) (QI g A below args s res) z 4 [(1, .int x1)] [] := by
  unfold f_X11_mayBe_4 at hf
  refine z_iload_n C dX11_mayBe_4 rfl 0 rfl ?_
  refine z_iconst C dX11_mayBe_5 (v := 0) (by decide) ?_
  refine z_iconst C dX11_mayBe_6 (v := 5) (by decide) ?_
  obtain ⟨r1, hc2, hf⟩ := q_bd hf
  refine z_cSi C (st := []) (c_X11_in  hc2) mw_X11_in ml_X11_114 dX11_mayBe_7 rfl rfl rfl ⟨Nat.le_of_ble_eq_true rfl, Nat.le_of_ble_eq_true rfl⟩ rfl (Nat.le_of_ble_eq_true rfl) ?_
  exact z_goto C dX11_mayBe_10 (by decide) (z_sub [] rfl (b_X11_mayBe_35 C hr hk r1.1 r1.2 hf))
def f_X11_mayBe_18  (z : St) (x1 : Int32) : Option (St × Int32) :=
  ((f_X11_in z x1 1 20).bind fun r1 => f_X11_mayBe_35 r1.1 r1.2)
theorem b_X11_mayBe_18 {p : Program} {l : Launch} {e : Env} {s : State} {m : MethodId} {args : Array Value} {below : List Frame} {meth : Method} {c : Code} {g : Ga} {A : Nat → Prop} (C : Cx l g A p s m args c cX11_mayBe 2 RX11 (rm_X11_mayBe) (0, 0)) (hr : meth.sig.returnType = (some .boolean)) (hk : meth.locks = false)   (z : St) (x1 : Int32)  {res : St × Int32} (hf : f_X11_mayBe_18  z x1 = some res) : Zj p l e (rm_X11_mayBe) s m args below meth c g A 2 (0, 0) (QI g A below args s res) z 18 [(1, .int x1)] [] := by
  unfold f_X11_mayBe_18 at hf
  refine z_iload_n C dX11_mayBe_18 rfl 0 rfl ?_
  refine z_iconst C dX11_mayBe_19 (v := 1) (by decide) ?_
  refine z_bipush C dX11_mayBe_20 (v := 20) (by decide) ?_
  obtain ⟨r1, hc2, hf⟩ := q_bd hf
  refine z_cSi C (st := []) (c_X11_in  hc2) mw_X11_in ml_X11_114 dX11_mayBe_22 rfl rfl rfl ⟨Nat.le_of_ble_eq_true rfl, Nat.le_of_ble_eq_true rfl⟩ rfl (Nat.le_of_ble_eq_true rfl) ?_
  exact z_goto C dX11_mayBe_25 (by decide) (z_sub [] rfl (b_X11_mayBe_35 C hr hk r1.1 r1.2 hf))
def f_X11_mayBe_28  (z : St) (x1 : Int32) : Option (St × Int32) :=
  ((f_X11_in z x1 0 60).bind fun r1 => f_X11_mayBe_35 r1.1 r1.2)
theorem b_X11_mayBe_28 {p : Program} {l : Launch} {e : Env} {s : State} {m : MethodId} {args : Array Value} {below : List Frame} {meth : Method} {c : Code} {g : Ga} {A : Nat → Prop} (C : Cx l g A p s m args c cX11_mayBe 2 RX11 (rm_X11_mayBe) (0, 0)) (hr : meth.sig.returnType = (some .boolean)) (hk : meth.locks = false)   (z : St) (x1 : Int32)  {res : St × Int32} (hf : f_X11_mayBe_28  z x1 = some res) : Zj p l e (rm_X11_mayBe) s m args below meth c g A 2 (0, 0) (QI g A below args s res) z 28 [(1, .int x1)] [] := by
  unfold f_X11_mayBe_28 at hf
  refine z_iload_n C dX11_mayBe_28 rfl 0 rfl ?_
  refine z_iconst C dX11_mayBe_29 (v := 0) (by decide) ?_
  refine z_bipush C dX11_mayBe_30 (v := 60) (by decide) ?_
  obtain ⟨r1, hc2, hf⟩ := q_bd hf
  refine z_cSi C (st := []) (c_X11_in  hc2) mw_X11_in ml_X11_114 dX11_mayBe_32 rfl rfl rfl ⟨Nat.le_of_ble_eq_true rfl, Nat.le_of_ble_eq_true rfl⟩ rfl (Nat.le_of_ble_eq_true rfl) ?_
  exact z_sub [] rfl (b_X11_mayBe_35 C hr hk r1.1 r1.2 hf)
def f_X11_mayBe_13  (z : St) (x0 : Int32) (x1 : Int32) : Option (St × Int32) :=
  if x0 = 2 then f_X11_mayBe_18 z x1 else f_X11_mayBe_28 z x1
theorem b_X11_mayBe_13 {p : Program} {l : Launch} {e : Env} {s : State} {m : MethodId} {args : Array Value} {below : List Frame} {meth : Method} {c : Code} {g : Ga} {A : Nat → Prop} (C : Cx l g A p s m args c cX11_mayBe 2 RX11 (rm_X11_mayBe) (0, 0)) (hr : meth.sig.returnType = (some .boolean)) (hk : meth.locks = false)   (z : St) (x0 : Int32) (x1 : Int32)  {res : St × Int32} (hf : f_X11_mayBe_13  z x0 x1 = some res) : Zj p l e (rm_X11_mayBe) s m args below meth c g A 2 (0, 0) (QI g A below args s res) z 13 [(0, .int x0), (1, .int x1)] [] := by
  unfold f_X11_mayBe_13 at hf
  refine z_iload_n C dX11_mayBe_13 rfl 0 rfl ?_
  refine z_iconst C dX11_mayBe_14 (v := 2) (by decide) ?_
  exact z_icmp_ne C dX11_mayBe_15 (by decide) (fun h => z_sub [1] rfl (b_X11_mayBe_28 C hr hk z x1 (q_f hf h))) (fun h => z_sub [1] rfl (b_X11_mayBe_18 C hr hk z x1 (q_t hf h)))
def f_X11_mayBe_0  (z : St) (x0 : Int32) (x1 : Int32) : Option (St × Int32) :=
  if x0 = 0 then f_X11_mayBe_4 z x1 else f_X11_mayBe_13 z x0 x1
theorem b_X11_mayBe_0 {p : Program} {l : Launch} {e : Env} {s : State} {m : MethodId} {args : Array Value} {below : List Frame} {meth : Method} {c : Code} {g : Ga} {A : Nat → Prop} (C : Cx l g A p s m args c cX11_mayBe 2 RX11 (rm_X11_mayBe) (0, 0)) (hr : meth.sig.returnType = (some .boolean)) (hk : meth.locks = false)   (z : St) (x0 : Int32) (x1 : Int32)  {res : St × Int32} (hf : f_X11_mayBe_0  z x0 x1 = some res) : Zj p l e (rm_X11_mayBe) s m args below meth c g A 2 (0, 0) (QI g A below args s res) z 0 [(0, .int x0), (1, .int x1)] [] := by
  unfold f_X11_mayBe_0 at hf
  refine z_iload_n C dX11_mayBe_0 rfl 0 rfl ?_
  exact z_if_ne C dX11_mayBe_1 (by decide) (fun h => z_sub [0, 1] rfl (b_X11_mayBe_13 C hr hk z x0 x1 (q_f hf h))) (fun h => z_sub [1] rfl (b_X11_mayBe_4 C hr hk z x1 (q_t hf h)))
def f_X11_mayBe (z : St) (x0 : Int32) (x1 : Int32) : Option (St × Int32) := f_X11_mayBe_0 z x0 x1
theorem c_X11_mayBe {l : Launch} {g : Ga} {A : Nat → Prop} {z : St} {x0 : Int32} {x1 : Int32}  {res : St × Int32} (hf : f_X11_mayBe z x0 x1 = some res) : CI l g A yX11_mayBe cX11_mayBe 2 (some .boolean) rm_X11_mayBe [.int x0, .int x1] z res :=
  e_CI (by decide) (Nat.le_of_ble_eq_true rfl) rfl (fun p e s m args below meth c C hr hk => z_sub [0, 1] rfl (b_X11_mayBe_0 C hr hk z x0 x1  hf))
abbrev rm_X11_over : Room := { frames := 0, cells := 0, slots := 0, locals := 0 }
def f_X11_over_36  (z : St) (s0 : Int32) : Option (St × Int32) :=
  some (z, s0)
theorem b_X11_over_36 {p : Program} {l : Launch} {e : Env} {s : State} {m : MethodId} {args : Array Value} {below : List Frame} {meth : Method} {c : Code} {g : Ga} {A : Nat → Prop} (C : Cx l g A p s m args c cX11_over 1 RX11 (rm_X11_over) (0, 0)) (hr : meth.sig.returnType = (some .int)) (hk : meth.locks = false)   (z : St) (s0 : Int32)  {res : St × Int32} (hf : f_X11_over_36  z s0 = some res) : Zj p l e (rm_X11_over) s m args below meth c g A 1 (0, 0) (QI g A below args s res) z 36 [] [.int s0] := by
  unfold f_X11_over_36 at hf
  cases hf
  exact z_iret C hr hk dX11_over_36
def f_X11_over_4  (z : St)  : Option (St × Int32) :=
  f_X11_over_36 z ((-1))
theorem b_X11_over_4 {p : Program} {l : Launch} {e : Env} {s : State} {m : MethodId} {args : Array Value} {below : List Frame} {meth : Method} {c : Code} {g : Ga} {A : Nat → Prop} (C : Cx l g A p s m args c cX11_over 1 RX11 (rm_X11_over) (0, 0)) (hr : meth.sig.returnType = (some .int)) (hk : meth.locks = false)   (z : St)   {res : St × Int32} (hf : f_X11_over_4  z  = some res) : Zj p l e (rm_X11_over) s m args below meth c g A 1 (0, 0) (QI g A below args s res) z 4 [] [] := by
  unfold f_X11_over_4 at hf
  refine z_iconst C dX11_over_4 (v := (-1)) (by decide) ?_
  exact z_goto C dX11_over_5 (by decide) (z_sub [] rfl (b_X11_over_36 C hr hk z ((-1)) hf))
def f_X11_over_13  (z : St)  : Option (St × Int32) :=
  f_X11_over_36 z 1
theorem b_X11_over_13 {p : Program} {l : Launch} {e : Env} {s : State} {m : MethodId} {args : Array Value} {below : List Frame} {meth : Method} {c : Code} {g : Ga} {A : Nat → Prop} (C : Cx l g A p s m args c cX11_over 1 RX11 (rm_X11_over) (0, 0)) (hr : meth.sig.returnType = (some .int)) (hk : meth.locks = false)   (z : St)   {res : St × Int32} (hf : f_X11_over_13  z  = some res) : Zj p l e (rm_X11_over) s m args below meth c g A 1 (0, 0) (QI g A below args s res) z 13 [] [] := by
  unfold f_X11_over_13 at hf
  refine z_iconst C dX11_over_13 (v := 1) (by decide) ?_
  exact z_goto C dX11_over_14 (by decide) (z_sub [] rfl (b_X11_over_36 C hr hk z 1 hf))
def f_X11_over_22  (z : St)  : Option (St × Int32) :=
  f_X11_over_36 z 2
theorem b_X11_over_22 {p : Program} {l : Launch} {e : Env} {s : State} {m : MethodId} {args : Array Value} {below : List Frame} {meth : Method} {c : Code} {g : Ga} {A : Nat → Prop} (C : Cx l g A p s m args c cX11_over 1 RX11 (rm_X11_over) (0, 0)) (hr : meth.sig.returnType = (some .int)) (hk : meth.locks = false)   (z : St)   {res : St × Int32} (hf : f_X11_over_22  z  = some res) : Zj p l e (rm_X11_over) s m args below meth c g A 1 (0, 0) (QI g A below args s res) z 22 [] [] := by
  unfold f_X11_over_22 at hf
  refine z_iconst C dX11_over_22 (v := 2) (by decide) ?_
  exact z_goto C dX11_over_23 (by decide) (z_sub [] rfl (b_X11_over_36 C hr hk z 2 hf))
def f_X11_over_31  (z : St)  : Option (St × Int32) :=
  f_X11_over_36 z 4
theorem b_X11_over_31 {p : Program} {l : Launch} {e : Env} {s : State} {m : MethodId} {args : Array Value} {below : List Frame} {meth : Method} {c : Code} {g : Ga} {A : Nat → Prop} (C : Cx l g A p s m args c cX11_over 1 RX11 (rm_X11_over) (0, 0)) (hr : meth.sig.returnType = (some .int)) (hk : meth.locks = false)   (z : St)   {res : St × Int32} (hf : f_X11_over_31  z  = some res) : Zj p l e (rm_X11_over) s m args below meth c g A 1 (0, 0) (QI g A below args s res) z 31 [] [] := by
  unfold f_X11_over_31 at hf
  refine z_iconst C dX11_over_31 (v := 4) (by decide) ?_
  exact z_goto C dX11_over_32 (by decide) (z_sub [] rfl (b_X11_over_36 C hr hk z 4 hf))
def f_X11_over_35  (z : St)  : Option (St × Int32) :=
  f_X11_over_36 z 0
theorem b_X11_over_35 {p : Program} {l : Launch} {e : Env} {s : State} {m : MethodId} {args : Array Value} {below : List Frame} {meth : Method} {c : Code} {g : Ga} {A : Nat → Prop} (C : Cx l g A p s m args c cX11_over 1 RX11 (rm_X11_over) (0, 0)) (hr : meth.sig.returnType = (some .int)) (hk : meth.locks = false)   (z : St)   {res : St × Int32} (hf : f_X11_over_35  z  = some res) : Zj p l e (rm_X11_over) s m args below meth c g A 1 (0, 0) (QI g A below args s res) z 35 [] [] := by
  unfold f_X11_over_35 at hf
  refine z_iconst C dX11_over_35 (v := 0) (by decide) ?_
  exact z_sub [] rfl (b_X11_over_36 C hr hk z 0 hf)
def f_X11_over_26  (z : St) (x0 : Int32) : Option (St × Int32) :=
  if x0 = 5 then f_X11_over_31 z else f_X11_over_35 z
theorem b_X11_over_26 {p : Program} {l : Launch} {e : Env} {s : State} {m : MethodId} {args : Array Value} {below : List Frame} {meth : Method} {c : Code} {g : Ga} {A : Nat → Prop} (C : Cx l g A p s m args c cX11_over 1 RX11 (rm_X11_over) (0, 0)) (hr : meth.sig.returnType = (some .int)) (hk : meth.locks = false)   (z : St) (x0 : Int32)  {res : St × Int32} (hf : f_X11_over_26  z x0 = some res) : Zj p l e (rm_X11_over) s m args below meth c g A 1 (0, 0) (QI g A below args s res) z 26 [(0, .int x0)] [] := by
  unfold f_X11_over_26 at hf
  refine z_iload_n C dX11_over_26 rfl 0 rfl ?_
  refine z_iconst C dX11_over_27 (v := 5) (by decide) ?_
  exact z_icmp_ne C dX11_over_28 (by decide) (fun h => z_sub [] rfl (b_X11_over_35 C hr hk z (q_f hf h))) (fun h => z_sub [] rfl (b_X11_over_31 C hr hk z (q_t hf h)))
def f_X11_over_17  (z : St) (x0 : Int32) : Option (St × Int32) :=
  if x0 = 4 then f_X11_over_22 z else f_X11_over_26 z x0
theorem b_X11_over_17 {p : Program} {l : Launch} {e : Env} {s : State} {m : MethodId} {args : Array Value} {below : List Frame} {meth : Method} {c : Code} {g : Ga} {A : Nat → Prop} (C : Cx l g A p s m args c cX11_over 1 RX11 (rm_X11_over) (0, 0)) (hr : meth.sig.returnType = (some .int)) (hk : meth.locks = false)   (z : St) (x0 : Int32)  {res : St × Int32} (hf : f_X11_over_17  z x0 = some res) : Zj p l e (rm_X11_over) s m args below meth c g A 1 (0, 0) (QI g A below args s res) z 17 [(0, .int x0)] [] := by
  unfold f_X11_over_17 at hf
  refine z_iload_n C dX11_over_17 rfl 0 rfl ?_
  refine z_iconst C dX11_over_18 (v := 4) (by decide) ?_
  exact z_icmp_ne C dX11_over_19 (by decide) (fun h => z_sub [0] rfl (b_X11_over_26 C hr hk z x0 (q_f hf h))) (fun h => z_sub [] rfl (b_X11_over_22 C hr hk z (q_t hf h)))
def f_X11_over_8  (z : St) (x0 : Int32) : Option (St × Int32) :=
  if x0 = 3 then f_X11_over_13 z else f_X11_over_17 z x0
theorem b_X11_over_8 {p : Program} {l : Launch} {e : Env} {s : State} {m : MethodId} {args : Array Value} {below : List Frame} {meth : Method} {c : Code} {g : Ga} {A : Nat → Prop} (C : Cx l g A p s m args c cX11_over 1 RX11 (rm_X11_over) (0, 0)) (hr : meth.sig.returnType = (some .int)) (hk : meth.locks = false)   (z : St) (x0 : Int32)  {res : St × Int32} (hf : f_X11_over_8  z x0 = some res) : Zj p l e (rm_X11_over) s m args below meth c g A 1 (0, 0) (QI g A below args s res) z 8 [(0, .int x0)] [] := by
  unfold f_X11_over_8 at hf
  refine z_iload_n C dX11_over_8 rfl 0 rfl ?_
  refine z_iconst C dX11_over_9 (v := 3) (by decide) ?_
  exact z_icmp_ne C dX11_over_10 (by decide) (fun h => z_sub [0] rfl (b_X11_over_17 C hr hk z x0 (q_f hf h))) (fun h => z_sub [] rfl (b_X11_over_13 C hr hk z (q_t hf h)))
def f_X11_over_0  (z : St) (x0 : Int32) : Option (St × Int32) :=
  if x0 = 0 then f_X11_over_4 z else f_X11_over_8 z x0
theorem b_X11_over_0 {p : Program} {l : Launch} {e : Env} {s : State} {m : MethodId} {args : Array Value} {below : List Frame} {meth : Method} {c : Code} {g : Ga} {A : Nat → Prop} (C : Cx l g A p s m args c cX11_over 1 RX11 (rm_X11_over) (0, 0)) (hr : meth.sig.returnType = (some .int)) (hk : meth.locks = false)   (z : St) (x0 : Int32)  {res : St × Int32} (hf : f_X11_over_0  z x0 = some res) : Zj p l e (rm_X11_over) s m args below meth c g A 1 (0, 0) (QI g A below args s res) z 0 [(0, .int x0)] [] := by
  unfold f_X11_over_0 at hf
  refine z_iload_n C dX11_over_0 rfl 0 rfl ?_
  exact z_if_ne C dX11_over_1 (by decide) (fun h => z_sub [0] rfl (b_X11_over_8 C hr hk z x0 (q_f hf h))) (fun h => z_sub [] rfl (b_X11_over_4 C hr hk z (q_t hf h)))
def f_X11_over (z : St) (x0 : Int32) : Option (St × Int32) := f_X11_over_0 z x0
theorem c_X11_over {l : Launch} {g : Ga} {A : Nat → Prop} {z : St} {x0 : Int32}  {res : St × Int32} (hf : f_X11_over z x0 = some res) : CI l g A yX11_over cX11_over 1 (some .int) rm_X11_over [.int x0] z res :=
  e_CI (by decide) (Nat.le_of_ble_eq_true rfl) rfl (fun p e s m args below meth c C hr hk => z_sub [0] rfl (b_X11_over_0 C hr hk z x0  hf))
abbrev rm_X11_isUnder : Room := { frames := 1, cells := 0, slots := 0, locals := 20 }
def f_X11_isUnder_12 (K2 : St → Int32 → Int32 → Option (St × Int32)) (z : St) (x1 : Int32) (x2 : Int32) : Option (St × Int32) :=
  ((f_X11_over z x2).bind fun r1 => K2 r1.1 x1 r1.2)
theorem b_X11_isUnder_12 {p : Program} {l : Launch} {e : Env} {s : State} {m : MethodId} {args : Array Value} {below : List Frame} {meth : Method} {c : Code} {g : Ga} {A : Nat → Prop} (C : Cx l g A p s m args c cX11_isUnder 3 RX11 (rm_X11_isUnder) (0, 0)) (hr : meth.sig.returnType = (some .boolean)) (hk : meth.locks = false) {K2 : St → Int32 → Int32 → Option (St × Int32)} (hK2 : ∀ (z : St) (x1 : Int32) (x2 : Int32)  {res : St × Int32}, K2 z x1 x2 = some res → Zj p l e (rm_X11_isUnder) s m args below meth c g A 3 (0, 0) (QI g A below args s res) z 2 [(1, .int x1), (2, .int x2)] []) (z : St) (x1 : Int32) (x2 : Int32)  {res : St × Int32} (hf : f_X11_isUnder_12 K2 z x1 x2 = some res) : Zj p l e (rm_X11_isUnder) s m args below meth c g A 3 (0, 0) (QI g A below args s res) z 12 [(1, .int x1), (2, .int x2)] [] := by
  unfold f_X11_isUnder_12 at hf
  refine z_iload_n C dX11_isUnder_12 rfl 1 rfl ?_
  obtain ⟨r1, hc2, hf⟩ := q_bd hf
  refine z_cSi C (st := []) (c_X11_over  hc2) mw_X11_over ml_X11_118 dX11_isUnder_13 rfl rfl rfl ⟨Nat.le_of_ble_eq_true rfl, Nat.le_of_ble_eq_true rfl⟩ rfl (Nat.le_of_ble_eq_true rfl) ?_
  refine z_istore_n C (lv2 := [(2, .int r1.2), (1, .int x1)]) dX11_isUnder_16 rfl (by decide) rfl ?_
  exact z_goto C dX11_isUnder_17 (by decide) (z_sub [1, 0] rfl (hK2 r1.1 x1 r1.2 hf))
def f_X11_isUnder_30  (z : St) (s0 : Int32) : Option (St × Int32) :=
  if zb s0 = true then some (z, s0) else none
theorem b_X11_isUnder_30 {p : Program} {l : Launch} {e : Env} {s : State} {m : MethodId} {args : Array Value} {below : List Frame} {meth : Method} {c : Code} {g : Ga} {A : Nat → Prop} (C : Cx l g A p s m args c cX11_isUnder 3 RX11 (rm_X11_isUnder) (0, 0)) (hr : meth.sig.returnType = (some .boolean)) (hk : meth.locks = false)   (z : St) (s0 : Int32)  {res : St × Int32} (hf : f_X11_isUnder_30  z s0 = some res) : Zj p l e (rm_X11_isUnder) s m args below meth c g A 3 (0, 0) (QI g A below args s res) z 30 [] [.int s0] := by
  unfold f_X11_isUnder_30 at hf
  obtain ⟨h1, hf⟩ := q_ck hf
  cases hf
  exact z_zret C hr hk h1 dX11_isUnder_30
def f_X11_isUnder_25  (z : St)  : Option (St × Int32) :=
  f_X11_isUnder_30 z 1
theorem b_X11_isUnder_25 {p : Program} {l : Launch} {e : Env} {s : State} {m : MethodId} {args : Array Value} {below : List Frame} {meth : Method} {c : Code} {g : Ga} {A : Nat → Prop} (C : Cx l g A p s m args c cX11_isUnder 3 RX11 (rm_X11_isUnder) (0, 0)) (hr : meth.sig.returnType = (some .boolean)) (hk : meth.locks = false)   (z : St)   {res : St × Int32} (hf : f_X11_isUnder_25  z  = some res) : Zj p l e (rm_X11_isUnder) s m args below meth c g A 3 (0, 0) (QI g A below args s res) z 25 [] [] := by
  unfold f_X11_isUnder_25 at hf
  refine z_iconst C dX11_isUnder_25 (v := 1) (by decide) ?_
  exact z_goto C dX11_isUnder_26 (by decide) (z_sub [] rfl (b_X11_isUnder_30 C hr hk z 1 hf))
def f_X11_isUnder_29  (z : St)  : Option (St × Int32) :=
  f_X11_isUnder_30 z 0
theorem b_X11_isUnder_29 {p : Program} {l : Launch} {e : Env} {s : State} {m : MethodId} {args : Array Value} {below : List Frame} {meth : Method} {c : Code} {g : Ga} {A : Nat → Prop} (C : Cx l g A p s m args c cX11_isUnder 3 RX11 (rm_X11_isUnder) (0, 0)) (hr : meth.sig.returnType = (some .boolean)) (hk : meth.locks = false)   (z : St)   {res : St × Int32} (hf : f_X11_isUnder_29  z  = some res) : Zj p l e (rm_X11_isUnder) s m args below meth c g A 3 (0, 0) (QI g A below args s res) z 29 [] [] := by
  unfold f_X11_isUnder_29 at hf
  refine z_iconst C dX11_isUnder_29 (v := 0) (by decide) ?_
  exact z_sub [] rfl (b_X11_isUnder_30 C hr hk z 0 hf)
def f_X11_isUnder_20  (z : St) (x1 : Int32) (x2 : Int32) : Option (St × Int32) :=
  if x2 = x1 then f_X11_isUnder_25 z else f_X11_isUnder_29 z
theorem b_X11_isUnder_20 {p : Program} {l : Launch} {e : Env} {s : State} {m : MethodId} {args : Array Value} {below : List Frame} {meth : Method} {c : Code} {g : Ga} {A : Nat → Prop} (C : Cx l g A p s m args c cX11_isUnder 3 RX11 (rm_X11_isUnder) (0, 0)) (hr : meth.sig.returnType = (some .boolean)) (hk : meth.locks = false)   (z : St) (x1 : Int32) (x2 : Int32)  {res : St × Int32} (hf : f_X11_isUnder_20  z x1 x2 = some res) : Zj p l e (rm_X11_isUnder) s m args below meth c g A 3 (0, 0) (QI g A below args s res) z 20 [(1, .int x1), (2, .int x2)] [] := by
  unfold f_X11_isUnder_20 at hf
  refine z_iload_n C dX11_isUnder_20 rfl 1 rfl ?_
  refine z_iload_n C dX11_isUnder_21 rfl 0 rfl ?_
  exact z_icmp_ne C dX11_isUnder_22 (by decide) (fun h => z_sub [] rfl (b_X11_isUnder_29 C hr hk z (q_f hf h))) (fun h => z_sub [] rfl (b_X11_isUnder_25 C hr hk z (q_t hf h)))
def f_X11_isUnder_7 (K2 : St → Int32 → Int32 → Option (St × Int32)) (z : St) (x1 : Int32) (x2 : Int32) : Option (St × Int32) :=
  if x2 = x1 then f_X11_isUnder_20 z x1 x2 else f_X11_isUnder_12 K2 z x1 x2
theorem b_X11_isUnder_7 {p : Program} {l : Launch} {e : Env} {s : State} {m : MethodId} {args : Array Value} {below : List Frame} {meth : Method} {c : Code} {g : Ga} {A : Nat → Prop} (C : Cx l g A p s m args c cX11_isUnder 3 RX11 (rm_X11_isUnder) (0, 0)) (hr : meth.sig.returnType = (some .boolean)) (hk : meth.locks = false) {K2 : St → Int32 → Int32 → Option (St × Int32)} (hK2 : ∀ (z : St) (x1 : Int32) (x2 : Int32)  {res : St × Int32}, K2 z x1 x2 = some res → Zj p l e (rm_X11_isUnder) s m args below meth c g A 3 (0, 0) (QI g A below args s res) z 2 [(1, .int x1), (2, .int x2)] []) (z : St) (x1 : Int32) (x2 : Int32)  {res : St × Int32} (hf : f_X11_isUnder_7 K2 z x1 x2 = some res) : Zj p l e (rm_X11_isUnder) s m args below meth c g A 3 (0, 0) (QI g A below args s res) z 7 [(1, .int x1), (2, .int x2)] [] := by
  unfold f_X11_isUnder_7 at hf
  refine z_iload_n C dX11_isUnder_7 rfl 1 rfl ?_
  refine z_iload_n C dX11_isUnder_8 rfl 0 rfl ?_
  exact z_icmp_eq C dX11_isUnder_9 (by decide) (fun h => z_sub [0, 1] rfl (b_X11_isUnder_20 C hr hk z x1 x2 (q_t hf h))) (fun h => z_sub [0, 1] rfl (b_X11_isUnder_12 C hr hk hK2 z x1 x2 (q_f hf h)))
def f_X11_isUnder_2  : Nat → St → Int32 → Int32 → Option (St × Int32)
  | 0, _, _, _ => none
  | n + 1, z, x1, x2 => if x2 = ((-1)) then f_X11_isUnder_20 z x1 x2 else f_X11_isUnder_7 (f_X11_isUnder_2 n) z x1 x2
theorem b_X11_isUnder_2 {p : Program} {l : Launch} {e : Env} {s : State} {m : MethodId} {args : Array Value} {below : List Frame} {meth : Method} {c : Code} {g : Ga} {A : Nat → Prop} (C : Cx l g A p s m args c cX11_isUnder 3 RX11 (rm_X11_isUnder) (0, 0)) (hr : meth.sig.returnType = (some .boolean)) (hk : meth.locks = false)   : ∀ (n : Nat) (z : St) (x1 : Int32) (x2 : Int32)  {res : St × Int32} (_ : f_X11_isUnder_2  n z x1 x2 = some res), Zj p l e (rm_X11_isUnder) s m args below meth c g A 3 (0, 0) (QI g A below args s res) z 2 [(1, .int x1), (2, .int x2)] [] := by
  intro n
  induction n with
  | zero =>
    intro z x1 x2  res hf
    cases hf
  | succ n ih =>
    intro z x1 x2  res hf
    rw [f_X11_isUnder_2] at hf
    refine z_iload_n C dX11_isUnder_2 rfl 1 rfl ?_
    refine z_iconst C dX11_isUnder_3 (v := (-1)) (by decide) ?_
    exact z_icmp_eq C dX11_isUnder_4 (by decide) (fun h => z_sub [0, 1] rfl (b_X11_isUnder_20 C hr hk z x1 x2 (q_t hf h))) (fun h => z_sub [0, 1] rfl (b_X11_isUnder_7 C hr hk ih z x1 x2 (q_f hf h)))
def f_X11_isUnder_0  (z : St) (x0 : Int32) (x1 : Int32) : Option (St × Int32) :=
  f_X11_isUnder_2 FU z x1 x0
theorem b_X11_isUnder_0 {p : Program} {l : Launch} {e : Env} {s : State} {m : MethodId} {args : Array Value} {below : List Frame} {meth : Method} {c : Code} {g : Ga} {A : Nat → Prop} (C : Cx l g A p s m args c cX11_isUnder 3 RX11 (rm_X11_isUnder) (0, 0)) (hr : meth.sig.returnType = (some .boolean)) (hk : meth.locks = false)   (z : St) (x0 : Int32) (x1 : Int32)  {res : St × Int32} (hf : f_X11_isUnder_0  z x0 x1 = some res) : Zj p l e (rm_X11_isUnder) s m args below meth c g A 3 (0, 0) (QI g A below args s res) z 0 [(0, .int x0), (1, .int x1)] [] := by
  unfold f_X11_isUnder_0 at hf
  refine z_iload_n C dX11_isUnder_0 rfl 0 rfl ?_
  refine z_istore_n C (lv2 := [(2, .int x0), (0, .int x0), (1, .int x1)]) dX11_isUnder_1 rfl (by decide) rfl ?_
  exact z_sub [2, 0] rfl (b_X11_isUnder_2 C hr hk FU z x1 x0 hf)
def f_X11_isUnder (z : St) (x0 : Int32) (x1 : Int32) : Option (St × Int32) := f_X11_isUnder_0 z x0 x1
theorem c_X11_isUnder {l : Launch} {g : Ga} {A : Nat → Prop} {z : St} {x0 : Int32} {x1 : Int32}  {res : St × Int32} (hf : f_X11_isUnder z x0 x1 = some res) : CI l g A yX11_isUnder cX11_isUnder 3 (some .boolean) rm_X11_isUnder [.int x0, .int x1] z res :=
  e_CI (by decide) (Nat.le_of_ble_eq_true rfl) rfl (fun p e s m args below meth c C hr hk => z_sub [0, 1] rfl (b_X11_isUnder_0 C hr hk z x0 x1  hf))
abbrev rm_X11_comesOf : Room := { frames := 2, cells := 0, slots := 0, locals := 42 }
def f_X11_comesOf_10  (z : St) (o0 : Nat) (x1 : Int32) : Option (St × Int32) :=
  if inb x1 8 = true then (some (z, (z.1 (rf o0 2) (Int32.toNatClampNeg x1)) / 2)) else none
theorem b_X11_comesOf_10 {p : Program} {l : Launch} {e : Env} {s : State} {m : MethodId} {args : Array Value} {below : List Frame} {meth : Method} {c : Code} {g : Ga} {A : Nat → Prop} (C : Cx l g A p s m args c cX11_comesOf 2 RX11 (rm_X11_comesOf) (0, 0)) (hr : meth.sig.returnType = (some .int)) (hk : meth.locks = false)   (z : St) (o0 : Nat) (x1 : Int32) (ho0 : kd o0 = 11) {res : St × Int32} (hf : f_X11_comesOf_10  z o0 x1 = some res) : Zj p l e (rm_X11_comesOf) s m args below meth c g A 2 (0, 0) (QI g A below args s res) z 10 [(0, .ref (g.1 o0)), (1, .int x1)] [] := by
  unfold f_X11_comesOf_10 at hf
  refine z_aload_n C dX11_comesOf_10 rfl 0 rfl ?_
  refine gf_X11_13 C dX11_comesOf_11 ho0 ?_
  refine z_iload_n C dX11_comesOf_14 rfl 1 rfl ?_
  obtain ⟨h1, hf⟩ := q_ck hf
  refine z_iald C (n := 8) dX11_comesOf_15 (rt_11_2 _ (kd_lt ho0 (by decide)) ho0) (by decide) h1 ?_
  refine z_iconst C dX11_comesOf_16 (v := 2) (by decide) ?_
  refine z_idiv C dX11_comesOf_17 (by decide) ?_
  cases hf
  exact z_iret C hr hk dX11_comesOf_18
def f_X11_comesOf_49  (z : St) (s0 : Int32) : Option (St × Int32) :=
  some (z, s0)
theorem b_X11_comesOf_49 {p : Program} {l : Launch} {e : Env} {s : State} {m : MethodId} {args : Array Value} {below : List Frame} {meth : Method} {c : Code} {g : Ga} {A : Nat → Prop} (C : Cx l g A p s m args c cX11_comesOf 2 RX11 (rm_X11_comesOf) (0, 0)) (hr : meth.sig.returnType = (some .int)) (hk : meth.locks = false)   (z : St) (s0 : Int32)  {res : St × Int32} (hf : f_X11_comesOf_49  z s0 = some res) : Zj p l e (rm_X11_comesOf) s m args below meth c g A 2 (0, 0) (QI g A below args s res) z 49 [] [.int s0] := by
  unfold f_X11_comesOf_49 at hf
  cases hf
  exact z_iret C hr hk dX11_comesOf_49
def f_X11_comesOf_32  (z : St) (o0 : Nat) (x1 : Int32) : Option (St × Int32) :=
  if inb x1 8 = true then (f_X11_comesOf_49 z ((z.1 (rf o0 2) (Int32.toNatClampNeg x1)) + 3)) else none
theorem b_X11_comesOf_32 {p : Program} {l : Launch} {e : Env} {s : State} {m : MethodId} {args : Array Value} {below : List Frame} {meth : Method} {c : Code} {g : Ga} {A : Nat → Prop} (C : Cx l g A p s m args c cX11_comesOf 2 RX11 (rm_X11_comesOf) (0, 0)) (hr : meth.sig.returnType = (some .int)) (hk : meth.locks = false)   (z : St) (o0 : Nat) (x1 : Int32) (ho0 : kd o0 = 11) {res : St × Int32} (hf : f_X11_comesOf_32  z o0 x1 = some res) : Zj p l e (rm_X11_comesOf) s m args below meth c g A 2 (0, 0) (QI g A below args s res) z 32 [(0, .ref (g.1 o0)), (1, .int x1)] [] := by
  unfold f_X11_comesOf_32 at hf
  refine z_aload_n C dX11_comesOf_32 rfl 0 rfl ?_
  refine gf_X11_13 C dX11_comesOf_33 ho0 ?_
  refine z_iload_n C dX11_comesOf_36 rfl 1 rfl ?_
  obtain ⟨h1, hf⟩ := q_ck hf
  refine z_iald C (n := 8) dX11_comesOf_37 (rt_11_2 _ (kd_lt ho0 (by decide)) ho0) (by decide) h1 ?_
  refine z_iconst C dX11_comesOf_38 (v := 3) (by decide) ?_
  refine z_iadd C dX11_comesOf_39 ?_
  exact z_goto C dX11_comesOf_40 (by decide) (z_sub [] rfl (b_X11_comesOf_49 C hr hk z ((z.1 (rf o0 2) (Int32.toNatClampNeg x1)) + 3) hf))
def f_X11_comesOf_43  (z : St) (o0 : Nat) (x1 : Int32) : Option (St × Int32) :=
  if inb x1 8 = true then (f_X11_comesOf_49 z (z.1 (rf o0 2) (Int32.toNatClampNeg x1))) else none
theorem b_X11_comesOf_43 {p : Program} {l : Launch} {e : Env} {s : State} {m : MethodId} {args : Array Value} {below : List Frame} {meth : Method} {c : Code} {g : Ga} {A : Nat → Prop} (C : Cx l g A p s m args c cX11_comesOf 2 RX11 (rm_X11_comesOf) (0, 0)) (hr : meth.sig.returnType = (some .int)) (hk : meth.locks = false)   (z : St) (o0 : Nat) (x1 : Int32) (ho0 : kd o0 = 11) {res : St × Int32} (hf : f_X11_comesOf_43  z o0 x1 = some res) : Zj p l e (rm_X11_comesOf) s m args below meth c g A 2 (0, 0) (QI g A below args s res) z 43 [(0, .ref (g.1 o0)), (1, .int x1)] [] := by
  unfold f_X11_comesOf_43 at hf
  refine z_aload_n C dX11_comesOf_43 rfl 0 rfl ?_
  refine gf_X11_13 C dX11_comesOf_44 ho0 ?_
  refine z_iload_n C dX11_comesOf_47 rfl 1 rfl ?_
  obtain ⟨h1, hf⟩ := q_ck hf
  refine z_iald C (n := 8) dX11_comesOf_48 (rt_11_2 _ (kd_lt ho0 (by decide)) ho0) (by decide) h1 ?_
  exact z_sub [] rfl (b_X11_comesOf_49 C hr hk z (z.1 (rf o0 2) (Int32.toNatClampNeg x1)) hf)
def f_X11_comesOf_19  (z : St) (o0 : Nat) (x1 : Int32) : Option (St × Int32) :=
  if inb x1 8 = true then (((f_X11_isUnder z (z.1 (rf o0 1) (Int32.toNatClampNeg x1)) 4).bind fun r2 => if r2.2 = 0 then f_X11_comesOf_43 r2.1 o0 x1 else f_X11_comesOf_32 r2.1 o0 x1)) else none
theorem b_X11_comesOf_19 {p : Program} {l : Launch} {e : Env} {s : State} {m : MethodId} {args : Array Value} {below : List Frame} {meth : Method} {c : Code} {g : Ga} {A : Nat → Prop} (C : Cx l g A p s m args c cX11_comesOf 2 RX11 (rm_X11_comesOf) (0, 0)) (hr : meth.sig.returnType = (some .int)) (hk : meth.locks = false)   (z : St) (o0 : Nat) (x1 : Int32) (ho0 : kd o0 = 11) {res : St × Int32} (hf : f_X11_comesOf_19  z o0 x1 = some res) : Zj p l e (rm_X11_comesOf) s m args below meth c g A 2 (0, 0) (QI g A below args s res) z 19 [(0, .ref (g.1 o0)), (1, .int x1)] [] := by
  unfold f_X11_comesOf_19 at hf
  refine z_aload_n C dX11_comesOf_19 rfl 0 rfl ?_
  refine gf_X11_9 C dX11_comesOf_20 ho0 ?_
  refine z_iload_n C dX11_comesOf_23 rfl 1 rfl ?_
  obtain ⟨h1, hf⟩ := q_ck hf
  refine z_iald C (n := 8) dX11_comesOf_24 (rt_11_1 _ (kd_lt ho0 (by decide)) ho0) (by decide) h1 ?_
  refine z_iconst C dX11_comesOf_25 (v := 4) (by decide) ?_
  obtain ⟨r2, hc3, hf⟩ := q_bd hf
  refine z_cSi C (st := []) (c_X11_isUnder  hc3) mw_X11_isUnder ml_X11_122 dX11_comesOf_26 rfl rfl rfl ⟨Nat.le_of_ble_eq_true rfl, Nat.le_of_ble_eq_true rfl⟩ rfl (Nat.le_of_ble_eq_true rfl) ?_
  exact z_if_eq C dX11_comesOf_29 (by decide) (fun h => z_sub [0, 1] rfl (b_X11_comesOf_43 C hr hk r2.1 o0 x1 ho0 (q_t hf h))) (fun h => z_sub [0, 1] rfl (b_X11_comesOf_32 C hr hk r2.1 o0 x1 ho0 (q_f hf h)))
def f_X11_comesOf_0  (z : St) (o0 : Nat) (x1 : Int32) : Option (St × Int32) :=
  if inb x1 8 = true then (if (z.1 (rf o0 1) (Int32.toNatClampNeg x1)) = 3 then f_X11_comesOf_10 z o0 x1 else f_X11_comesOf_19 z o0 x1) else none
theorem b_X11_comesOf_0 {p : Program} {l : Launch} {e : Env} {s : State} {m : MethodId} {args : Array Value} {below : List Frame} {meth : Method} {c : Code} {g : Ga} {A : Nat → Prop} (C : Cx l g A p s m args c cX11_comesOf 2 RX11 (rm_X11_comesOf) (0, 0)) (hr : meth.sig.returnType = (some .int)) (hk : meth.locks = false)   (z : St) (o0 : Nat) (x1 : Int32) (ho0 : kd o0 = 11) {res : St × Int32} (hf : f_X11_comesOf_0  z o0 x1 = some res) : Zj p l e (rm_X11_comesOf) s m args below meth c g A 2 (0, 0) (QI g A below args s res) z 0 [(0, .ref (g.1 o0)), (1, .int x1)] [] := by
  unfold f_X11_comesOf_0 at hf
  refine z_aload_n C dX11_comesOf_0 rfl 0 rfl ?_
  refine gf_X11_9 C dX11_comesOf_1 ho0 ?_
  refine z_iload_n C dX11_comesOf_4 rfl 1 rfl ?_
  obtain ⟨h1, hf⟩ := q_ck hf
  refine z_iald C (n := 8) dX11_comesOf_5 (rt_11_1 _ (kd_lt ho0 (by decide)) ho0) (by decide) h1 ?_
  refine z_iconst C dX11_comesOf_6 (v := 3) (by decide) ?_
  exact z_icmp_ne C dX11_comesOf_7 (by decide) (fun h => z_sub [0, 1] rfl (b_X11_comesOf_19 C hr hk z o0 x1 ho0 (q_f hf h))) (fun h => z_sub [0, 1] rfl (b_X11_comesOf_10 C hr hk z o0 x1 ho0 (q_t hf h)))
def f_X11_comesOf (z : St) (o0 : Nat) (x1 : Int32) : Option (St × Int32) := f_X11_comesOf_0 z o0 x1
theorem c_X11_comesOf {l : Launch} {g : Ga} {A : Nat → Prop} {z : St} {o0 : Nat} {x1 : Int32} (ho0 : kd o0 = 11) {res : St × Int32} (hf : f_X11_comesOf z o0 x1 = some res) : CI l g A yX11_comesOf cX11_comesOf 2 (some .int) rm_X11_comesOf [.ref (g.1 o0), .int x1] z res :=
  e_CI (by decide) (Nat.le_of_ble_eq_true rfl) rfl (fun p e s m args below meth c C hr hk => z_sub [0, 1] rfl (b_X11_comesOf_0 C hr hk z o0 x1 ho0 hf))
abbrev rm_X11_takesOf : Room := { frames := 2, cells := 0, slots := 0, locals := 42 }
def f_X11_takesOf_59  (z : St) (s0 : Int32) : Option (St × Int32) :=
  some (z, s0)
theorem b_X11_takesOf_59 {p : Program} {l : Launch} {e : Env} {s : State} {m : MethodId} {args : Array Value} {below : List Frame} {meth : Method} {c : Code} {g : Ga} {A : Nat → Prop} (C : Cx l g A p s m args c cX11_takesOf 3 RX11 (rm_X11_takesOf) (0, 0)) (hr : meth.sig.returnType = (some .int)) (hk : meth.locks = false)   (z : St) (s0 : Int32)  {res : St × Int32} (hf : f_X11_takesOf_59  z s0 = some res) : Zj p l e (rm_X11_takesOf) s m args below meth c g A 3 (0, 0) (QI g A below args s res) z 59 [] [.int s0] := by
  unfold f_X11_takesOf_59 at hf
  cases hf
  exact z_iret C hr hk dX11_takesOf_59
def f_X11_takesOf_48  (z : St) (x2 : Int32) : Option (St × Int32) :=
  f_X11_takesOf_59 z (imax 1 (x2 - 1))
theorem b_X11_takesOf_48 {p : Program} {l : Launch} {e : Env} {s : State} {m : MethodId} {args : Array Value} {below : List Frame} {meth : Method} {c : Code} {g : Ga} {A : Nat → Prop} (C : Cx l g A p s m args c cX11_takesOf 3 RX11 (rm_X11_takesOf) (0, 0)) (hr : meth.sig.returnType = (some .int)) (hk : meth.locks = false)   (z : St) (x2 : Int32)  {res : St × Int32} (hf : f_X11_takesOf_48  z x2 = some res) : Zj p l e (rm_X11_takesOf) s m args below meth c g A 3 (0, 0) (QI g A below args s res) z 48 [(2, .int x2)] [] := by
  unfold f_X11_takesOf_48 at hf
  refine z_iconst C dX11_takesOf_48 (v := 1) (by decide) ?_
  refine z_iload_n C dX11_takesOf_49 rfl 0 rfl ?_
  refine z_iconst C dX11_takesOf_50 (v := 1) (by decide) ?_
  refine z_isub C dX11_takesOf_51 ?_
  refine z_mmax C (st := []) dX11_takesOf_52 ml_X11_126 mm_max.1 mm_i mm_max.2 ⟨Nat.le_of_ble_eq_true rfl, Nat.le_of_ble_eq_true rfl⟩ (Nat.le_of_ble_eq_true rfl) ?_
  exact z_goto C dX11_takesOf_55 (by decide) (z_sub [] rfl (b_X11_takesOf_59 C hr hk z (imax 1 (x2 - 1)) hf))
def f_X11_takesOf_58  (z : St) (x2 : Int32) : Option (St × Int32) :=
  f_X11_takesOf_59 z x2
theorem b_X11_takesOf_58 {p : Program} {l : Launch} {e : Env} {s : State} {m : MethodId} {args : Array Value} {below : List Frame} {meth : Method} {c : Code} {g : Ga} {A : Nat → Prop} (C : Cx l g A p s m args c cX11_takesOf 3 RX11 (rm_X11_takesOf) (0, 0)) (hr : meth.sig.returnType = (some .int)) (hk : meth.locks = false)   (z : St) (x2 : Int32)  {res : St × Int32} (hf : f_X11_takesOf_58  z x2 = some res) : Zj p l e (rm_X11_takesOf) s m args below meth c g A 3 (0, 0) (QI g A below args s res) z 58 [(2, .int x2)] [] := by
  unfold f_X11_takesOf_58 at hf
  refine z_iload_n C dX11_takesOf_58 rfl 0 rfl ?_
  exact z_sub [] rfl (b_X11_takesOf_59 C hr hk z x2 hf)
def f_X11_takesOf_37  (z : St) (o0 : Nat) (x1 : Int32) (s0 : Int32) : Option (St × Int32) :=
  if inb x1 8 = true then (if (z.1 (rf o0 1) (Int32.toNatClampNeg x1)) = 5 then f_X11_takesOf_48 z s0 else f_X11_takesOf_58 z s0) else none
theorem b_X11_takesOf_37 {p : Program} {l : Launch} {e : Env} {s : State} {m : MethodId} {args : Array Value} {below : List Frame} {meth : Method} {c : Code} {g : Ga} {A : Nat → Prop} (C : Cx l g A p s m args c cX11_takesOf 3 RX11 (rm_X11_takesOf) (0, 0)) (hr : meth.sig.returnType = (some .int)) (hk : meth.locks = false)   (z : St) (o0 : Nat) (x1 : Int32) (s0 : Int32) (ho0 : kd o0 = 11) {res : St × Int32} (hf : f_X11_takesOf_37  z o0 x1 s0 = some res) : Zj p l e (rm_X11_takesOf) s m args below meth c g A 3 (0, 0) (QI g A below args s res) z 37 [(0, .ref (g.1 o0)), (1, .int x1)] [.int s0] := by
  unfold f_X11_takesOf_37 at hf
  refine z_istore_n C (lv2 := [(2, .int s0), (0, .ref (g.1 o0)), (1, .int x1)]) dX11_takesOf_37 rfl (by decide) rfl ?_
  refine z_aload_n C dX11_takesOf_38 rfl 1 rfl ?_
  refine gf_X11_9 C dX11_takesOf_39 ho0 ?_
  refine z_iload_n C dX11_takesOf_42 rfl 2 rfl ?_
  obtain ⟨h1, hf⟩ := q_ck hf
  refine z_iald C (n := 8) dX11_takesOf_43 (rt_11_1 _ (kd_lt ho0 (by decide)) ho0) (by decide) h1 ?_
  refine z_iconst C dX11_takesOf_44 (v := 5) (by decide) ?_
  exact z_icmp_ne C dX11_takesOf_45 (by decide) (fun h => z_sub [0] rfl (b_X11_takesOf_58 C hr hk z s0 (q_f hf h))) (fun h => z_sub [0] rfl (b_X11_takesOf_48 C hr hk z s0 (q_t hf h)))
def f_X11_takesOf_13  (z : St) (o0 : Nat) (x1 : Int32) : Option (St × Int32) :=
  if inb x1 8 = true then (if inb x1 8 = true then (f_X11_takesOf_37 z o0 x1 ((z.1 (rf o0 3) (Int32.toNatClampNeg x1)) + ((z.1 (rf o0 3) (Int32.toNatClampNeg x1)) / 4))) else none) else none
theorem b_X11_takesOf_13 {p : Program} {l : Launch} {e : Env} {s : State} {m : MethodId} {args : Array Value} {below : List Frame} {meth : Method} {c : Code} {g : Ga} {A : Nat → Prop} (C : Cx l g A p s m args c cX11_takesOf 3 RX11 (rm_X11_takesOf) (0, 0)) (hr : meth.sig.returnType = (some .int)) (hk : meth.locks = false)   (z : St) (o0 : Nat) (x1 : Int32) (ho0 : kd o0 = 11) {res : St × Int32} (hf : f_X11_takesOf_13  z o0 x1 = some res) : Zj p l e (rm_X11_takesOf) s m args below meth c g A 3 (0, 0) (QI g A below args s res) z 13 [(0, .ref (g.1 o0)), (1, .int x1)] [] := by
  unfold f_X11_takesOf_13 at hf
  refine z_aload_n C dX11_takesOf_13 rfl 0 rfl ?_
  refine gf_X11_16 C dX11_takesOf_14 ho0 ?_
  refine z_iload_n C dX11_takesOf_17 rfl 1 rfl ?_
  obtain ⟨h1, hf⟩ := q_ck hf
  refine z_iald C (n := 8) dX11_takesOf_18 (rt_11_3 _ (kd_lt ho0 (by decide)) ho0) (by decide) h1 ?_
  refine z_aload_n C dX11_takesOf_19 rfl 0 rfl ?_
  refine gf_X11_16 C dX11_takesOf_20 ho0 ?_
  refine z_iload_n C dX11_takesOf_23 rfl 1 rfl ?_
  obtain ⟨h2, hf⟩ := q_ck hf
  refine z_iald C (n := 8) dX11_takesOf_24 (rt_11_3 _ (kd_lt ho0 (by decide)) ho0) (by decide) h2 ?_
  refine z_iconst C dX11_takesOf_25 (v := 4) (by decide) ?_
  refine z_idiv C dX11_takesOf_26 (by decide) ?_
  refine z_iadd C dX11_takesOf_27 ?_
  exact z_goto C dX11_takesOf_28 (by decide) (z_sub [0, 1] rfl (b_X11_takesOf_37 C hr hk z o0 x1 ((z.1 (rf o0 3) (Int32.toNatClampNeg x1)) + ((z.1 (rf o0 3) (Int32.toNatClampNeg x1)) / 4)) ho0 hf))
def f_X11_takesOf_31  (z : St) (o0 : Nat) (x1 : Int32) : Option (St × Int32) :=
  if inb x1 8 = true then (f_X11_takesOf_37 z o0 x1 (z.1 (rf o0 3) (Int32.toNatClampNeg x1))) else none
theorem b_X11_takesOf_31 {p : Program} {l : Launch} {e : Env} {s : State} {m : MethodId} {args : Array Value} {below : List Frame} {meth : Method} {c : Code} {g : Ga} {A : Nat → Prop} (C : Cx l g A p s m args c cX11_takesOf 3 RX11 (rm_X11_takesOf) (0, 0)) (hr : meth.sig.returnType = (some .int)) (hk : meth.locks = false)   (z : St) (o0 : Nat) (x1 : Int32) (ho0 : kd o0 = 11) {res : St × Int32} (hf : f_X11_takesOf_31  z o0 x1 = some res) : Zj p l e (rm_X11_takesOf) s m args below meth c g A 3 (0, 0) (QI g A below args s res) z 31 [(0, .ref (g.1 o0)), (1, .int x1)] [] := by
  unfold f_X11_takesOf_31 at hf
  refine z_aload_n C dX11_takesOf_31 rfl 0 rfl ?_
  refine gf_X11_16 C dX11_takesOf_32 ho0 ?_
  refine z_iload_n C dX11_takesOf_35 rfl 1 rfl ?_
  obtain ⟨h1, hf⟩ := q_ck hf
  refine z_iald C (n := 8) dX11_takesOf_36 (rt_11_3 _ (kd_lt ho0 (by decide)) ho0) (by decide) h1 ?_
  exact z_sub [0, 1] rfl (b_X11_takesOf_37 C hr hk z o0 x1 (z.1 (rf o0 3) (Int32.toNatClampNeg x1)) ho0 hf)
def f_X11_takesOf_0  (z : St) (o0 : Nat) (x1 : Int32) : Option (St × Int32) :=
  if inb x1 8 = true then (((f_X11_isUnder z (z.1 (rf o0 1) (Int32.toNatClampNeg x1)) 2).bind fun r2 => if r2.2 = 0 then f_X11_takesOf_31 r2.1 o0 x1 else f_X11_takesOf_13 r2.1 o0 x1)) else none
theorem b_X11_takesOf_0 {p : Program} {l : Launch} {e : Env} {s : State} {m : MethodId} {args : Array Value} {below : List Frame} {meth : Method} {c : Code} {g : Ga} {A : Nat → Prop} (C : Cx l g A p s m args c cX11_takesOf 3 RX11 (rm_X11_takesOf) (0, 0)) (hr : meth.sig.returnType = (some .int)) (hk : meth.locks = false)   (z : St) (o0 : Nat) (x1 : Int32) (ho0 : kd o0 = 11) {res : St × Int32} (hf : f_X11_takesOf_0  z o0 x1 = some res) : Zj p l e (rm_X11_takesOf) s m args below meth c g A 3 (0, 0) (QI g A below args s res) z 0 [(0, .ref (g.1 o0)), (1, .int x1)] [] := by
  unfold f_X11_takesOf_0 at hf
  refine z_aload_n C dX11_takesOf_0 rfl 0 rfl ?_
  refine gf_X11_9 C dX11_takesOf_1 ho0 ?_
  refine z_iload_n C dX11_takesOf_4 rfl 1 rfl ?_
  obtain ⟨h1, hf⟩ := q_ck hf
  refine z_iald C (n := 8) dX11_takesOf_5 (rt_11_1 _ (kd_lt ho0 (by decide)) ho0) (by decide) h1 ?_
  refine z_iconst C dX11_takesOf_6 (v := 2) (by decide) ?_
  obtain ⟨r2, hc3, hf⟩ := q_bd hf
  refine z_cSi C (st := []) (c_X11_isUnder  hc3) mw_X11_isUnder ml_X11_122 dX11_takesOf_7 rfl rfl rfl ⟨Nat.le_of_ble_eq_true rfl, Nat.le_of_ble_eq_true rfl⟩ rfl (Nat.le_of_ble_eq_true rfl) ?_
  exact z_if_eq C dX11_takesOf_10 (by decide) (fun h => z_sub [0, 1] rfl (b_X11_takesOf_31 C hr hk r2.1 o0 x1 ho0 (q_t hf h))) (fun h => z_sub [0, 1] rfl (b_X11_takesOf_13 C hr hk r2.1 o0 x1 ho0 (q_f hf h)))
def f_X11_takesOf (z : St) (o0 : Nat) (x1 : Int32) : Option (St × Int32) := f_X11_takesOf_0 z o0 x1
theorem c_X11_takesOf {l : Launch} {g : Ga} {A : Nat → Prop} {z : St} {o0 : Nat} {x1 : Int32} (ho0 : kd o0 = 11) {res : St × Int32} (hf : f_X11_takesOf z o0 x1 = some res) : CI l g A yX11_takesOf cX11_takesOf 3 (some .int) rm_X11_takesOf [.ref (g.1 o0), .int x1] z res :=
  e_CI (by decide) (Nat.le_of_ble_eq_true rfl) rfl (fun p e s m args below meth c C hr hk => z_sub [0, 1] rfl (b_X11_takesOf_0 C hr hk z o0 x1 ho0 hf))
abbrev rm_X11_coolsOf : Room := { frames := 2, cells := 0, slots := 0, locals := 42 }
def f_X11_coolsOf_51  (z : St) (s0 : Int32) : Option (St × Int32) :=
  some (z, s0)
theorem b_X11_coolsOf_51 {p : Program} {l : Launch} {e : Env} {s : State} {m : MethodId} {args : Array Value} {below : List Frame} {meth : Method} {c : Code} {g : Ga} {A : Nat → Prop} (C : Cx l g A p s m args c cX11_coolsOf 3 RX11 (rm_X11_coolsOf) (0, 0)) (hr : meth.sig.returnType = (some .int)) (hk : meth.locks = false)   (z : St) (s0 : Int32)  {res : St × Int32} (hf : f_X11_coolsOf_51  z s0 = some res) : Zj p l e (rm_X11_coolsOf) s m args below meth c g A 3 (0, 0) (QI g A below args s res) z 51 [] [.int s0] := by
  unfold f_X11_coolsOf_51 at hf
  cases hf
  exact z_iret C hr hk dX11_coolsOf_51
def f_X11_coolsOf_44  (z : St) (x2 : Int32) : Option (St × Int32) :=
  f_X11_coolsOf_51 z (2 * x2)
theorem b_X11_coolsOf_44 {p : Program} {l : Launch} {e : Env} {s : State} {m : MethodId} {args : Array Value} {below : List Frame} {meth : Method} {c : Code} {g : Ga} {A : Nat → Prop} (C : Cx l g A p s m args c cX11_coolsOf 3 RX11 (rm_X11_coolsOf) (0, 0)) (hr : meth.sig.returnType = (some .int)) (hk : meth.locks = false)   (z : St) (x2 : Int32)  {res : St × Int32} (hf : f_X11_coolsOf_44  z x2 = some res) : Zj p l e (rm_X11_coolsOf) s m args below meth c g A 3 (0, 0) (QI g A below args s res) z 44 [(2, .int x2)] [] := by
  unfold f_X11_coolsOf_44 at hf
  refine z_iconst C dX11_coolsOf_44 (v := 2) (by decide) ?_
  refine z_iload_n C dX11_coolsOf_45 rfl 0 rfl ?_
  refine z_imul C dX11_coolsOf_46 ?_
  exact z_goto C dX11_coolsOf_47 (by decide) (z_sub [] rfl (b_X11_coolsOf_51 C hr hk z (2 * x2) hf))
def f_X11_coolsOf_50  (z : St) (x2 : Int32) : Option (St × Int32) :=
  f_X11_coolsOf_51 z x2
theorem b_X11_coolsOf_50 {p : Program} {l : Launch} {e : Env} {s : State} {m : MethodId} {args : Array Value} {below : List Frame} {meth : Method} {c : Code} {g : Ga} {A : Nat → Prop} (C : Cx l g A p s m args c cX11_coolsOf 3 RX11 (rm_X11_coolsOf) (0, 0)) (hr : meth.sig.returnType = (some .int)) (hk : meth.locks = false)   (z : St) (x2 : Int32)  {res : St × Int32} (hf : f_X11_coolsOf_50  z x2 = some res) : Zj p l e (rm_X11_coolsOf) s m args below meth c g A 3 (0, 0) (QI g A below args s res) z 50 [(2, .int x2)] [] := by
  unfold f_X11_coolsOf_50 at hf
  refine z_iload_n C dX11_coolsOf_50 rfl 0 rfl ?_
  exact z_sub [] rfl (b_X11_coolsOf_51 C hr hk z x2 hf)
def f_X11_coolsOf_30  (z : St) (o0 : Nat) (x1 : Int32) (s0 : Int32) : Option (St × Int32) :=
  if inb x1 8 = true then (((f_X11_isUnder z (z.1 (rf o0 1) (Int32.toNatClampNeg x1)) 4).bind fun r2 => if r2.2 = 0 then f_X11_coolsOf_50 r2.1 s0 else f_X11_coolsOf_44 r2.1 s0)) else none
theorem b_X11_coolsOf_30 {p : Program} {l : Launch} {e : Env} {s : State} {m : MethodId} {args : Array Value} {below : List Frame} {meth : Method} {c : Code} {g : Ga} {A : Nat → Prop} (C : Cx l g A p s m args c cX11_coolsOf 3 RX11 (rm_X11_coolsOf) (0, 0)) (hr : meth.sig.returnType = (some .int)) (hk : meth.locks = false)   (z : St) (o0 : Nat) (x1 : Int32) (s0 : Int32) (ho0 : kd o0 = 11) {res : St × Int32} (hf : f_X11_coolsOf_30  z o0 x1 s0 = some res) : Zj p l e (rm_X11_coolsOf) s m args below meth c g A 3 (0, 0) (QI g A below args s res) z 30 [(0, .ref (g.1 o0)), (1, .int x1)] [.int s0] := by
  unfold f_X11_coolsOf_30 at hf
  refine z_istore_n C (lv2 := [(2, .int s0), (0, .ref (g.1 o0)), (1, .int x1)]) dX11_coolsOf_30 rfl (by decide) rfl ?_
  refine z_aload_n C dX11_coolsOf_31 rfl 1 rfl ?_
  refine gf_X11_9 C dX11_coolsOf_32 ho0 ?_
  refine z_iload_n C dX11_coolsOf_35 rfl 2 rfl ?_
  obtain ⟨h1, hf⟩ := q_ck hf
  refine z_iald C (n := 8) dX11_coolsOf_36 (rt_11_1 _ (kd_lt ho0 (by decide)) ho0) (by decide) h1 ?_
  refine z_iconst C dX11_coolsOf_37 (v := 4) (by decide) ?_
  obtain ⟨r2, hc3, hf⟩ := q_bd hf
  refine z_cSi C (st := []) (c_X11_isUnder  hc3) mw_X11_isUnder ml_X11_122 dX11_coolsOf_38 rfl rfl rfl ⟨Nat.le_of_ble_eq_true rfl, Nat.le_of_ble_eq_true rfl⟩ rfl (Nat.le_of_ble_eq_true rfl) ?_
  exact z_if_eq C dX11_coolsOf_41 (by decide) (fun h => z_sub [0] rfl (b_X11_coolsOf_50 C hr hk r2.1 s0 (q_t hf h))) (fun h => z_sub [0] rfl (b_X11_coolsOf_44 C hr hk r2.1 s0 (q_f hf h)))
def f_X11_coolsOf_13  (z : St) (o0 : Nat) (x1 : Int32) : Option (St × Int32) :=
  if inb x1 8 = true then (f_X11_coolsOf_30 z o0 x1 ((z.1 (rf o0 4) (Int32.toNatClampNeg x1)) + 5)) else none
theorem b_X11_coolsOf_13 {p : Program} {l : Launch} {e : Env} {s : State} {m : MethodId} {args : Array Value} {below : List Frame} {meth : Method} {c : Code} {g : Ga} {A : Nat → Prop} (C : Cx l g A p s m args c cX11_coolsOf 3 RX11 (rm_X11_coolsOf) (0, 0)) (hr : meth.sig.returnType = (some .int)) (hk : meth.locks = false)   (z : St) (o0 : Nat) (x1 : Int32) (ho0 : kd o0 = 11) {res : St × Int32} (hf : f_X11_coolsOf_13  z o0 x1 = some res) : Zj p l e (rm_X11_coolsOf) s m args below meth c g A 3 (0, 0) (QI g A below args s res) z 13 [(0, .ref (g.1 o0)), (1, .int x1)] [] := by
  unfold f_X11_coolsOf_13 at hf
  refine z_aload_n C dX11_coolsOf_13 rfl 0 rfl ?_
  refine gf_X11_19 C dX11_coolsOf_14 ho0 ?_
  refine z_iload_n C dX11_coolsOf_17 rfl 1 rfl ?_
  obtain ⟨h1, hf⟩ := q_ck hf
  refine z_iald C (n := 8) dX11_coolsOf_18 (rt_11_4 _ (kd_lt ho0 (by decide)) ho0) (by decide) h1 ?_
  refine z_iconst C dX11_coolsOf_19 (v := 5) (by decide) ?_
  refine z_iadd C dX11_coolsOf_20 ?_
  exact z_goto C dX11_coolsOf_21 (by decide) (z_sub [0, 1] rfl (b_X11_coolsOf_30 C hr hk z o0 x1 ((z.1 (rf o0 4) (Int32.toNatClampNeg x1)) + 5) ho0 hf))
def f_X11_coolsOf_24  (z : St) (o0 : Nat) (x1 : Int32) : Option (St × Int32) :=
  if inb x1 8 = true then (f_X11_coolsOf_30 z o0 x1 (z.1 (rf o0 4) (Int32.toNatClampNeg x1))) else none
theorem b_X11_coolsOf_24 {p : Program} {l : Launch} {e : Env} {s : State} {m : MethodId} {args : Array Value} {below : List Frame} {meth : Method} {c : Code} {g : Ga} {A : Nat → Prop} (C : Cx l g A p s m args c cX11_coolsOf 3 RX11 (rm_X11_coolsOf) (0, 0)) (hr : meth.sig.returnType = (some .int)) (hk : meth.locks = false)   (z : St) (o0 : Nat) (x1 : Int32) (ho0 : kd o0 = 11) {res : St × Int32} (hf : f_X11_coolsOf_24  z o0 x1 = some res) : Zj p l e (rm_X11_coolsOf) s m args below meth c g A 3 (0, 0) (QI g A below args s res) z 24 [(0, .ref (g.1 o0)), (1, .int x1)] [] := by
  unfold f_X11_coolsOf_24 at hf
  refine z_aload_n C dX11_coolsOf_24 rfl 0 rfl ?_
  refine gf_X11_19 C dX11_coolsOf_25 ho0 ?_
  refine z_iload_n C dX11_coolsOf_28 rfl 1 rfl ?_
  obtain ⟨h1, hf⟩ := q_ck hf
  refine z_iald C (n := 8) dX11_coolsOf_29 (rt_11_4 _ (kd_lt ho0 (by decide)) ho0) (by decide) h1 ?_
  exact z_sub [0, 1] rfl (b_X11_coolsOf_30 C hr hk z o0 x1 (z.1 (rf o0 4) (Int32.toNatClampNeg x1)) ho0 hf)
def f_X11_coolsOf_0  (z : St) (o0 : Nat) (x1 : Int32) : Option (St × Int32) :=
  if inb x1 8 = true then (((f_X11_isUnder z (z.1 (rf o0 1) (Int32.toNatClampNeg x1)) 1).bind fun r2 => if r2.2 = 0 then f_X11_coolsOf_24 r2.1 o0 x1 else f_X11_coolsOf_13 r2.1 o0 x1)) else none
theorem b_X11_coolsOf_0 {p : Program} {l : Launch} {e : Env} {s : State} {m : MethodId} {args : Array Value} {below : List Frame} {meth : Method} {c : Code} {g : Ga} {A : Nat → Prop} (C : Cx l g A p s m args c cX11_coolsOf 3 RX11 (rm_X11_coolsOf) (0, 0)) (hr : meth.sig.returnType = (some .int)) (hk : meth.locks = false)   (z : St) (o0 : Nat) (x1 : Int32) (ho0 : kd o0 = 11) {res : St × Int32} (hf : f_X11_coolsOf_0  z o0 x1 = some res) : Zj p l e (rm_X11_coolsOf) s m args below meth c g A 3 (0, 0) (QI g A below args s res) z 0 [(0, .ref (g.1 o0)), (1, .int x1)] [] := by
  unfold f_X11_coolsOf_0 at hf
  refine z_aload_n C dX11_coolsOf_0 rfl 0 rfl ?_
  refine gf_X11_9 C dX11_coolsOf_1 ho0 ?_
  refine z_iload_n C dX11_coolsOf_4 rfl 1 rfl ?_
  obtain ⟨h1, hf⟩ := q_ck hf
  refine z_iald C (n := 8) dX11_coolsOf_5 (rt_11_1 _ (kd_lt ho0 (by decide)) ho0) (by decide) h1 ?_
  refine z_iconst C dX11_coolsOf_6 (v := 1) (by decide) ?_
  obtain ⟨r2, hc3, hf⟩ := q_bd hf
  refine z_cSi C (st := []) (c_X11_isUnder  hc3) mw_X11_isUnder ml_X11_122 dX11_coolsOf_7 rfl rfl rfl ⟨Nat.le_of_ble_eq_true rfl, Nat.le_of_ble_eq_true rfl⟩ rfl (Nat.le_of_ble_eq_true rfl) ?_
  exact z_if_eq C dX11_coolsOf_10 (by decide) (fun h => z_sub [0, 1] rfl (b_X11_coolsOf_24 C hr hk r2.1 o0 x1 ho0 (q_t hf h))) (fun h => z_sub [0, 1] rfl (b_X11_coolsOf_13 C hr hk r2.1 o0 x1 ho0 (q_f hf h)))
def f_X11_coolsOf (z : St) (o0 : Nat) (x1 : Int32) : Option (St × Int32) := f_X11_coolsOf_0 z o0 x1
theorem c_X11_coolsOf {l : Launch} {g : Ga} {A : Nat → Prop} {z : St} {o0 : Nat} {x1 : Int32} (ho0 : kd o0 = 11) {res : St × Int32} (hf : f_X11_coolsOf z o0 x1 = some res) : CI l g A yX11_coolsOf cX11_coolsOf 3 (some .int) rm_X11_coolsOf [.ref (g.1 o0), .int x1] z res :=
  e_CI (by decide) (Nat.le_of_ble_eq_true rfl) rfl (fun p e s m args below meth c C hr hk => z_sub [0, 1] rfl (b_X11_coolsOf_0 C hr hk z o0 x1 ho0 hf))
abbrev rm_X11_adds : Room := { frames := 0, cells := 0, slots := 0, locals := 0 }
def f_X11_adds_0  (z : St) (o0 : Nat) (x1 : Int32) (x2 : Int32) (x3 : Int32) (x4 : Int32) : Option (St) :=
  if inb (z.1 o0 5) 8 = true then (if inb ((zI z (rf o0 1) (Int32.toNatClampNeg (z.1 o0 5)) x1).1 o0 5) 8 = true then (if inb ((zI (zI z (rf o0 1) (Int32.toNatClampNeg (z.1 o0 5)) x1) (rf o0 2) (Int32.toNatClampNeg ((zI z (rf o0 1) (Int32.toNatClampNeg (z.1 o0 5)) x1).1 o0 5)) x2).1 o0 5) 8 = true then (if inb ((zI (zI (zI z (rf o0 1) (Int32.toNatClampNeg (z.1 o0 5)) x1) (rf o0 2) (Int32.toNatClampNeg ((zI z (rf o0 1) (Int32.toNatClampNeg (z.1 o0 5)) x1).1 o0 5)) x2) (rf o0 3) (Int32.toNatClampNeg ((zI (zI z (rf o0 1) (Int32.toNatClampNeg (z.1 o0 5)) x1) (rf o0 2) (Int32.toNatClampNeg ((zI z (rf o0 1) (Int32.toNatClampNeg (z.1 o0 5)) x1).1 o0 5)) x2).1 o0 5)) x3).1 o0 5) 8 = true then (some (zI (zI (zI (zI (zI z (rf o0 1) (Int32.toNatClampNeg (z.1 o0 5)) x1) (rf o0 2) (Int32.toNatClampNeg ((zI z (rf o0 1) (Int32.toNatClampNeg (z.1 o0 5)) x1).1 o0 5)) x2) (rf o0 3) (Int32.toNatClampNeg ((zI (zI z (rf o0 1) (Int32.toNatClampNeg (z.1 o0 5)) x1) (rf o0 2) (Int32.toNatClampNeg ((zI z (rf o0 1) (Int32.toNatClampNeg (z.1 o0 5)) x1).1 o0 5)) x2).1 o0 5)) x3) (rf o0 4) (Int32.toNatClampNeg ((zI (zI (zI z (rf o0 1) (Int32.toNatClampNeg (z.1 o0 5)) x1) (rf o0 2) (Int32.toNatClampNeg ((zI z (rf o0 1) (Int32.toNatClampNeg (z.1 o0 5)) x1).1 o0 5)) x2) (rf o0 3) (Int32.toNatClampNeg ((zI (zI z (rf o0 1) (Int32.toNatClampNeg (z.1 o0 5)) x1) (rf o0 2) (Int32.toNatClampNeg ((zI z (rf o0 1) (Int32.toNatClampNeg (z.1 o0 5)) x1).1 o0 5)) x2).1 o0 5)) x3).1 o0 5)) x4) o0 5 (((zI (zI (zI (zI z (rf o0 1) (Int32.toNatClampNeg (z.1 o0 5)) x1) (rf o0 2) (Int32.toNatClampNeg ((zI z (rf o0 1) (Int32.toNatClampNeg (z.1 o0 5)) x1).1 o0 5)) x2) (rf o0 3) (Int32.toNatClampNeg ((zI (zI z (rf o0 1) (Int32.toNatClampNeg (z.1 o0 5)) x1) (rf o0 2) (Int32.toNatClampNeg ((zI z (rf o0 1) (Int32.toNatClampNeg (z.1 o0 5)) x1).1 o0 5)) x2).1 o0 5)) x3) (rf o0 4) (Int32.toNatClampNeg ((zI (zI (zI z (rf o0 1) (Int32.toNatClampNeg (z.1 o0 5)) x1) (rf o0 2) (Int32.toNatClampNeg ((zI z (rf o0 1) (Int32.toNatClampNeg (z.1 o0 5)) x1).1 o0 5)) x2) (rf o0 3) (Int32.toNatClampNeg ((zI (zI z (rf o0 1) (Int32.toNatClampNeg (z.1 o0 5)) x1) (rf o0 2) (Int32.toNatClampNeg ((zI z (rf o0 1) (Int32.toNatClampNeg (z.1 o0 5)) x1).1 o0 5)) x2).1 o0 5)) x3).1 o0 5)) x4).1 o0 5) + 1))) else none) else none) else none) else none
theorem b_X11_adds_0 {p : Program} {l : Launch} {e : Env} {s : State} {m : MethodId} {args : Array Value} {below : List Frame} {meth : Method} {c : Code} {g : Ga} {A : Nat → Prop} (C : Cx l g A p s m args c cX11_adds 5 RX11 (rm_X11_adds) (0, 0)) (hr : meth.sig.returnType = none) (hk : meth.locks = false)   (z : St) (o0 : Nat) (x1 : Int32) (x2 : Int32) (x3 : Int32) (x4 : Int32) (ho0 : kd o0 = 11) {res : St} (hf : f_X11_adds_0  z o0 x1 x2 x3 x4 = some res) : Zj p l e (rm_X11_adds) s m args below meth c g A 5 (0, 0) (QV g A below args s res) z 0 [(0, .ref (g.1 o0)), (1, .int x1), (2, .int x2), (3, .int x3), (4, .int x4)] [] := by
  unfold f_X11_adds_0 at hf
  refine z_aload_n C dX11_adds_0 rfl 0 rfl ?_
  refine gf_X11_9 C dX11_adds_1 ho0 ?_
  refine z_aload_n C dX11_adds_4 rfl 0 rfl ?_
  refine gf_X11_111 C dX11_adds_5 ho0 ?_
  refine z_iload_n C dX11_adds_8 rfl 1 rfl ?_
  obtain ⟨h1, hf⟩ := q_ck hf
  refine z_iast C (n := 8) dX11_adds_9 (rt_11_1 _ (kd_lt ho0 (by decide)) ho0) (by decide) h1 ?_
  refine z_aload_n C dX11_adds_10 rfl 0 rfl ?_
  refine gf_X11_13 C dX11_adds_11 ho0 ?_
  refine z_aload_n C dX11_adds_14 rfl 0 rfl ?_
  refine gf_X11_111 C dX11_adds_15 ho0 ?_
  refine z_iload_n C dX11_adds_18 rfl 2 rfl ?_
  obtain ⟨h2, hf⟩ := q_ck hf
  refine z_iast C (n := 8) dX11_adds_19 (rt_11_2 _ (kd_lt ho0 (by decide)) ho0) (by decide) h2 ?_
  refine z_aload_n C dX11_adds_20 rfl 0 rfl ?_
  refine gf_X11_16 C dX11_adds_21 ho0 ?_
  refine z_aload_n C dX11_adds_24 rfl 0 rfl ?_
  refine gf_X11_111 C dX11_adds_25 ho0 ?_
  refine z_iload_n C dX11_adds_28 rfl 3 rfl ?_
  obtain ⟨h3, hf⟩ := q_ck hf
  refine z_iast C (n := 8) dX11_adds_29 (rt_11_3 _ (kd_lt ho0 (by decide)) ho0) (by decide) h3 ?_
  refine z_aload_n C dX11_adds_30 rfl 0 rfl ?_
  refine gf_X11_19 C dX11_adds_31 ho0 ?_
  refine z_aload_n C dX11_adds_34 rfl 0 rfl ?_
  refine gf_X11_111 C dX11_adds_35 ho0 ?_
  refine z_iload C dX11_adds_38 4 rfl ?_
  obtain ⟨h4, hf⟩ := q_ck hf
  refine z_iast C (n := 8) dX11_adds_40 (rt_11_4 _ (kd_lt ho0 (by decide)) ho0) (by decide) h4 ?_
  refine z_aload_n C dX11_adds_41 rfl 0 rfl ?_
  refine z_dup C dX11_adds_42 rfl ?_
  refine gf_X11_111 C dX11_adds_43 ho0 ?_
  refine z_iconst C dX11_adds_46 (v := 1) (by decide) ?_
  refine z_iadd C dX11_adds_47 ?_
  refine pf_X11_111 C dX11_adds_48 ho0 ?_
  cases hf
  exact z_vret C hr hk dX11_adds_51
def f_X11_adds (z : St) (o0 : Nat) (x1 : Int32) (x2 : Int32) (x3 : Int32) (x4 : Int32) : Option (St) := f_X11_adds_0 z o0 x1 x2 x3 x4
theorem c_X11_adds {l : Launch} {g : Ga} {A : Nat → Prop} {z : St} {o0 : Nat} {x1 : Int32} {x2 : Int32} {x3 : Int32} {x4 : Int32} (ho0 : kd o0 = 11) {res : St} (hf : f_X11_adds z o0 x1 x2 x3 x4 = some res) : CV l g A yX11_adds cX11_adds 5 none rm_X11_adds [.ref (g.1 o0), .int x1, .int x2, .int x3, .int x4] z res :=
  e_CV (by decide) (Nat.le_of_ble_eq_true rfl) rfl (fun p e s m args below meth c C hr hk => z_sub [0, 1, 2, 3, 4] rfl (b_X11_adds_0 C hr hk z o0 x1 x2 x3 x4 ho0 hf))
abbrev rm_X11_anew : Room := { frames := 0, cells := 0, slots := 0, locals := 0 }
def f_X11_anew_38 (K32 : St → Nat → Int32 → Option (St)) (z : St) (o0 : Nat) (x1 : Int32) : Option (St) :=
  if inb x1 8 = true then (K32 (zI z (rf o0 51) (Int32.toNatClampNeg x1) ((-1))) o0 (x1 + 1)) else none
theorem b_X11_anew_38 {p : Program} {l : Launch} {e : Env} {s : State} {m : MethodId} {args : Array Value} {below : List Frame} {meth : Method} {c : Code} {g : Ga} {A : Nat → Prop} (C : Cx l g A p s m args c cX11_anew 2 RX11 (rm_X11_anew) (0, 0)) (hr : meth.sig.returnType = none) (hk : meth.locks = false) {K32 : St → Nat → Int32 → Option (St)} (hK32 : ∀ (z : St) (o0 : Nat) (x1 : Int32) (_ : kd o0 = 11) {res : St}, K32 z o0 x1 = some res → Zj p l e (rm_X11_anew) s m args below meth c g A 2 (0, 0) (QV g A below args s res) z 32 [(0, .ref (g.1 o0)), (1, .int x1)] []) (z : St) (o0 : Nat) (x1 : Int32) (ho0 : kd o0 = 11) {res : St} (hf : f_X11_anew_38 K32 z o0 x1 = some res) : Zj p l e (rm_X11_anew) s m args below meth c g A 2 (0, 0) (QV g A below args s res) z 38 [(0, .ref (g.1 o0)), (1, .int x1)] [] := by
  unfold f_X11_anew_38 at hf
  refine z_aload_n C dX11_anew_38 rfl 0 rfl ?_
  refine gf_X11_85 C dX11_anew_39 ho0 ?_
  refine z_iload_n C dX11_anew_42 rfl 1 rfl ?_
  refine z_iconst C dX11_anew_43 (v := (-1)) (by decide) ?_
  obtain ⟨h1, hf⟩ := q_ck hf
  refine z_iast C (n := 8) dX11_anew_44 (rt_11_51 _ (kd_lt ho0 (by decide)) ho0) (by decide) h1 ?_
  refine z_iinc C (k := 1) (v := x1 + 1) (lv2 := [(1, .int (x1 + 1)), (0, .ref (g.1 o0))]) dX11_anew_45 rfl rfl (by decide) rfl ?_
  exact z_goto C dX11_anew_48 (by decide) (z_sub [1, 0] rfl (hK32 (zI z (rf o0 51) (Int32.toNatClampNeg x1) ((-1))) o0 (x1 + 1) ho0 hf))
def f_X11_anew_51  (z : St)  : Option (St) :=
  some z
theorem b_X11_anew_51 {p : Program} {l : Launch} {e : Env} {s : State} {m : MethodId} {args : Array Value} {below : List Frame} {meth : Method} {c : Code} {g : Ga} {A : Nat → Prop} (C : Cx l g A p s m args c cX11_anew 2 RX11 (rm_X11_anew) (0, 0)) (hr : meth.sig.returnType = none) (hk : meth.locks = false)   (z : St)   {res : St} (hf : f_X11_anew_51  z  = some res) : Zj p l e (rm_X11_anew) s m args below meth c g A 2 (0, 0) (QV g A below args s res) z 51 [] [] := by
  unfold f_X11_anew_51 at hf
  cases hf
  exact z_vret C hr hk dX11_anew_51
def f_X11_anew_32  : Nat → St → Nat → Int32 → Option (St)
  | 0, _, _, _ => none
  | n + 1, z, o0, x1 => if 8 ≤ x1 then f_X11_anew_51 z else f_X11_anew_38 (f_X11_anew_32 n) z o0 x1
theorem b_X11_anew_32 {p : Program} {l : Launch} {e : Env} {s : State} {m : MethodId} {args : Array Value} {below : List Frame} {meth : Method} {c : Code} {g : Ga} {A : Nat → Prop} (C : Cx l g A p s m args c cX11_anew 2 RX11 (rm_X11_anew) (0, 0)) (hr : meth.sig.returnType = none) (hk : meth.locks = false)   : ∀ (n : Nat) (z : St) (o0 : Nat) (x1 : Int32) (_ : kd o0 = 11) {res : St} (_ : f_X11_anew_32  n z o0 x1 = some res), Zj p l e (rm_X11_anew) s m args below meth c g A 2 (0, 0) (QV g A below args s res) z 32 [(0, .ref (g.1 o0)), (1, .int x1)] [] := by
  intro n
  induction n with
  | zero =>
    intro z o0 x1 ho0 res hf
    cases hf
  | succ n ih =>
    intro z o0 x1 ho0 res hf
    rw [f_X11_anew_32] at hf
    refine z_iload_n C dX11_anew_32 rfl 1 rfl ?_
    refine z_bipush C dX11_anew_33 (v := 8) (by decide) ?_
    exact z_icmp_ge C dX11_anew_35 (by decide) (fun h => z_sub [] rfl (b_X11_anew_51 C hr hk z (q_t hf h))) (fun h => z_sub [0, 1] rfl (b_X11_anew_38 C hr hk ih z o0 x1 ho0 (q_f hf h)))
def f_X11_anew_0  (z : St) (o0 : Nat) : Option (St) :=
  f_X11_anew_32 FU (zI (zI (zI (zI (zI (zI z o0 45 0) o0 46 ((-1))) o0 47 0) o0 48 0) o0 49 0) o0 50 0) o0 0
theorem b_X11_anew_0 {p : Program} {l : Launch} {e : Env} {s : State} {m : MethodId} {args : Array Value} {below : List Frame} {meth : Method} {c : Code} {g : Ga} {A : Nat → Prop} (C : Cx l g A p s m args c cX11_anew 2 RX11 (rm_X11_anew) (0, 0)) (hr : meth.sig.returnType = none) (hk : meth.locks = false)   (z : St) (o0 : Nat) (ho0 : kd o0 = 11) {res : St} (hf : f_X11_anew_0  z o0 = some res) : Zj p l e (rm_X11_anew) s m args below meth c g A 2 (0, 0) (QV g A below args s res) z 0 [(0, .ref (g.1 o0))] [] := by
  unfold f_X11_anew_0 at hf
  refine z_aload_n C dX11_anew_0 rfl 0 rfl ?_
  refine z_iconst C dX11_anew_1 (v := 0) (by decide) ?_
  refine pf_X11_332 C dX11_anew_2 ho0 ?_
  refine z_aload_n C dX11_anew_5 rfl 0 rfl ?_
  refine z_iconst C dX11_anew_6 (v := (-1)) (by decide) ?_
  refine pf_X11_335 C dX11_anew_7 ho0 ?_
  refine z_aload_n C dX11_anew_10 rfl 0 rfl ?_
  refine z_iconst C dX11_anew_11 (v := 0) (by decide) ?_
  refine pf_X11_338 C dX11_anew_12 ho0 ?_
  refine z_aload_n C dX11_anew_15 rfl 0 rfl ?_
  refine z_iconst C dX11_anew_16 (v := 0) (by decide) ?_
  refine pf_X11_341 C dX11_anew_17 ho0 ?_
  refine z_aload_n C dX11_anew_20 rfl 0 rfl ?_
  refine z_iconst C dX11_anew_21 (v := 0) (by decide) ?_
  refine pf_X11_344 C dX11_anew_22 ho0 ?_
  refine z_aload_n C dX11_anew_25 rfl 0 rfl ?_
  refine z_iconst C dX11_anew_26 (v := 0) (by decide) ?_
  refine pf_X11_347 C dX11_anew_27 ho0 ?_
  refine z_iconst C dX11_anew_30 (v := 0) (by decide) ?_
  refine z_istore_n C (lv2 := [(1, .int 0), (0, .ref (g.1 o0))]) dX11_anew_31 rfl (by decide) rfl ?_
  exact z_sub [1, 0] rfl (b_X11_anew_32 C hr hk FU (zI (zI (zI (zI (zI (zI z o0 45 0) o0 46 ((-1))) o0 47 0) o0 48 0) o0 49 0) o0 50 0) o0 0 ho0 hf)
def f_X11_anew (z : St) (o0 : Nat) : Option (St) := f_X11_anew_0 z o0
theorem c_X11_anew {l : Launch} {g : Ga} {A : Nat → Prop} {z : St} {o0 : Nat} (ho0 : kd o0 = 11) {res : St} (hf : f_X11_anew z o0 = some res) : CV l g A yX11_anew cX11_anew 2 none rm_X11_anew [.ref (g.1 o0)] z res :=
  e_CV (by decide) (Nat.le_of_ble_eq_true rfl) rfl (fun p e s m args below meth c C hr hk => z_sub [0] rfl (b_X11_anew_0 C hr hk z o0 ho0 hf))
abbrev rm_X11_job : Room := { frames := 2, cells := 0, slots := 0, locals := 43 }
def f_X11_job_33  (z : St)  : Option (St × Int32) :=
  some (z, (-2))
theorem b_X11_job_33 {p : Program} {l : Launch} {e : Env} {s : State} {m : MethodId} {args : Array Value} {below : List Frame} {meth : Method} {c : Code} {g : Ga} {A : Nat → Prop} (C : Cx l g A p s m args c cX11_job 5 RX11 (rm_X11_job) (0, 0)) (hr : meth.sig.returnType = (some .int)) (hk : meth.locks = false)   (z : St)   {res : St × Int32} (hf : f_X11_job_33  z  = some res) : Zj p l e (rm_X11_job) s m args below meth c g A 5 (0, 0) (QI g A below args s res) z 33 [] [] := by
  unfold f_X11_job_33 at hf
  refine z_bipush C dX11_job_33 (v := (-2)) (by decide) ?_
  cases hf
  exact z_iret C hr hk dX11_job_35
def f_X11_job_45  (z : St)  : Option (St × Int32) :=
  some (z, (-4))
theorem b_X11_job_45 {p : Program} {l : Launch} {e : Env} {s : State} {m : MethodId} {args : Array Value} {below : List Frame} {meth : Method} {c : Code} {g : Ga} {A : Nat → Prop} (C : Cx l g A p s m args c cX11_job 5 RX11 (rm_X11_job) (0, 0)) (hr : meth.sig.returnType = (some .int)) (hk : meth.locks = false)   (z : St)   {res : St × Int32} (hf : f_X11_job_45  z  = some res) : Zj p l e (rm_X11_job) s m args below meth c g A 5 (0, 0) (QI g A below args s res) z 45 [] [] := by
  unfold f_X11_job_45 at hf
  refine z_bipush C dX11_job_45 (v := (-4)) (by decide) ?_
  cases hf
  exact z_iret C hr hk dX11_job_47
def f_X11_job_48  (z : St) (o0 : Nat) (x1 : Int32) (x2 : Int32) (x3 : Int32) (x4 : Int32) : Option (St × Int32) :=
  ((f_X11_adds z o0 x1 x2 x3 x4).bind fun r1 => ((f_X11_anew r1 o0).bind fun r3 => some (r3, (r3.1 o0 5) - 1)))
theorem b_X11_job_48 {p : Program} {l : Launch} {e : Env} {s : State} {m : MethodId} {args : Array Value} {below : List Frame} {meth : Method} {c : Code} {g : Ga} {A : Nat → Prop} (C : Cx l g A p s m args c cX11_job 5 RX11 (rm_X11_job) (0, 0)) (hr : meth.sig.returnType = (some .int)) (hk : meth.locks = false)   (z : St) (o0 : Nat) (x1 : Int32) (x2 : Int32) (x3 : Int32) (x4 : Int32) (ho0 : kd o0 = 11) {res : St × Int32} (hf : f_X11_job_48  z o0 x1 x2 x3 x4 = some res) : Zj p l e (rm_X11_job) s m args below meth c g A 5 (0, 0) (QI g A below args s res) z 48 [(0, .ref (g.1 o0)), (1, .int x1), (2, .int x2), (3, .int x3), (4, .int x4)] [] := by
  unfold f_X11_job_48 at hf
  refine z_aload_n C dX11_job_48 rfl 0 rfl ?_
  refine z_iload_n C dX11_job_49 rfl 1 rfl ?_
  refine z_iload_n C dX11_job_50 rfl 2 rfl ?_
  refine z_iload_n C dX11_job_51 rfl 3 rfl ?_
  refine z_iload C dX11_job_52 4 rfl ?_
  obtain ⟨r1, hc2, hf⟩ := q_bd hf
  refine z_cVv C (st := []) (c_X11_adds ho0 hc2) mw_X11_adds ml_X11_135 ho0 (by decide) rfl dX11_job_54 rfl rfl rfl ⟨Nat.le_of_ble_eq_true rfl, Nat.le_of_ble_eq_true rfl⟩ rfl (Nat.le_of_ble_eq_true rfl) ?_
  refine z_aload_n C dX11_job_57 rfl 0 rfl ?_
  obtain ⟨r3, hc4, hf⟩ := q_bd hf
  refine z_cVv C (st := []) (c_X11_anew ho0 hc4) mw_X11_anew ml_X11_105 ho0 (by decide) rfl dX11_job_58 rfl rfl rfl ⟨Nat.le_of_ble_eq_true rfl, Nat.le_of_ble_eq_true rfl⟩ rfl (Nat.le_of_ble_eq_true rfl) ?_
  refine z_aload_n C dX11_job_61 rfl 0 rfl ?_
  refine gf_X11_111 C dX11_job_62 ho0 ?_
  refine z_iconst C dX11_job_65 (v := 1) (by decide) ?_
  refine z_isub C dX11_job_66 ?_
  cases hf
  exact z_iret C hr hk dX11_job_67
def f_X11_job_36  (z : St) (o0 : Nat) (x1 : Int32) (x2 : Int32) (x3 : Int32) (x4 : Int32) : Option (St × Int32) :=
  if (z.1 o0 5) = 8 then f_X11_job_45 z else f_X11_job_48 z o0 x1 x2 x3 x4
theorem b_X11_job_36 {p : Program} {l : Launch} {e : Env} {s : State} {m : MethodId} {args : Array Value} {below : List Frame} {meth : Method} {c : Code} {g : Ga} {A : Nat → Prop} (C : Cx l g A p s m args c cX11_job 5 RX11 (rm_X11_job) (0, 0)) (hr : meth.sig.returnType = (some .int)) (hk : meth.locks = false)   (z : St) (o0 : Nat) (x1 : Int32) (x2 : Int32) (x3 : Int32) (x4 : Int32) (ho0 : kd o0 = 11) {res : St × Int32} (hf : f_X11_job_36  z o0 x1 x2 x3 x4 = some res) : Zj p l e (rm_X11_job) s m args below meth c g A 5 (0, 0) (QI g A below args s res) z 36 [(0, .ref (g.1 o0)), (1, .int x1), (2, .int x2), (3, .int x3), (4, .int x4)] [] := by
  unfold f_X11_job_36 at hf
  refine z_aload_n C dX11_job_36 rfl 0 rfl ?_
  refine gf_X11_111 C dX11_job_37 ho0 ?_
  refine z_bipush C dX11_job_40 (v := 8) (by decide) ?_
  exact z_icmp_ne C dX11_job_42 (by decide) (fun h => z_sub [0, 1, 2, 3, 4] rfl (b_X11_job_48 C hr hk z o0 x1 x2 x3 x4 ho0 (q_f hf h))) (fun h => z_sub [] rfl (b_X11_job_45 C hr hk z (q_t hf h)))
def f_X11_job_24  (z : St) (o0 : Nat) (x1 : Int32) (x2 : Int32) (x3 : Int32) (x4 : Int32) : Option (St × Int32) :=
  ((f_X11_mayBe z 3 x4).bind fun r1 => if r1.2 = 0 then f_X11_job_33 r1.1 else f_X11_job_36 r1.1 o0 x1 x2 x3 x4)
theorem b_X11_job_24 {p : Program} {l : Launch} {e : Env} {s : State} {m : MethodId} {args : Array Value} {below : List Frame} {meth : Method} {c : Code} {g : Ga} {A : Nat → Prop} (C : Cx l g A p s m args c cX11_job 5 RX11 (rm_X11_job) (0, 0)) (hr : meth.sig.returnType = (some .int)) (hk : meth.locks = false)   (z : St) (o0 : Nat) (x1 : Int32) (x2 : Int32) (x3 : Int32) (x4 : Int32) (ho0 : kd o0 = 11) {res : St × Int32} (hf : f_X11_job_24  z o0 x1 x2 x3 x4 = some res) : Zj p l e (rm_X11_job) s m args below meth c g A 5 (0, 0) (QI g A below args s res) z 24 [(0, .ref (g.1 o0)), (1, .int x1), (2, .int x2), (3, .int x3), (4, .int x4)] [] := by
  unfold f_X11_job_24 at hf
  refine z_iconst C dX11_job_24 (v := 3) (by decide) ?_
  refine z_iload C dX11_job_25 4 rfl ?_
  obtain ⟨r1, hc2, hf⟩ := q_bd hf
  refine z_cSi C (st := []) (c_X11_mayBe  hc2) mw_X11_mayBe ml_X11_132 dX11_job_27 rfl rfl rfl ⟨Nat.le_of_ble_eq_true rfl, Nat.le_of_ble_eq_true rfl⟩ rfl (Nat.le_of_ble_eq_true rfl) ?_
  exact z_if_ne C dX11_job_30 (by decide) (fun h => z_sub [0, 1, 2, 3, 4] rfl (b_X11_job_36 C hr hk r1.1 o0 x1 x2 x3 x4 ho0 (q_f hf h))) (fun h => z_sub [] rfl (b_X11_job_33 C hr hk r1.1 (q_t hf h)))
def f_X11_job_16  (z : St) (o0 : Nat) (x1 : Int32) (x2 : Int32) (x3 : Int32) (x4 : Int32) : Option (St × Int32) :=
  ((f_X11_mayBe z 2 x3).bind fun r1 => if r1.2 = 0 then f_X11_job_33 r1.1 else f_X11_job_24 r1.1 o0 x1 x2 x3 x4)
theorem b_X11_job_16 {p : Program} {l : Launch} {e : Env} {s : State} {m : MethodId} {args : Array Value} {below : List Frame} {meth : Method} {c : Code} {g : Ga} {A : Nat → Prop} (C : Cx l g A p s m args c cX11_job 5 RX11 (rm_X11_job) (0, 0)) (hr : meth.sig.returnType = (some .int)) (hk : meth.locks = false)   (z : St) (o0 : Nat) (x1 : Int32) (x2 : Int32) (x3 : Int32) (x4 : Int32) (ho0 : kd o0 = 11) {res : St × Int32} (hf : f_X11_job_16  z o0 x1 x2 x3 x4 = some res) : Zj p l e (rm_X11_job) s m args below meth c g A 5 (0, 0) (QI g A below args s res) z 16 [(0, .ref (g.1 o0)), (1, .int x1), (2, .int x2), (3, .int x3), (4, .int x4)] [] := by
  unfold f_X11_job_16 at hf
  refine z_iconst C dX11_job_16 (v := 2) (by decide) ?_
  refine z_iload_n C dX11_job_17 rfl 3 rfl ?_
  obtain ⟨r1, hc2, hf⟩ := q_bd hf
  refine z_cSi C (st := []) (c_X11_mayBe  hc2) mw_X11_mayBe ml_X11_132 dX11_job_18 rfl rfl rfl ⟨Nat.le_of_ble_eq_true rfl, Nat.le_of_ble_eq_true rfl⟩ rfl (Nat.le_of_ble_eq_true rfl) ?_
  exact z_if_eq C dX11_job_21 (by decide) (fun h => z_sub [] rfl (b_X11_job_33 C hr hk r1.1 (q_t hf h))) (fun h => z_sub [0, 1, 2, 3, 4] rfl (b_X11_job_24 C hr hk r1.1 o0 x1 x2 x3 x4 ho0 (q_f hf h)))
def f_X11_job_8  (z : St) (o0 : Nat) (x1 : Int32) (x2 : Int32) (x3 : Int32) (x4 : Int32) : Option (St × Int32) :=
  ((f_X11_mayBe z 1 x2).bind fun r1 => if r1.2 = 0 then f_X11_job_33 r1.1 else f_X11_job_16 r1.1 o0 x1 x2 x3 x4)
theorem b_X11_job_8 {p : Program} {l : Launch} {e : Env} {s : State} {m : MethodId} {args : Array Value} {below : List Frame} {meth : Method} {c : Code} {g : Ga} {A : Nat → Prop} (C : Cx l g A p s m args c cX11_job 5 RX11 (rm_X11_job) (0, 0)) (hr : meth.sig.returnType = (some .int)) (hk : meth.locks = false)   (z : St) (o0 : Nat) (x1 : Int32) (x2 : Int32) (x3 : Int32) (x4 : Int32) (ho0 : kd o0 = 11) {res : St × Int32} (hf : f_X11_job_8  z o0 x1 x2 x3 x4 = some res) : Zj p l e (rm_X11_job) s m args below meth c g A 5 (0, 0) (QI g A below args s res) z 8 [(0, .ref (g.1 o0)), (1, .int x1), (2, .int x2), (3, .int x3), (4, .int x4)] [] := by
  unfold f_X11_job_8 at hf
  refine z_iconst C dX11_job_8 (v := 1) (by decide) ?_
  refine z_iload_n C dX11_job_9 rfl 2 rfl ?_
  obtain ⟨r1, hc2, hf⟩ := q_bd hf
  refine z_cSi C (st := []) (c_X11_mayBe  hc2) mw_X11_mayBe ml_X11_132 dX11_job_10 rfl rfl rfl ⟨Nat.le_of_ble_eq_true rfl, Nat.le_of_ble_eq_true rfl⟩ rfl (Nat.le_of_ble_eq_true rfl) ?_
  exact z_if_eq C dX11_job_13 (by decide) (fun h => z_sub [] rfl (b_X11_job_33 C hr hk r1.1 (q_t hf h))) (fun h => z_sub [0, 1, 2, 3, 4] rfl (b_X11_job_16 C hr hk r1.1 o0 x1 x2 x3 x4 ho0 (q_f hf h)))
def f_X11_job_0  (z : St) (o0 : Nat) (x1 : Int32) (x2 : Int32) (x3 : Int32) (x4 : Int32) : Option (St × Int32) :=
  ((f_X11_mayBe z 0 x1).bind fun r1 => if r1.2 = 0 then f_X11_job_33 r1.1 else f_X11_job_8 r1.1 o0 x1 x2 x3 x4)
theorem b_X11_job_0 {p : Program} {l : Launch} {e : Env} {s : State} {m : MethodId} {args : Array Value} {below : List Frame} {meth : Method} {c : Code} {g : Ga} {A : Nat → Prop} (C : Cx l g A p s m args c cX11_job 5 RX11 (rm_X11_job) (0, 0)) (hr : meth.sig.returnType = (some .int)) (hk : meth.locks = false)   (z : St) (o0 : Nat) (x1 : Int32) (x2 : Int32) (x3 : Int32) (x4 : Int32) (ho0 : kd o0 = 11) {res : St × Int32} (hf : f_X11_job_0  z o0 x1 x2 x3 x4 = some res) : Zj p l e (rm_X11_job) s m args below meth c g A 5 (0, 0) (QI g A below args s res) z 0 [(0, .ref (g.1 o0)), (1, .int x1), (2, .int x2), (3, .int x3), (4, .int x4)] [] := by
  unfold f_X11_job_0 at hf
  refine z_iconst C dX11_job_0 (v := 0) (by decide) ?_
  refine z_iload_n C dX11_job_1 rfl 1 rfl ?_
  obtain ⟨r1, hc2, hf⟩ := q_bd hf
  refine z_cSi C (st := []) (c_X11_mayBe  hc2) mw_X11_mayBe ml_X11_132 dX11_job_2 rfl rfl rfl ⟨Nat.le_of_ble_eq_true rfl, Nat.le_of_ble_eq_true rfl⟩ rfl (Nat.le_of_ble_eq_true rfl) ?_
  exact z_if_eq C dX11_job_5 (by decide) (fun h => z_sub [] rfl (b_X11_job_33 C hr hk r1.1 (q_t hf h))) (fun h => z_sub [0, 1, 2, 3, 4] rfl (b_X11_job_8 C hr hk r1.1 o0 x1 x2 x3 x4 ho0 (q_f hf h)))
def f_X11_job (z : St) (o0 : Nat) (x1 : Int32) (x2 : Int32) (x3 : Int32) (x4 : Int32) : Option (St × Int32) := f_X11_job_0 z o0 x1 x2 x3 x4
theorem c_X11_job {l : Launch} {g : Ga} {A : Nat → Prop} {z : St} {o0 : Nat} {x1 : Int32} {x2 : Int32} {x3 : Int32} {x4 : Int32} (ho0 : kd o0 = 11) {res : St × Int32} (hf : f_X11_job z o0 x1 x2 x3 x4 = some res) : CI l g A yX11_job cX11_job 5 (some .int) rm_X11_job [.ref (g.1 o0), .int x1, .int x2, .int x3, .int x4] z res :=
  e_CI (by decide) (Nat.le_of_ble_eq_true rfl) rfl (fun p e s m args below meth c C hr hk => z_sub [0, 1, 2, 3, 4] rfl (b_X11_job_0 C hr hk z o0 x1 x2 x3 x4 ho0 hf))
abbrev rm_X11_its : Room := { frames := 3, cells := 0, slots := 0, locals := 64 }
def f_X11_its_40  (z : St) (o0 : Nat) (x1 : Int32) : Option (St × Int32) :=
  if inb x1 8 = true then (some (z, z.1 (rf o0 1) (Int32.toNatClampNeg x1))) else none
theorem b_X11_its_40 {p : Program} {l : Launch} {e : Env} {s : State} {m : MethodId} {args : Array Value} {below : List Frame} {meth : Method} {c : Code} {g : Ga} {A : Nat → Prop} (C : Cx l g A p s m args c cX11_its 3 RX11 (rm_X11_its) (0, 0)) (hr : meth.sig.returnType = (some .int)) (hk : meth.locks = false)   (z : St) (o0 : Nat) (x1 : Int32) (ho0 : kd o0 = 11) {res : St × Int32} (hf : f_X11_its_40  z o0 x1 = some res) : Zj p l e (rm_X11_its) s m args below meth c g A 3 (0, 0) (QI g A below args s res) z 40 [(0, .ref (g.1 o0)), (1, .int x1)] [] := by
  unfold f_X11_its_40 at hf
  refine z_aload_n C dX11_its_40 rfl 0 rfl ?_
  refine gf_X11_9 C dX11_its_41 ho0 ?_
  refine z_iload_n C dX11_its_44 rfl 1 rfl ?_
  obtain ⟨h1, hf⟩ := q_ck hf
  refine z_iald C (n := 8) dX11_its_45 (rt_11_1 _ (kd_lt ho0 (by decide)) ho0) (by decide) h1 ?_
  cases hf
  exact z_iret C hr hk dX11_its_46
def f_X11_its_47  (z : St) (o0 : Nat) (x1 : Int32) : Option (St × Int32) :=
  if inb x1 8 = true then (some (z, z.1 (rf o0 2) (Int32.toNatClampNeg x1))) else none
theorem b_X11_its_47 {p : Program} {l : Launch} {e : Env} {s : State} {m : MethodId} {args : Array Value} {below : List Frame} {meth : Method} {c : Code} {g : Ga} {A : Nat → Prop} (C : Cx l g A p s m args c cX11_its 3 RX11 (rm_X11_its) (0, 0)) (hr : meth.sig.returnType = (some .int)) (hk : meth.locks = false)   (z : St) (o0 : Nat) (x1 : Int32) (ho0 : kd o0 = 11) {res : St × Int32} (hf : f_X11_its_47  z o0 x1 = some res) : Zj p l e (rm_X11_its) s m args below meth c g A 3 (0, 0) (QI g A below args s res) z 47 [(0, .ref (g.1 o0)), (1, .int x1)] [] := by
  unfold f_X11_its_47 at hf
  refine z_aload_n C dX11_its_47 rfl 0 rfl ?_
  refine gf_X11_13 C dX11_its_48 ho0 ?_
  refine z_iload_n C dX11_its_51 rfl 1 rfl ?_
  obtain ⟨h1, hf⟩ := q_ck hf
  refine z_iald C (n := 8) dX11_its_52 (rt_11_2 _ (kd_lt ho0 (by decide)) ho0) (by decide) h1 ?_
  cases hf
  exact z_iret C hr hk dX11_its_53
def f_X11_its_54  (z : St) (o0 : Nat) (x1 : Int32) : Option (St × Int32) :=
  if inb x1 8 = true then (some (z, z.1 (rf o0 3) (Int32.toNatClampNeg x1))) else none
theorem b_X11_its_54 {p : Program} {l : Launch} {e : Env} {s : State} {m : MethodId} {args : Array Value} {below : List Frame} {meth : Method} {c : Code} {g : Ga} {A : Nat → Prop} (C : Cx l g A p s m args c cX11_its 3 RX11 (rm_X11_its) (0, 0)) (hr : meth.sig.returnType = (some .int)) (hk : meth.locks = false)   (z : St) (o0 : Nat) (x1 : Int32) (ho0 : kd o0 = 11) {res : St × Int32} (hf : f_X11_its_54  z o0 x1 = some res) : Zj p l e (rm_X11_its) s m args below meth c g A 3 (0, 0) (QI g A below args s res) z 54 [(0, .ref (g.1 o0)), (1, .int x1)] [] := by
  unfold f_X11_its_54 at hf
  refine z_aload_n C dX11_its_54 rfl 0 rfl ?_
  refine gf_X11_16 C dX11_its_55 ho0 ?_
  refine z_iload_n C dX11_its_58 rfl 1 rfl ?_
  obtain ⟨h1, hf⟩ := q_ck hf
  refine z_iald C (n := 8) dX11_its_59 (rt_11_3 _ (kd_lt ho0 (by decide)) ho0) (by decide) h1 ?_
  cases hf
  exact z_iret C hr hk dX11_its_60
def f_X11_its_61  (z : St) (o0 : Nat) (x1 : Int32) : Option (St × Int32) :=
  if inb x1 8 = true then (some (z, z.1 (rf o0 4) (Int32.toNatClampNeg x1))) else none
theorem b_X11_its_61 {p : Program} {l : Launch} {e : Env} {s : State} {m : MethodId} {args : Array Value} {below : List Frame} {meth : Method} {c : Code} {g : Ga} {A : Nat → Prop} (C : Cx l g A p s m args c cX11_its 3 RX11 (rm_X11_its) (0, 0)) (hr : meth.sig.returnType = (some .int)) (hk : meth.locks = false)   (z : St) (o0 : Nat) (x1 : Int32) (ho0 : kd o0 = 11) {res : St × Int32} (hf : f_X11_its_61  z o0 x1 = some res) : Zj p l e (rm_X11_its) s m args below meth c g A 3 (0, 0) (QI g A below args s res) z 61 [(0, .ref (g.1 o0)), (1, .int x1)] [] := by
  unfold f_X11_its_61 at hf
  refine z_aload_n C dX11_its_61 rfl 0 rfl ?_
  refine gf_X11_19 C dX11_its_62 ho0 ?_
  refine z_iload_n C dX11_its_65 rfl 1 rfl ?_
  obtain ⟨h1, hf⟩ := q_ck hf
  refine z_iald C (n := 8) dX11_its_66 (rt_11_4 _ (kd_lt ho0 (by decide)) ho0) (by decide) h1 ?_
  cases hf
  exact z_iret C hr hk dX11_its_67
def f_X11_its_68  (z : St) (o0 : Nat) (x1 : Int32) : Option (St × Int32) :=
  ((f_X11_comesOf z o0 x1).bind fun r1 => some (r1.1, r1.2))
theorem b_X11_its_68 {p : Program} {l : Launch} {e : Env} {s : State} {m : MethodId} {args : Array Value} {below : List Frame} {meth : Method} {c : Code} {g : Ga} {A : Nat → Prop} (C : Cx l g A p s m args c cX11_its 3 RX11 (rm_X11_its) (0, 0)) (hr : meth.sig.returnType = (some .int)) (hk : meth.locks = false)   (z : St) (o0 : Nat) (x1 : Int32) (ho0 : kd o0 = 11) {res : St × Int32} (hf : f_X11_its_68  z o0 x1 = some res) : Zj p l e (rm_X11_its) s m args below meth c g A 3 (0, 0) (QI g A below args s res) z 68 [(0, .ref (g.1 o0)), (1, .int x1)] [] := by
  unfold f_X11_its_68 at hf
  refine z_aload_n C dX11_its_68 rfl 0 rfl ?_
  refine z_iload_n C dX11_its_69 rfl 1 rfl ?_
  obtain ⟨r1, hc2, hf⟩ := q_bd hf
  refine z_cVi C (st := []) (c_X11_comesOf ho0 hc2) mw_X11_comesOf ml_X11_139 ho0 (by decide) rfl dX11_its_70 rfl rfl rfl ⟨Nat.le_of_ble_eq_true rfl, Nat.le_of_ble_eq_true rfl⟩ rfl (Nat.le_of_ble_eq_true rfl) ?_
  cases hf
  exact z_iret C hr hk dX11_its_73
def f_X11_its_74  (z : St) (o0 : Nat) (x1 : Int32) : Option (St × Int32) :=
  ((f_X11_takesOf z o0 x1).bind fun r1 => some (r1.1, r1.2))
theorem b_X11_its_74 {p : Program} {l : Launch} {e : Env} {s : State} {m : MethodId} {args : Array Value} {below : List Frame} {meth : Method} {c : Code} {g : Ga} {A : Nat → Prop} (C : Cx l g A p s m args c cX11_its 3 RX11 (rm_X11_its) (0, 0)) (hr : meth.sig.returnType = (some .int)) (hk : meth.locks = false)   (z : St) (o0 : Nat) (x1 : Int32) (ho0 : kd o0 = 11) {res : St × Int32} (hf : f_X11_its_74  z o0 x1 = some res) : Zj p l e (rm_X11_its) s m args below meth c g A 3 (0, 0) (QI g A below args s res) z 74 [(0, .ref (g.1 o0)), (1, .int x1)] [] := by
  unfold f_X11_its_74 at hf
  refine z_aload_n C dX11_its_74 rfl 0 rfl ?_
  refine z_iload_n C dX11_its_75 rfl 1 rfl ?_
  obtain ⟨r1, hc2, hf⟩ := q_bd hf
  refine z_cVi C (st := []) (c_X11_takesOf ho0 hc2) mw_X11_takesOf ml_X11_142 ho0 (by decide) rfl dX11_its_76 rfl rfl rfl ⟨Nat.le_of_ble_eq_true rfl, Nat.le_of_ble_eq_true rfl⟩ rfl (Nat.le_of_ble_eq_true rfl) ?_
  cases hf
  exact z_iret C hr hk dX11_its_79
def f_X11_its_80  (z : St) (o0 : Nat) (x1 : Int32) : Option (St × Int32) :=
  ((f_X11_coolsOf z o0 x1).bind fun r1 => some (r1.1, r1.2))
theorem b_X11_its_80 {p : Program} {l : Launch} {e : Env} {s : State} {m : MethodId} {args : Array Value} {below : List Frame} {meth : Method} {c : Code} {g : Ga} {A : Nat → Prop} (C : Cx l g A p s m args c cX11_its 3 RX11 (rm_X11_its) (0, 0)) (hr : meth.sig.returnType = (some .int)) (hk : meth.locks = false)   (z : St) (o0 : Nat) (x1 : Int32) (ho0 : kd o0 = 11) {res : St × Int32} (hf : f_X11_its_80  z o0 x1 = some res) : Zj p l e (rm_X11_its) s m args below meth c g A 3 (0, 0) (QI g A below args s res) z 80 [(0, .ref (g.1 o0)), (1, .int x1)] [] := by
  unfold f_X11_its_80 at hf
  refine z_aload_n C dX11_its_80 rfl 0 rfl ?_
  refine z_iload_n C dX11_its_81 rfl 1 rfl ?_
  obtain ⟨r1, hc2, hf⟩ := q_bd hf
  refine z_cVi C (st := []) (c_X11_coolsOf ho0 hc2) mw_X11_coolsOf ml_X11_145 ho0 (by decide) rfl dX11_its_82 rfl rfl rfl ⟨Nat.le_of_ble_eq_true rfl, Nat.le_of_ble_eq_true rfl⟩ rfl (Nat.le_of_ble_eq_true rfl) ?_
  cases hf
  exact z_iret C hr hk dX11_its_85
def f_X11_its_0  (z : St) (o0 : Nat) (x1 : Int32) (x2 : Int32) : Option (St × Int32) :=
  if x2 = 0 then f_X11_its_40 z o0 x1 else if x2 = 1 then f_X11_its_47 z o0 x1 else if x2 = 2 then f_X11_its_54 z o0 x1 else if x2 = 3 then f_X11_its_61 z o0 x1 else if x2 = 4 then f_X11_its_68 z o0 x1 else if x2 = 5 then f_X11_its_74 z o0 x1 else f_X11_its_80 z o0 x1
theorem b_X11_its_0 {p : Program} {l : Launch} {e : Env} {s : State} {m : MethodId} {args : Array Value} {below : List Frame} {meth : Method} {c : Code} {g : Ga} {A : Nat → Prop} (C : Cx l g A p s m args c cX11_its 3 RX11 (rm_X11_its) (0, 0)) (hr : meth.sig.returnType = (some .int)) (hk : meth.locks = false)   (z : St) (o0 : Nat) (x1 : Int32) (x2 : Int32) (ho0 : kd o0 = 11) {res : St × Int32} (hf : f_X11_its_0  z o0 x1 x2 = some res) : Zj p l e (rm_X11_its) s m args below meth c g A 3 (0, 0) (QI g A below args s res) z 0 [(0, .ref (g.1 o0)), (1, .int x1), (2, .int x2)] [] := by
  unfold f_X11_its_0 at hf
  refine z_iload_n C dX11_its_0 rfl 2 rfl ?_
  by_cases h1 : x2 = 0
  · exact z_tblK C dX11_its_1 (k := 0) h1 (by decide) (by decide) (off := 39) (by decide) (by decide) (z_sub [0, 1] rfl (b_X11_its_40 C hr hk z o0 x1 ho0 (q_t hf h1)))
  replace hf := q_f hf h1
  by_cases h2 : x2 = 1
  · exact z_tblK C dX11_its_1 (k := 1) h2 (by decide) (by decide) (off := 46) (by decide) (by decide) (z_sub [0, 1] rfl (b_X11_its_47 C hr hk z o0 x1 ho0 (q_t hf h2)))
  replace hf := q_f hf h2
  by_cases h3 : x2 = 2
  · exact z_tblK C dX11_its_1 (k := 2) h3 (by decide) (by decide) (off := 53) (by decide) (by decide) (z_sub [0, 1] rfl (b_X11_its_54 C hr hk z o0 x1 ho0 (q_t hf h3)))
  replace hf := q_f hf h3
  by_cases h4 : x2 = 3
  · exact z_tblK C dX11_its_1 (k := 3) h4 (by decide) (by decide) (off := 60) (by decide) (by decide) (z_sub [0, 1] rfl (b_X11_its_61 C hr hk z o0 x1 ho0 (q_t hf h4)))
  replace hf := q_f hf h4
  by_cases h5 : x2 = 4
  · exact z_tblK C dX11_its_1 (k := 4) h5 (by decide) (by decide) (off := 67) (by decide) (by decide) (z_sub [0, 1] rfl (b_X11_its_68 C hr hk z o0 x1 ho0 (q_t hf h5)))
  replace hf := q_f hf h5
  by_cases h6 : x2 = 5
  · exact z_tblK C dX11_its_1 (k := 5) h6 (by decide) (by decide) (off := 73) (by decide) (by decide) (z_sub [0, 1] rfl (b_X11_its_74 C hr hk z o0 x1 ho0 (q_t hf h6)))
  replace hf := q_f hf h6
  exact z_tblOut C dX11_its_1 (tbl_out (lo := 0) (hi := 5) (fun k q1 q2 => by
    rcases (show k = 0 ∨ k = 1 ∨ k = 2 ∨ k = 3 ∨ k = 4 ∨ k = 5 by omega) with rfl | rfl | rfl | rfl | rfl | rfl
    · exact fun e => h1 (e.symm.trans (by decide))
    · exact fun e => h2 (e.symm.trans (by decide))
    · exact fun e => h3 (e.symm.trans (by decide))
    · exact fun e => h4 (e.symm.trans (by decide))
    · exact fun e => h5 (e.symm.trans (by decide))
    · exact fun e => h6 (e.symm.trans (by decide)))) (by decide) (z_sub [0, 1] rfl (b_X11_its_80 C hr hk z o0 x1 ho0 hf))
def f_X11_its (z : St) (o0 : Nat) (x1 : Int32) (x2 : Int32) : Option (St × Int32) := f_X11_its_0 z o0 x1 x2
theorem c_X11_its {l : Launch} {g : Ga} {A : Nat → Prop} {z : St} {o0 : Nat} {x1 : Int32} {x2 : Int32} (ho0 : kd o0 = 11) {res : St × Int32} (hf : f_X11_its z o0 x1 x2 = some res) : CI l g A yX11_its cX11_its 3 (some .int) rm_X11_its [.ref (g.1 o0), .int x1, .int x2] z res :=
  e_CI (by decide) (Nat.le_of_ble_eq_true rfl) rfl (fun p e s m args below meth c C hr hk => z_sub [0, 1, 2] rfl (b_X11_its_0 C hr hk z o0 x1 x2 ho0 hf))
abbrev rm_X11_set : Room := { frames := 4, cells := 0, slots := 0, locals := 86 }
def f_X11_set_25  (z : St)  : Option (St × Int32) :=
  some (z, (-2))
theorem b_X11_set_25 {p : Program} {l : Launch} {e : Env} {s : State} {m : MethodId} {args : Array Value} {below : List Frame} {meth : Method} {c : Code} {g : Ga} {A : Nat → Prop} (C : Cx l g A p s m args c cX11_set 5 RX11 (rm_X11_set) (0, 0)) (hr : meth.sig.returnType = (some .int)) (hk : meth.locks = false)   (z : St)   {res : St × Int32} (hf : f_X11_set_25  z  = some res) : Zj p l e (rm_X11_set) s m args below meth c g A 5 (0, 0) (QI g A below args s res) z 25 [] [] := by
  unfold f_X11_set_25 at hf
  refine z_bipush C dX11_set_25 (v := (-2)) (by decide) ?_
  cases hf
  exact z_iret C hr hk dX11_set_27
def f_X11_set_87  (z : St) (o0 : Nat) (x4 : Int32) : Option (St × Int32) :=
  ((f_X11_anew z o0).bind fun r1 => some (r1, x4))
theorem b_X11_set_87 {p : Program} {l : Launch} {e : Env} {s : State} {m : MethodId} {args : Array Value} {below : List Frame} {meth : Method} {c : Code} {g : Ga} {A : Nat → Prop} (C : Cx l g A p s m args c cX11_set 5 RX11 (rm_X11_set) (0, 0)) (hr : meth.sig.returnType = (some .int)) (hk : meth.locks = false)   (z : St) (o0 : Nat) (x4 : Int32) (ho0 : kd o0 = 11) {res : St × Int32} (hf : f_X11_set_87  z o0 x4 = some res) : Zj p l e (rm_X11_set) s m args below meth c g A 5 (0, 0) (QI g A below args s res) z 87 [(0, .ref (g.1 o0)), (4, .int x4)] [] := by
  unfold f_X11_set_87 at hf
  refine z_aload_n C dX11_set_87 rfl 0 rfl ?_
  obtain ⟨r1, hc2, hf⟩ := q_bd hf
  refine z_cVv C (st := []) (c_X11_anew ho0 hc2) mw_X11_anew ml_X11_105 ho0 (by decide) rfl dX11_set_88 rfl rfl rfl ⟨Nat.le_of_ble_eq_true rfl, Nat.le_of_ble_eq_true rfl⟩ rfl (Nat.le_of_ble_eq_true rfl) ?_
  refine z_iload C dX11_set_91 1 rfl ?_
  cases hf
  exact z_iret C hr hk dX11_set_93
def f_X11_set_40  (z : St) (o0 : Nat) (x1 : Int32) (x3 : Int32) (x4 : Int32) : Option (St × Int32) :=
  if inb x1 8 = true then (f_X11_set_87 (zI z (rf o0 1) (Int32.toNatClampNeg x1) x3) o0 x4) else none
theorem b_X11_set_40 {p : Program} {l : Launch} {e : Env} {s : State} {m : MethodId} {args : Array Value} {below : List Frame} {meth : Method} {c : Code} {g : Ga} {A : Nat → Prop} (C : Cx l g A p s m args c cX11_set 5 RX11 (rm_X11_set) (0, 0)) (hr : meth.sig.returnType = (some .int)) (hk : meth.locks = false)   (z : St) (o0 : Nat) (x1 : Int32) (x3 : Int32) (x4 : Int32) (ho0 : kd o0 = 11) {res : St × Int32} (hf : f_X11_set_40  z o0 x1 x3 x4 = some res) : Zj p l e (rm_X11_set) s m args below meth c g A 5 (0, 0) (QI g A below args s res) z 40 [(0, .ref (g.1 o0)), (1, .int x1), (3, .int x3), (4, .int x4)] [] := by
  unfold f_X11_set_40 at hf
  refine z_aload_n C dX11_set_40 rfl 0 rfl ?_
  refine gf_X11_9 C dX11_set_41 ho0 ?_
  refine z_iload_n C dX11_set_44 rfl 1 rfl ?_
  refine z_iload_n C dX11_set_45 rfl 2 rfl ?_
  obtain ⟨h1, hf⟩ := q_ck hf
  refine z_iast C (n := 8) dX11_set_46 (rt_11_1 _ (kd_lt ho0 (by decide)) ho0) (by decide) h1 ?_
  exact z_goto C dX11_set_47 (by decide) (z_sub [0, 3] rfl (b_X11_set_87 C hr hk (zI z (rf o0 1) (Int32.toNatClampNeg x1) x3) o0 x4 ho0 hf))
def f_X11_set_55  (z : St) (o0 : Nat) (x1 : Int32) (x3 : Int32) (x4 : Int32) : Option (St × Int32) :=
  if inb x1 8 = true then (f_X11_set_87 (zI z (rf o0 2) (Int32.toNatClampNeg x1) x3) o0 x4) else none
theorem b_X11_set_55 {p : Program} {l : Launch} {e : Env} {s : State} {m : MethodId} {args : Array Value} {below : List Frame} {meth : Method} {c : Code} {g : Ga} {A : Nat → Prop} (C : Cx l g A p s m args c cX11_set 5 RX11 (rm_X11_set) (0, 0)) (hr : meth.sig.returnType = (some .int)) (hk : meth.locks = false)   (z : St) (o0 : Nat) (x1 : Int32) (x3 : Int32) (x4 : Int32) (ho0 : kd o0 = 11) {res : St × Int32} (hf : f_X11_set_55  z o0 x1 x3 x4 = some res) : Zj p l e (rm_X11_set) s m args below meth c g A 5 (0, 0) (QI g A below args s res) z 55 [(0, .ref (g.1 o0)), (1, .int x1), (3, .int x3), (4, .int x4)] [] := by
  unfold f_X11_set_55 at hf
  refine z_aload_n C dX11_set_55 rfl 0 rfl ?_
  refine gf_X11_13 C dX11_set_56 ho0 ?_
  refine z_iload_n C dX11_set_59 rfl 1 rfl ?_
  refine z_iload_n C dX11_set_60 rfl 2 rfl ?_
  obtain ⟨h1, hf⟩ := q_ck hf
  refine z_iast C (n := 8) dX11_set_61 (rt_11_2 _ (kd_lt ho0 (by decide)) ho0) (by decide) h1 ?_
  exact z_goto C dX11_set_62 (by decide) (z_sub [0, 3] rfl (b_X11_set_87 C hr hk (zI z (rf o0 2) (Int32.toNatClampNeg x1) x3) o0 x4 ho0 hf))
def f_X11_set_70  (z : St) (o0 : Nat) (x1 : Int32) (x3 : Int32) (x4 : Int32) : Option (St × Int32) :=
  if inb x1 8 = true then (f_X11_set_87 (zI z (rf o0 3) (Int32.toNatClampNeg x1) x3) o0 x4) else none
theorem b_X11_set_70 {p : Program} {l : Launch} {e : Env} {s : State} {m : MethodId} {args : Array Value} {below : List Frame} {meth : Method} {c : Code} {g : Ga} {A : Nat → Prop} (C : Cx l g A p s m args c cX11_set 5 RX11 (rm_X11_set) (0, 0)) (hr : meth.sig.returnType = (some .int)) (hk : meth.locks = false)   (z : St) (o0 : Nat) (x1 : Int32) (x3 : Int32) (x4 : Int32) (ho0 : kd o0 = 11) {res : St × Int32} (hf : f_X11_set_70  z o0 x1 x3 x4 = some res) : Zj p l e (rm_X11_set) s m args below meth c g A 5 (0, 0) (QI g A below args s res) z 70 [(0, .ref (g.1 o0)), (1, .int x1), (3, .int x3), (4, .int x4)] [] := by
  unfold f_X11_set_70 at hf
  refine z_aload_n C dX11_set_70 rfl 0 rfl ?_
  refine gf_X11_16 C dX11_set_71 ho0 ?_
  refine z_iload_n C dX11_set_74 rfl 1 rfl ?_
  refine z_iload_n C dX11_set_75 rfl 2 rfl ?_
  obtain ⟨h1, hf⟩ := q_ck hf
  refine z_iast C (n := 8) dX11_set_76 (rt_11_3 _ (kd_lt ho0 (by decide)) ho0) (by decide) h1 ?_
  exact z_goto C dX11_set_77 (by decide) (z_sub [0, 3] rfl (b_X11_set_87 C hr hk (zI z (rf o0 3) (Int32.toNatClampNeg x1) x3) o0 x4 ho0 hf))
def f_X11_set_80  (z : St) (o0 : Nat) (x1 : Int32) (x3 : Int32) (x4 : Int32) : Option (St × Int32) :=
  if inb x1 8 = true then (f_X11_set_87 (zI z (rf o0 4) (Int32.toNatClampNeg x1) x3) o0 x4) else none
theorem b_X11_set_80 {p : Program} {l : Launch} {e : Env} {s : State} {m : MethodId} {args : Array Value} {below : List Frame} {meth : Method} {c : Code} {g : Ga} {A : Nat → Prop} (C : Cx l g A p s m args c cX11_set 5 RX11 (rm_X11_set) (0, 0)) (hr : meth.sig.returnType = (some .int)) (hk : meth.locks = false)   (z : St) (o0 : Nat) (x1 : Int32) (x3 : Int32) (x4 : Int32) (ho0 : kd o0 = 11) {res : St × Int32} (hf : f_X11_set_80  z o0 x1 x3 x4 = some res) : Zj p l e (rm_X11_set) s m args below meth c g A 5 (0, 0) (QI g A below args s res) z 80 [(0, .ref (g.1 o0)), (1, .int x1), (3, .int x3), (4, .int x4)] [] := by
  unfold f_X11_set_80 at hf
  refine z_aload_n C dX11_set_80 rfl 0 rfl ?_
  refine gf_X11_19 C dX11_set_81 ho0 ?_
  refine z_iload_n C dX11_set_84 rfl 1 rfl ?_
  refine z_iload_n C dX11_set_85 rfl 2 rfl ?_
  obtain ⟨h1, hf⟩ := q_ck hf
  refine z_iast C (n := 8) dX11_set_86 (rt_11_4 _ (kd_lt ho0 (by decide)) ho0) (by decide) h1 ?_
  exact z_sub [0, 3] rfl (b_X11_set_87 C hr hk (zI z (rf o0 4) (Int32.toNatClampNeg x1) x3) o0 x4 ho0 hf)
def f_X11_set_65  (z : St) (o0 : Nat) (x1 : Int32) (x2 : Int32) (x3 : Int32) (x4 : Int32) : Option (St × Int32) :=
  if x2 = 2 then f_X11_set_70 z o0 x1 x3 x4 else f_X11_set_80 z o0 x1 x3 x4
theorem b_X11_set_65 {p : Program} {l : Launch} {e : Env} {s : State} {m : MethodId} {args : Array Value} {below : List Frame} {meth : Method} {c : Code} {g : Ga} {A : Nat → Prop} (C : Cx l g A p s m args c cX11_set 5 RX11 (rm_X11_set) (0, 0)) (hr : meth.sig.returnType = (some .int)) (hk : meth.locks = false)   (z : St) (o0 : Nat) (x1 : Int32) (x2 : Int32) (x3 : Int32) (x4 : Int32) (ho0 : kd o0 = 11) {res : St × Int32} (hf : f_X11_set_65  z o0 x1 x2 x3 x4 = some res) : Zj p l e (rm_X11_set) s m args below meth c g A 5 (0, 0) (QI g A below args s res) z 65 [(0, .ref (g.1 o0)), (1, .int x1), (2, .int x2), (3, .int x3), (4, .int x4)] [] := by
  unfold f_X11_set_65 at hf
  refine z_iload_n C dX11_set_65 rfl 2 rfl ?_
  refine z_iconst C dX11_set_66 (v := 2) (by decide) ?_
  exact z_icmp_ne C dX11_set_67 (by decide) (fun h => z_sub [0, 1, 3, 4] rfl (b_X11_set_80 C hr hk z o0 x1 x3 x4 ho0 (q_f hf h))) (fun h => z_sub [0, 1, 3, 4] rfl (b_X11_set_70 C hr hk z o0 x1 x3 x4 ho0 (q_t hf h)))
def f_X11_set_50  (z : St) (o0 : Nat) (x1 : Int32) (x2 : Int32) (x3 : Int32) (x4 : Int32) : Option (St × Int32) :=
  if x2 = 1 then f_X11_set_55 z o0 x1 x3 x4 else f_X11_set_65 z o0 x1 x2 x3 x4
theorem b_X11_set_50 {p : Program} {l : Launch} {e : Env} {s : State} {m : MethodId} {args : Array Value} {below : List Frame} {meth : Method} {c : Code} {g : Ga} {A : Nat → Prop} (C : Cx l g A p s m args c cX11_set 5 RX11 (rm_X11_set) (0, 0)) (hr : meth.sig.returnType = (some .int)) (hk : meth.locks = false)   (z : St) (o0 : Nat) (x1 : Int32) (x2 : Int32) (x3 : Int32) (x4 : Int32) (ho0 : kd o0 = 11) {res : St × Int32} (hf : f_X11_set_50  z o0 x1 x2 x3 x4 = some res) : Zj p l e (rm_X11_set) s m args below meth c g A 5 (0, 0) (QI g A below args s res) z 50 [(0, .ref (g.1 o0)), (1, .int x1), (2, .int x2), (3, .int x3), (4, .int x4)] [] := by
  unfold f_X11_set_50 at hf
  refine z_iload_n C dX11_set_50 rfl 2 rfl ?_
  refine z_iconst C dX11_set_51 (v := 1) (by decide) ?_
  exact z_icmp_ne C dX11_set_52 (by decide) (fun h => z_sub [0, 1, 2, 3, 4] rfl (b_X11_set_65 C hr hk z o0 x1 x2 x3 x4 ho0 (q_f hf h))) (fun h => z_sub [0, 1, 3, 4] rfl (b_X11_set_55 C hr hk z o0 x1 x3 x4 ho0 (q_t hf h)))
def f_X11_set_28  (z : St) (o0 : Nat) (x1 : Int32) (x2 : Int32) (x3 : Int32) : Option (St × Int32) :=
  ((f_X11_its z o0 x1 x2).bind fun r1 => if x2 = 0 then f_X11_set_40 r1.1 o0 x1 x3 r1.2 else f_X11_set_50 r1.1 o0 x1 x2 x3 r1.2)
theorem b_X11_set_28 {p : Program} {l : Launch} {e : Env} {s : State} {m : MethodId} {args : Array Value} {below : List Frame} {meth : Method} {c : Code} {g : Ga} {A : Nat → Prop} (C : Cx l g A p s m args c cX11_set 5 RX11 (rm_X11_set) (0, 0)) (hr : meth.sig.returnType = (some .int)) (hk : meth.locks = false)   (z : St) (o0 : Nat) (x1 : Int32) (x2 : Int32) (x3 : Int32) (ho0 : kd o0 = 11) {res : St × Int32} (hf : f_X11_set_28  z o0 x1 x2 x3 = some res) : Zj p l e (rm_X11_set) s m args below meth c g A 5 (0, 0) (QI g A below args s res) z 28 [(0, .ref (g.1 o0)), (1, .int x1), (2, .int x2), (3, .int x3)] [] := by
  unfold f_X11_set_28 at hf
  refine z_aload_n C dX11_set_28 rfl 0 rfl ?_
  refine z_iload_n C dX11_set_29 rfl 1 rfl ?_
  refine z_iload_n C dX11_set_30 rfl 2 rfl ?_
  obtain ⟨r1, hc2, hf⟩ := q_bd hf
  refine z_cVi C (st := []) (c_X11_its ho0 hc2) mw_X11_its ml_X11_152 ho0 (by decide) rfl dX11_set_31 rfl rfl rfl ⟨Nat.le_of_ble_eq_true rfl, Nat.le_of_ble_eq_true rfl⟩ rfl (Nat.le_of_ble_eq_true rfl) ?_
  refine z_istore C (lv2 := [(4, .int r1.2), (0, .ref (g.1 o0)), (1, .int x1), (2, .int x2), (3, .int x3)]) dX11_set_34 (by decide) rfl ?_
  refine z_iload_n C dX11_set_36 rfl 3 rfl ?_
  exact z_if_ne C dX11_set_37 (by decide) (fun h => z_sub [1, 2, 3, 4, 0] rfl (b_X11_set_50 C hr hk r1.1 o0 x1 x2 x3 r1.2 ho0 (q_f hf h))) (fun h => z_sub [1, 2, 4, 0] rfl (b_X11_set_40 C hr hk r1.1 o0 x1 x3 r1.2 ho0 (q_t hf h)))
def f_X11_set_17  (z : St) (o0 : Nat) (x1 : Int32) (x2 : Int32) (x3 : Int32) : Option (St × Int32) :=
  ((f_X11_mayBe z x2 x3).bind fun r1 => if r1.2 = 0 then f_X11_set_25 r1.1 else f_X11_set_28 r1.1 o0 x1 x2 x3)
theorem b_X11_set_17 {p : Program} {l : Launch} {e : Env} {s : State} {m : MethodId} {args : Array Value} {below : List Frame} {meth : Method} {c : Code} {g : Ga} {A : Nat → Prop} (C : Cx l g A p s m args c cX11_set 5 RX11 (rm_X11_set) (0, 0)) (hr : meth.sig.returnType = (some .int)) (hk : meth.locks = false)   (z : St) (o0 : Nat) (x1 : Int32) (x2 : Int32) (x3 : Int32) (ho0 : kd o0 = 11) {res : St × Int32} (hf : f_X11_set_17  z o0 x1 x2 x3 = some res) : Zj p l e (rm_X11_set) s m args below meth c g A 5 (0, 0) (QI g A below args s res) z 17 [(0, .ref (g.1 o0)), (1, .int x1), (2, .int x2), (3, .int x3)] [] := by
  unfold f_X11_set_17 at hf
  refine z_iload_n C dX11_set_17 rfl 2 rfl ?_
  refine z_iload_n C dX11_set_18 rfl 3 rfl ?_
  obtain ⟨r1, hc2, hf⟩ := q_bd hf
  refine z_cSi C (st := []) (c_X11_mayBe  hc2) mw_X11_mayBe ml_X11_132 dX11_set_19 rfl rfl rfl ⟨Nat.le_of_ble_eq_true rfl, Nat.le_of_ble_eq_true rfl⟩ rfl (Nat.le_of_ble_eq_true rfl) ?_
  exact z_if_ne C dX11_set_22 (by decide) (fun h => z_sub [0, 1, 2, 3] rfl (b_X11_set_28 C hr hk r1.1 o0 x1 x2 x3 ho0 (q_f hf h))) (fun h => z_sub [] rfl (b_X11_set_25 C hr hk r1.1 (q_t hf h)))
def f_X11_set_8  (z : St) (o0 : Nat) (x1 : Int32) (x2 : Int32) (x3 : Int32) : Option (St × Int32) :=
  ((f_X11_in z x2 0 3).bind fun r1 => if r1.2 = 0 then f_X11_set_25 r1.1 else f_X11_set_17 r1.1 o0 x1 x2 x3)
theorem b_X11_set_8 {p : Program} {l : Launch} {e : Env} {s : State} {m : MethodId} {args : Array Value} {below : List Frame} {meth : Method} {c : Code} {g : Ga} {A : Nat → Prop} (C : Cx l g A p s m args c cX11_set 5 RX11 (rm_X11_set) (0, 0)) (hr : meth.sig.returnType = (some .int)) (hk : meth.locks = false)   (z : St) (o0 : Nat) (x1 : Int32) (x2 : Int32) (x3 : Int32) (ho0 : kd o0 = 11) {res : St × Int32} (hf : f_X11_set_8  z o0 x1 x2 x3 = some res) : Zj p l e (rm_X11_set) s m args below meth c g A 5 (0, 0) (QI g A below args s res) z 8 [(0, .ref (g.1 o0)), (1, .int x1), (2, .int x2), (3, .int x3)] [] := by
  unfold f_X11_set_8 at hf
  refine z_iload_n C dX11_set_8 rfl 2 rfl ?_
  refine z_iconst C dX11_set_9 (v := 0) (by decide) ?_
  refine z_iconst C dX11_set_10 (v := 3) (by decide) ?_
  obtain ⟨r1, hc2, hf⟩ := q_bd hf
  refine z_cSi C (st := []) (c_X11_in  hc2) mw_X11_in ml_X11_114 dX11_set_11 rfl rfl rfl ⟨Nat.le_of_ble_eq_true rfl, Nat.le_of_ble_eq_true rfl⟩ rfl (Nat.le_of_ble_eq_true rfl) ?_
  exact z_if_eq C dX11_set_14 (by decide) (fun h => z_sub [] rfl (b_X11_set_25 C hr hk r1.1 (q_t hf h))) (fun h => z_sub [0, 1, 2, 3] rfl (b_X11_set_17 C hr hk r1.1 o0 x1 x2 x3 ho0 (q_f hf h)))
def f_X11_set_0  (z : St) (o0 : Nat) (x1 : Int32) (x2 : Int32) (x3 : Int32) : Option (St × Int32) :=
  ((f_X11_isJob z o0 x1).bind fun r1 => if r1.2 = 0 then f_X11_set_25 r1.1 else f_X11_set_8 r1.1 o0 x1 x2 x3)
theorem b_X11_set_0 {p : Program} {l : Launch} {e : Env} {s : State} {m : MethodId} {args : Array Value} {below : List Frame} {meth : Method} {c : Code} {g : Ga} {A : Nat → Prop} (C : Cx l g A p s m args c cX11_set 5 RX11 (rm_X11_set) (0, 0)) (hr : meth.sig.returnType = (some .int)) (hk : meth.locks = false)   (z : St) (o0 : Nat) (x1 : Int32) (x2 : Int32) (x3 : Int32) (ho0 : kd o0 = 11) {res : St × Int32} (hf : f_X11_set_0  z o0 x1 x2 x3 = some res) : Zj p l e (rm_X11_set) s m args below meth c g A 5 (0, 0) (QI g A below args s res) z 0 [(0, .ref (g.1 o0)), (1, .int x1), (2, .int x2), (3, .int x3)] [] := by
  unfold f_X11_set_0 at hf
  refine z_aload_n C dX11_set_0 rfl 0 rfl ?_
  refine z_iload_n C dX11_set_1 rfl 1 rfl ?_
  obtain ⟨r1, hc2, hf⟩ := q_bd hf
  refine z_cVi C (st := []) (c_X11_isJob ho0 hc2) mw_X11_isJob ml_X11_148 ho0 (by decide) rfl dX11_set_2 rfl rfl rfl ⟨Nat.le_of_ble_eq_true rfl, Nat.le_of_ble_eq_true rfl⟩ rfl (Nat.le_of_ble_eq_true rfl) ?_
  exact z_if_eq C dX11_set_5 (by decide) (fun h => z_sub [] rfl (b_X11_set_25 C hr hk r1.1 (q_t hf h))) (fun h => z_sub [0, 1, 2, 3] rfl (b_X11_set_8 C hr hk r1.1 o0 x1 x2 x3 ho0 (q_f hf h)))
def f_X11_set (z : St) (o0 : Nat) (x1 : Int32) (x2 : Int32) (x3 : Int32) : Option (St × Int32) := f_X11_set_0 z o0 x1 x2 x3
theorem c_X11_set {l : Launch} {g : Ga} {A : Nat → Prop} {z : St} {o0 : Nat} {x1 : Int32} {x2 : Int32} {x3 : Int32} (ho0 : kd o0 = 11) {res : St × Int32} (hf : f_X11_set z o0 x1 x2 x3 = some res) : CI l g A yX11_set cX11_set 5 (some .int) rm_X11_set [.ref (g.1 o0), .int x1, .int x2, .int x3] z res :=
  e_CI (by decide) (Nat.le_of_ble_eq_true rfl) rfl (fun p e s m args below meth c C hr hk => z_sub [0, 1, 2, 3] rfl (b_X11_set_0 C hr hk z o0 x1 x2 x3 ho0 hf))
abbrev rm_X11_told : Room := { frames := 4, cells := 0, slots := 0, locals := 86 }
def f_X11_told_29  (z : St) (s0 : Int32) : Option (St × Int32) :=
  some (z, s0)
theorem b_X11_told_29 {p : Program} {l : Launch} {e : Env} {s : State} {m : MethodId} {args : Array Value} {below : List Frame} {meth : Method} {c : Code} {g : Ga} {A : Nat → Prop} (C : Cx l g A p s m args c cX11_told 3 RX11 (rm_X11_told) (0, 0)) (hr : meth.sig.returnType = (some .int)) (hk : meth.locks = false)   (z : St) (s0 : Int32)  {res : St × Int32} (hf : f_X11_told_29  z s0 = some res) : Zj p l e (rm_X11_told) s m args below meth c g A 3 (0, 0) (QI g A below args s res) z 29 [] [.int s0] := by
  unfold f_X11_told_29 at hf
  cases hf
  exact z_iret C hr hk dX11_told_29
def f_X11_told_18  (z : St) (o0 : Nat) (x1 : Int32) (x2 : Int32) : Option (St × Int32) :=
  ((f_X11_its z o0 x1 x2).bind fun r1 => f_X11_told_29 r1.1 r1.2)
theorem b_X11_told_18 {p : Program} {l : Launch} {e : Env} {s : State} {m : MethodId} {args : Array Value} {below : List Frame} {meth : Method} {c : Code} {g : Ga} {A : Nat → Prop} (C : Cx l g A p s m args c cX11_told 3 RX11 (rm_X11_told) (0, 0)) (hr : meth.sig.returnType = (some .int)) (hk : meth.locks = false)   (z : St) (o0 : Nat) (x1 : Int32) (x2 : Int32) (ho0 : kd o0 = 11) {res : St × Int32} (hf : f_X11_told_18  z o0 x1 x2 = some res) : Zj p l e (rm_X11_told) s m args below meth c g A 3 (0, 0) (QI g A below args s res) z 18 [(0, .ref (g.1 o0)), (1, .int x1), (2, .int x2)] [] := by
  unfold f_X11_told_18 at hf
  refine z_aload_n C dX11_told_18 rfl 0 rfl ?_
  refine z_iload_n C dX11_told_19 rfl 1 rfl ?_
  refine z_iload_n C dX11_told_20 rfl 2 rfl ?_
  obtain ⟨r1, hc2, hf⟩ := q_bd hf
  refine z_cVi C (st := []) (c_X11_its ho0 hc2) mw_X11_its ml_X11_152 ho0 (by decide) rfl dX11_told_21 rfl rfl rfl ⟨Nat.le_of_ble_eq_true rfl, Nat.le_of_ble_eq_true rfl⟩ rfl (Nat.le_of_ble_eq_true rfl) ?_
  exact z_goto C dX11_told_24 (by decide) (z_sub [] rfl (b_X11_told_29 C hr hk r1.1 r1.2 hf))
def f_X11_told_27  (z : St)  : Option (St × Int32) :=
  f_X11_told_29 z ((-2))
theorem b_X11_told_27 {p : Program} {l : Launch} {e : Env} {s : State} {m : MethodId} {args : Array Value} {below : List Frame} {meth : Method} {c : Code} {g : Ga} {A : Nat → Prop} (C : Cx l g A p s m args c cX11_told 3 RX11 (rm_X11_told) (0, 0)) (hr : meth.sig.returnType = (some .int)) (hk : meth.locks = false)   (z : St)   {res : St × Int32} (hf : f_X11_told_27  z  = some res) : Zj p l e (rm_X11_told) s m args below meth c g A 3 (0, 0) (QI g A below args s res) z 27 [] [] := by
  unfold f_X11_told_27 at hf
  refine z_bipush C dX11_told_27 (v := (-2)) (by decide) ?_
  exact z_sub [] rfl (b_X11_told_29 C hr hk z ((-2)) hf)
def f_X11_told_8  (z : St) (o0 : Nat) (x1 : Int32) (x2 : Int32) : Option (St × Int32) :=
  ((f_X11_in z x2 0 6).bind fun r1 => if r1.2 = 0 then f_X11_told_27 r1.1 else f_X11_told_18 r1.1 o0 x1 x2)
theorem b_X11_told_8 {p : Program} {l : Launch} {e : Env} {s : State} {m : MethodId} {args : Array Value} {below : List Frame} {meth : Method} {c : Code} {g : Ga} {A : Nat → Prop} (C : Cx l g A p s m args c cX11_told 3 RX11 (rm_X11_told) (0, 0)) (hr : meth.sig.returnType = (some .int)) (hk : meth.locks = false)   (z : St) (o0 : Nat) (x1 : Int32) (x2 : Int32) (ho0 : kd o0 = 11) {res : St × Int32} (hf : f_X11_told_8  z o0 x1 x2 = some res) : Zj p l e (rm_X11_told) s m args below meth c g A 3 (0, 0) (QI g A below args s res) z 8 [(0, .ref (g.1 o0)), (1, .int x1), (2, .int x2)] [] := by
  unfold f_X11_told_8 at hf
  refine z_iload_n C dX11_told_8 rfl 2 rfl ?_
  refine z_iconst C dX11_told_9 (v := 0) (by decide) ?_
  refine z_bipush C dX11_told_10 (v := 6) (by decide) ?_
  obtain ⟨r1, hc2, hf⟩ := q_bd hf
  refine z_cSi C (st := []) (c_X11_in  hc2) mw_X11_in ml_X11_114 dX11_told_12 rfl rfl rfl ⟨Nat.le_of_ble_eq_true rfl, Nat.le_of_ble_eq_true rfl⟩ rfl (Nat.le_of_ble_eq_true rfl) ?_
  exact z_if_eq C dX11_told_15 (by decide) (fun h => z_sub [] rfl (b_X11_told_27 C hr hk r1.1 (q_t hf h))) (fun h => z_sub [0, 1, 2] rfl (b_X11_told_18 C hr hk r1.1 o0 x1 x2 ho0 (q_f hf h)))
def f_X11_told_0  (z : St) (o0 : Nat) (x1 : Int32) (x2 : Int32) : Option (St × Int32) :=
  ((f_X11_isJob z o0 x1).bind fun r1 => if r1.2 = 0 then f_X11_told_27 r1.1 else f_X11_told_8 r1.1 o0 x1 x2)
theorem b_X11_told_0 {p : Program} {l : Launch} {e : Env} {s : State} {m : MethodId} {args : Array Value} {below : List Frame} {meth : Method} {c : Code} {g : Ga} {A : Nat → Prop} (C : Cx l g A p s m args c cX11_told 3 RX11 (rm_X11_told) (0, 0)) (hr : meth.sig.returnType = (some .int)) (hk : meth.locks = false)   (z : St) (o0 : Nat) (x1 : Int32) (x2 : Int32) (ho0 : kd o0 = 11) {res : St × Int32} (hf : f_X11_told_0  z o0 x1 x2 = some res) : Zj p l e (rm_X11_told) s m args below meth c g A 3 (0, 0) (QI g A below args s res) z 0 [(0, .ref (g.1 o0)), (1, .int x1), (2, .int x2)] [] := by
  unfold f_X11_told_0 at hf
  refine z_aload_n C dX11_told_0 rfl 0 rfl ?_
  refine z_iload_n C dX11_told_1 rfl 1 rfl ?_
  obtain ⟨r1, hc2, hf⟩ := q_bd hf
  refine z_cVi C (st := []) (c_X11_isJob ho0 hc2) mw_X11_isJob ml_X11_148 ho0 (by decide) rfl dX11_told_2 rfl rfl rfl ⟨Nat.le_of_ble_eq_true rfl, Nat.le_of_ble_eq_true rfl⟩ rfl (Nat.le_of_ble_eq_true rfl) ?_
  exact z_if_eq C dX11_told_5 (by decide) (fun h => z_sub [] rfl (b_X11_told_27 C hr hk r1.1 (q_t hf h))) (fun h => z_sub [0, 1, 2] rfl (b_X11_told_8 C hr hk r1.1 o0 x1 x2 ho0 (q_f hf h)))
def f_X11_told (z : St) (o0 : Nat) (x1 : Int32) (x2 : Int32) : Option (St × Int32) := f_X11_told_0 z o0 x1 x2
theorem c_X11_told {l : Launch} {g : Ga} {A : Nat → Prop} {z : St} {o0 : Nat} {x1 : Int32} {x2 : Int32} (ho0 : kd o0 = 11) {res : St × Int32} (hf : f_X11_told z o0 x1 x2 = some res) : CI l g A yX11_told cX11_told 3 (some .int) rm_X11_told [.ref (g.1 o0), .int x1, .int x2] z res :=
  e_CI (by decide) (Nat.le_of_ble_eq_true rfl) rfl (fun p e s m args below meth c C hr hk => z_sub [0, 1, 2] rfl (b_X11_told_0 C hr hk z o0 x1 x2 ho0 hf))
abbrev rm_X11_drop : Room := { frames := 2, cells := 0, slots := 0, locals := 43 }
def f_X11_drop_8  (z : St)  : Option (St × Int32) :=
  some (z, (-2))
theorem b_X11_drop_8 {p : Program} {l : Launch} {e : Env} {s : State} {m : MethodId} {args : Array Value} {below : List Frame} {meth : Method} {c : Code} {g : Ga} {A : Nat → Prop} (C : Cx l g A p s m args c cX11_drop 3 RX11 (rm_X11_drop) (0, 0)) (hr : meth.sig.returnType = (some .int)) (hk : meth.locks = false)   (z : St)   {res : St × Int32} (hf : f_X11_drop_8  z  = some res) : Zj p l e (rm_X11_drop) s m args below meth c g A 3 (0, 0) (QI g A below args s res) z 8 [] [] := by
  unfold f_X11_drop_8 at hf
  refine z_bipush C dX11_drop_8 (v := (-2)) (by decide) ?_
  cases hf
  exact z_iret C hr hk dX11_drop_10
def f_X11_drop_23 (K15 : St → Nat → Int32 → Option (St × Int32)) (z : St) (o0 : Nat) (x2 : Int32) : Option (St × Int32) :=
  if inb x2 8 = true then (if inb (x2 - 1) 8 = true then (if inb x2 8 = true then (if inb (x2 - 1) 8 = true then (if inb x2 8 = true then (if inb (x2 - 1) 8 = true then (if inb x2 8 = true then (if inb (x2 - 1) 8 = true then (K15 (zI (zI (zI (zI z (rf o0 1) (Int32.toNatClampNeg (x2 - 1)) (z.1 (rf o0 1) (Int32.toNatClampNeg x2))) (rf o0 2) (Int32.toNatClampNeg (x2 - 1)) ((zI z (rf o0 1) (Int32.toNatClampNeg (x2 - 1)) (z.1 (rf o0 1) (Int32.toNatClampNeg x2))).1 (rf o0 2) (Int32.toNatClampNeg x2))) (rf o0 3) (Int32.toNatClampNeg (x2 - 1)) ((zI (zI z (rf o0 1) (Int32.toNatClampNeg (x2 - 1)) (z.1 (rf o0 1) (Int32.toNatClampNeg x2))) (rf o0 2) (Int32.toNatClampNeg (x2 - 1)) ((zI z (rf o0 1) (Int32.toNatClampNeg (x2 - 1)) (z.1 (rf o0 1) (Int32.toNatClampNeg x2))).1 (rf o0 2) (Int32.toNatClampNeg x2))).1 (rf o0 3) (Int32.toNatClampNeg x2))) (rf o0 4) (Int32.toNatClampNeg (x2 - 1)) ((zI (zI (zI z (rf o0 1) (Int32.toNatClampNeg (x2 - 1)) (z.1 (rf o0 1) (Int32.toNatClampNeg x2))) (rf o0 2) (Int32.toNatClampNeg (x2 - 1)) ((zI z (rf o0 1) (Int32.toNatClampNeg (x2 - 1)) (z.1 (rf o0 1) (Int32.toNatClampNeg x2))).1 (rf o0 2) (Int32.toNatClampNeg x2))) (rf o0 3) (Int32.toNatClampNeg (x2 - 1)) ((zI (zI z (rf o0 1) (Int32.toNatClampNeg (x2 - 1)) (z.1 (rf o0 1) (Int32.toNatClampNeg x2))) (rf o0 2) (Int32.toNatClampNeg (x2 - 1)) ((zI z (rf o0 1) (Int32.toNatClampNeg (x2 - 1)) (z.1 (rf o0 1) (Int32.toNatClampNeg x2))).1 (rf o0 2) (Int32.toNatClampNeg x2))).1 (rf o0 3) (Int32.toNatClampNeg x2))).1 (rf o0 4) (Int32.toNatClampNeg x2))) o0 (x2 + 1)) else none) else none) else none) else none) else none) else none) else none) else none
theorem b_X11_drop_23 {p : Program} {l : Launch} {e : Env} {s : State} {m : MethodId} {args : Array Value} {below : List Frame} {meth : Method} {c : Code} {g : Ga} {A : Nat → Prop} (C : Cx l g A p s m args c cX11_drop 3 RX11 (rm_X11_drop) (0, 0)) (hr : meth.sig.returnType = (some .int)) (hk : meth.locks = false) {K15 : St → Nat → Int32 → Option (St × Int32)} (hK15 : ∀ (z : St) (o0 : Nat) (x2 : Int32) (_ : kd o0 = 11) {res : St × Int32}, K15 z o0 x2 = some res → Zj p l e (rm_X11_drop) s m args below meth c g A 3 (0, 0) (QI g A below args s res) z 15 [(0, .ref (g.1 o0)), (2, .int x2)] []) (z : St) (o0 : Nat) (x2 : Int32) (ho0 : kd o0 = 11) {res : St × Int32} (hf : f_X11_drop_23 K15 z o0 x2 = some res) : Zj p l e (rm_X11_drop) s m args below meth c g A 3 (0, 0) (QI g A below args s res) z 23 [(0, .ref (g.1 o0)), (2, .int x2)] [] := by
  unfold f_X11_drop_23 at hf
  refine z_aload_n C dX11_drop_23 rfl 0 rfl ?_
  refine gf_X11_9 C dX11_drop_24 ho0 ?_
  refine z_iload_n C dX11_drop_27 rfl 1 rfl ?_
  refine z_iconst C dX11_drop_28 (v := 1) (by decide) ?_
  refine z_isub C dX11_drop_29 ?_
  refine z_aload_n C dX11_drop_30 rfl 0 rfl ?_
  refine gf_X11_9 C dX11_drop_31 ho0 ?_
  refine z_iload_n C dX11_drop_34 rfl 1 rfl ?_
  obtain ⟨h1, hf⟩ := q_ck hf
  refine z_iald C (n := 8) dX11_drop_35 (rt_11_1 _ (kd_lt ho0 (by decide)) ho0) (by decide) h1 ?_
  obtain ⟨h2, hf⟩ := q_ck hf
  refine z_iast C (n := 8) dX11_drop_36 (rt_11_1 _ (kd_lt ho0 (by decide)) ho0) (by decide) h2 ?_
  refine z_aload_n C dX11_drop_37 rfl 0 rfl ?_
  refine gf_X11_13 C dX11_drop_38 ho0 ?_
  refine z_iload_n C dX11_drop_41 rfl 1 rfl ?_
  refine z_iconst C dX11_drop_42 (v := 1) (by decide) ?_
  refine z_isub C dX11_drop_43 ?_
  refine z_aload_n C dX11_drop_44 rfl 0 rfl ?_
  refine gf_X11_13 C dX11_drop_45 ho0 ?_
  refine z_iload_n C dX11_drop_48 rfl 1 rfl ?_
  obtain ⟨h3, hf⟩ := q_ck hf
  refine z_iald C (n := 8) dX11_drop_49 (rt_11_2 _ (kd_lt ho0 (by decide)) ho0) (by decide) h3 ?_
  obtain ⟨h4, hf⟩ := q_ck hf
  refine z_iast C (n := 8) dX11_drop_50 (rt_11_2 _ (kd_lt ho0 (by decide)) ho0) (by decide) h4 ?_
  refine z_aload_n C dX11_drop_51 rfl 0 rfl ?_
  refine gf_X11_16 C dX11_drop_52 ho0 ?_
  refine z_iload_n C dX11_drop_55 rfl 1 rfl ?_
  refine z_iconst C dX11_drop_56 (v := 1) (by decide) ?_
  refine z_isub C dX11_drop_57 ?_
  refine z_aload_n C dX11_drop_58 rfl 0 rfl ?_
  refine gf_X11_16 C dX11_drop_59 ho0 ?_
  refine z_iload_n C dX11_drop_62 rfl 1 rfl ?_
  obtain ⟨h5, hf⟩ := q_ck hf
  refine z_iald C (n := 8) dX11_drop_63 (rt_11_3 _ (kd_lt ho0 (by decide)) ho0) (by decide) h5 ?_
  obtain ⟨h6, hf⟩ := q_ck hf
  refine z_iast C (n := 8) dX11_drop_64 (rt_11_3 _ (kd_lt ho0 (by decide)) ho0) (by decide) h6 ?_
  refine z_aload_n C dX11_drop_65 rfl 0 rfl ?_
  refine gf_X11_19 C dX11_drop_66 ho0 ?_
  refine z_iload_n C dX11_drop_69 rfl 1 rfl ?_
  refine z_iconst C dX11_drop_70 (v := 1) (by decide) ?_
  refine z_isub C dX11_drop_71 ?_
  refine z_aload_n C dX11_drop_72 rfl 0 rfl ?_
  refine gf_X11_19 C dX11_drop_73 ho0 ?_
  refine z_iload_n C dX11_drop_76 rfl 1 rfl ?_
  obtain ⟨h7, hf⟩ := q_ck hf
  refine z_iald C (n := 8) dX11_drop_77 (rt_11_4 _ (kd_lt ho0 (by decide)) ho0) (by decide) h7 ?_
  obtain ⟨h8, hf⟩ := q_ck hf
  refine z_iast C (n := 8) dX11_drop_78 (rt_11_4 _ (kd_lt ho0 (by decide)) ho0) (by decide) h8 ?_
  refine z_iinc C (k := 1) (v := x2 + 1) (lv2 := [(2, .int (x2 + 1)), (0, .ref (g.1 o0))]) dX11_drop_79 rfl rfl (by decide) rfl ?_
  exact z_goto C dX11_drop_82 (by decide) (z_sub [1, 0] rfl (hK15 (zI (zI (zI (zI z (rf o0 1) (Int32.toNatClampNeg (x2 - 1)) (z.1 (rf o0 1) (Int32.toNatClampNeg x2))) (rf o0 2) (Int32.toNatClampNeg (x2 - 1)) ((zI z (rf o0 1) (Int32.toNatClampNeg (x2 - 1)) (z.1 (rf o0 1) (Int32.toNatClampNeg x2))).1 (rf o0 2) (Int32.toNatClampNeg x2))) (rf o0 3) (Int32.toNatClampNeg (x2 - 1)) ((zI (zI z (rf o0 1) (Int32.toNatClampNeg (x2 - 1)) (z.1 (rf o0 1) (Int32.toNatClampNeg x2))) (rf o0 2) (Int32.toNatClampNeg (x2 - 1)) ((zI z (rf o0 1) (Int32.toNatClampNeg (x2 - 1)) (z.1 (rf o0 1) (Int32.toNatClampNeg x2))).1 (rf o0 2) (Int32.toNatClampNeg x2))).1 (rf o0 3) (Int32.toNatClampNeg x2))) (rf o0 4) (Int32.toNatClampNeg (x2 - 1)) ((zI (zI (zI z (rf o0 1) (Int32.toNatClampNeg (x2 - 1)) (z.1 (rf o0 1) (Int32.toNatClampNeg x2))) (rf o0 2) (Int32.toNatClampNeg (x2 - 1)) ((zI z (rf o0 1) (Int32.toNatClampNeg (x2 - 1)) (z.1 (rf o0 1) (Int32.toNatClampNeg x2))).1 (rf o0 2) (Int32.toNatClampNeg x2))) (rf o0 3) (Int32.toNatClampNeg (x2 - 1)) ((zI (zI z (rf o0 1) (Int32.toNatClampNeg (x2 - 1)) (z.1 (rf o0 1) (Int32.toNatClampNeg x2))) (rf o0 2) (Int32.toNatClampNeg (x2 - 1)) ((zI z (rf o0 1) (Int32.toNatClampNeg (x2 - 1)) (z.1 (rf o0 1) (Int32.toNatClampNeg x2))).1 (rf o0 2) (Int32.toNatClampNeg x2))).1 (rf o0 3) (Int32.toNatClampNeg x2))).1 (rf o0 4) (Int32.toNatClampNeg x2))) o0 (x2 + 1) ho0 hf))
def f_X11_drop_85  (z : St) (o0 : Nat) : Option (St × Int32) :=
  ((f_X11_anew (zI z o0 5 ((z.1 o0 5) - 1)) o0).bind fun r1 => some (r1, r1.1 o0 5))
theorem b_X11_drop_85 {p : Program} {l : Launch} {e : Env} {s : State} {m : MethodId} {args : Array Value} {below : List Frame} {meth : Method} {c : Code} {g : Ga} {A : Nat → Prop} (C : Cx l g A p s m args c cX11_drop 3 RX11 (rm_X11_drop) (0, 0)) (hr : meth.sig.returnType = (some .int)) (hk : meth.locks = false)   (z : St) (o0 : Nat) (ho0 : kd o0 = 11) {res : St × Int32} (hf : f_X11_drop_85  z o0 = some res) : Zj p l e (rm_X11_drop) s m args below meth c g A 3 (0, 0) (QI g A below args s res) z 85 [(0, .ref (g.1 o0))] [] := by
  unfold f_X11_drop_85 at hf
  refine z_aload_n C dX11_drop_85 rfl 0 rfl ?_
  refine z_dup C dX11_drop_86 rfl ?_
  refine gf_X11_111 C dX11_drop_87 ho0 ?_
  refine z_iconst C dX11_drop_90 (v := 1) (by decide) ?_
  refine z_isub C dX11_drop_91 ?_
  refine pf_X11_111 C dX11_drop_92 ho0 ?_
  refine z_aload_n C dX11_drop_95 rfl 0 rfl ?_
  obtain ⟨r1, hc2, hf⟩ := q_bd hf
  refine z_cVv C (st := []) (c_X11_anew ho0 hc2) mw_X11_anew ml_X11_105 ho0 (by decide) rfl dX11_drop_96 rfl rfl rfl ⟨Nat.le_of_ble_eq_true rfl, Nat.le_of_ble_eq_true rfl⟩ rfl (Nat.le_of_ble_eq_true rfl) ?_
  refine z_aload_n C dX11_drop_99 rfl 0 rfl ?_
  refine gf_X11_111 C dX11_drop_100 ho0 ?_
  cases hf
  exact z_iret C hr hk dX11_drop_103
def f_X11_drop_15  : Nat → St → Nat → Int32 → Option (St × Int32)
  | 0, _, _, _ => none
  | n + 1, z, o0, x2 => if (z.1 o0 5) ≤ x2 then f_X11_drop_85 z o0 else f_X11_drop_23 (f_X11_drop_15 n) z o0 x2
theorem b_X11_drop_15 {p : Program} {l : Launch} {e : Env} {s : State} {m : MethodId} {args : Array Value} {below : List Frame} {meth : Method} {c : Code} {g : Ga} {A : Nat → Prop} (C : Cx l g A p s m args c cX11_drop 3 RX11 (rm_X11_drop) (0, 0)) (hr : meth.sig.returnType = (some .int)) (hk : meth.locks = false)   : ∀ (n : Nat) (z : St) (o0 : Nat) (x2 : Int32) (_ : kd o0 = 11) {res : St × Int32} (_ : f_X11_drop_15  n z o0 x2 = some res), Zj p l e (rm_X11_drop) s m args below meth c g A 3 (0, 0) (QI g A below args s res) z 15 [(0, .ref (g.1 o0)), (2, .int x2)] [] := by
  intro n
  induction n with
  | zero =>
    intro z o0 x2 ho0 res hf
    cases hf
  | succ n ih =>
    intro z o0 x2 ho0 res hf
    rw [f_X11_drop_15] at hf
    refine z_iload_n C dX11_drop_15 rfl 1 rfl ?_
    refine z_aload_n C dX11_drop_16 rfl 0 rfl ?_
    refine gf_X11_111 C dX11_drop_17 ho0 ?_
    exact z_icmp_ge C dX11_drop_20 (by decide) (fun h => z_sub [0] rfl (b_X11_drop_85 C hr hk z o0 ho0 (q_t hf h))) (fun h => z_sub [0, 1] rfl (b_X11_drop_23 C hr hk ih z o0 x2 ho0 (q_f hf h)))
def f_X11_drop_11  (z : St) (o0 : Nat) (x1 : Int32) : Option (St × Int32) :=
  f_X11_drop_15 FU z o0 (x1 + 1)
theorem b_X11_drop_11 {p : Program} {l : Launch} {e : Env} {s : State} {m : MethodId} {args : Array Value} {below : List Frame} {meth : Method} {c : Code} {g : Ga} {A : Nat → Prop} (C : Cx l g A p s m args c cX11_drop 3 RX11 (rm_X11_drop) (0, 0)) (hr : meth.sig.returnType = (some .int)) (hk : meth.locks = false)   (z : St) (o0 : Nat) (x1 : Int32) (ho0 : kd o0 = 11) {res : St × Int32} (hf : f_X11_drop_11  z o0 x1 = some res) : Zj p l e (rm_X11_drop) s m args below meth c g A 3 (0, 0) (QI g A below args s res) z 11 [(0, .ref (g.1 o0)), (1, .int x1)] [] := by
  unfold f_X11_drop_11 at hf
  refine z_iload_n C dX11_drop_11 rfl 1 rfl ?_
  refine z_iconst C dX11_drop_12 (v := 1) (by decide) ?_
  refine z_iadd C dX11_drop_13 ?_
  refine z_istore_n C (lv2 := [(2, .int (x1 + 1)), (0, .ref (g.1 o0)), (1, .int x1)]) dX11_drop_14 rfl (by decide) rfl ?_
  exact z_sub [1, 0] rfl (b_X11_drop_15 C hr hk FU z o0 (x1 + 1) ho0 hf)
def f_X11_drop_0  (z : St) (o0 : Nat) (x1 : Int32) : Option (St × Int32) :=
  ((f_X11_isJob z o0 x1).bind fun r1 => if r1.2 = 0 then f_X11_drop_8 r1.1 else f_X11_drop_11 r1.1 o0 x1)
theorem b_X11_drop_0 {p : Program} {l : Launch} {e : Env} {s : State} {m : MethodId} {args : Array Value} {below : List Frame} {meth : Method} {c : Code} {g : Ga} {A : Nat → Prop} (C : Cx l g A p s m args c cX11_drop 3 RX11 (rm_X11_drop) (0, 0)) (hr : meth.sig.returnType = (some .int)) (hk : meth.locks = false)   (z : St) (o0 : Nat) (x1 : Int32) (ho0 : kd o0 = 11) {res : St × Int32} (hf : f_X11_drop_0  z o0 x1 = some res) : Zj p l e (rm_X11_drop) s m args below meth c g A 3 (0, 0) (QI g A below args s res) z 0 [(0, .ref (g.1 o0)), (1, .int x1)] [] := by
  unfold f_X11_drop_0 at hf
  refine z_aload_n C dX11_drop_0 rfl 0 rfl ?_
  refine z_iload_n C dX11_drop_1 rfl 1 rfl ?_
  obtain ⟨r1, hc2, hf⟩ := q_bd hf
  refine z_cVi C (st := []) (c_X11_isJob ho0 hc2) mw_X11_isJob ml_X11_148 ho0 (by decide) rfl dX11_drop_2 rfl rfl rfl ⟨Nat.le_of_ble_eq_true rfl, Nat.le_of_ble_eq_true rfl⟩ rfl (Nat.le_of_ble_eq_true rfl) ?_
  exact z_if_ne C dX11_drop_5 (by decide) (fun h => z_sub [0, 1] rfl (b_X11_drop_11 C hr hk r1.1 o0 x1 ho0 (q_f hf h))) (fun h => z_sub [] rfl (b_X11_drop_8 C hr hk r1.1 (q_t hf h)))
def f_X11_drop (z : St) (o0 : Nat) (x1 : Int32) : Option (St × Int32) := f_X11_drop_0 z o0 x1
theorem c_X11_drop {l : Launch} {g : Ga} {A : Nat → Prop} {z : St} {o0 : Nat} {x1 : Int32} (ho0 : kd o0 = 11) {res : St × Int32} (hf : f_X11_drop z o0 x1 = some res) : CI l g A yX11_drop cX11_drop 3 (some .int) rm_X11_drop [.ref (g.1 o0), .int x1] z res :=
  e_CI (by decide) (Nat.le_of_ble_eq_true rfl) rfl (fun p e s m args below meth c C hr hk => z_sub [0, 1] rfl (b_X11_drop_0 C hr hk z o0 x1 ho0 hf))
abbrev rm_X11_taken : Room := { frames := 3, cells := 0, slots := 0, locals := 64 }
def f_X11_taken_17  (z : St)  : Option (St × Int32) :=
  some (z, (-2))
theorem b_X11_taken_17 {p : Program} {l : Launch} {e : Env} {s : State} {m : MethodId} {args : Array Value} {below : List Frame} {meth : Method} {c : Code} {g : Ga} {A : Nat → Prop} (C : Cx l g A p s m args c cX11_taken 3 RX11 (rm_X11_taken) (0, 0)) (hr : meth.sig.returnType = (some .int)) (hk : meth.locks = false)   (z : St)   {res : St × Int32} (hf : f_X11_taken_17  z  = some res) : Zj p l e (rm_X11_taken) s m args below meth c g A 3 (0, 0) (QI g A below args s res) z 17 [] [] := by
  unfold f_X11_taken_17 at hf
  refine z_bipush C dX11_taken_17 (v := (-2)) (by decide) ?_
  cases hf
  exact z_iret C hr hk dX11_taken_19
def f_X11_taken_49  (z : St) (s0 : Int32) : Option (St × Int32) :=
  some (z, s0)
theorem b_X11_taken_49 {p : Program} {l : Launch} {e : Env} {s : State} {m : MethodId} {args : Array Value} {below : List Frame} {meth : Method} {c : Code} {g : Ga} {A : Nat → Prop} (C : Cx l g A p s m args c cX11_taken 3 RX11 (rm_X11_taken) (0, 0)) (hr : meth.sig.returnType = (some .int)) (hk : meth.locks = false)   (z : St) (s0 : Int32)  {res : St × Int32} (hf : f_X11_taken_49  z s0 = some res) : Zj p l e (rm_X11_taken) s m args below meth c g A 3 (0, 0) (QI g A below args s res) z 49 [] [.int s0] := by
  unfold f_X11_taken_49 at hf
  cases hf
  exact z_iret C hr hk dX11_taken_49
def f_X11_taken_33  (z : St) (o0 : Nat) (x1 : Int32) : Option (St × Int32) :=
  ((f_X11_takesOf z o0 x1).bind fun r1 => ((f_X11_coolsOf r1.1 o0 x1).bind fun r3 => f_X11_taken_49 r3.1 (r1.2 + r3.2)))
theorem b_X11_taken_33 {p : Program} {l : Launch} {e : Env} {s : State} {m : MethodId} {args : Array Value} {below : List Frame} {meth : Method} {c : Code} {g : Ga} {A : Nat → Prop} (C : Cx l g A p s m args c cX11_taken 3 RX11 (rm_X11_taken) (0, 0)) (hr : meth.sig.returnType = (some .int)) (hk : meth.locks = false)   (z : St) (o0 : Nat) (x1 : Int32) (ho0 : kd o0 = 11) {res : St × Int32} (hf : f_X11_taken_33  z o0 x1 = some res) : Zj p l e (rm_X11_taken) s m args below meth c g A 3 (0, 0) (QI g A below args s res) z 33 [(0, .ref (g.1 o0)), (1, .int x1)] [] := by
  unfold f_X11_taken_33 at hf
  refine z_aload_n C dX11_taken_33 rfl 0 rfl ?_
  refine z_iload_n C dX11_taken_34 rfl 1 rfl ?_
  obtain ⟨r1, hc2, hf⟩ := q_bd hf
  refine z_cVi C (st := []) (c_X11_takesOf ho0 hc2) mw_X11_takesOf ml_X11_142 ho0 (by decide) rfl dX11_taken_35 rfl rfl rfl ⟨Nat.le_of_ble_eq_true rfl, Nat.le_of_ble_eq_true rfl⟩ rfl (Nat.le_of_ble_eq_true rfl) ?_
  refine z_aload_n C dX11_taken_38 rfl 0 rfl ?_
  refine z_iload_n C dX11_taken_39 rfl 1 rfl ?_
  obtain ⟨r3, hc4, hf⟩ := q_bd hf
  refine z_cVi C (st := [.int r1.2]) (c_X11_coolsOf ho0 hc4) mw_X11_coolsOf ml_X11_145 ho0 (by decide) rfl dX11_taken_40 rfl rfl rfl ⟨Nat.le_of_ble_eq_true rfl, Nat.le_of_ble_eq_true rfl⟩ rfl (Nat.le_of_ble_eq_true rfl) ?_
  refine z_iadd C dX11_taken_43 ?_
  exact z_goto C dX11_taken_44 (by decide) (z_sub [] rfl (b_X11_taken_49 C hr hk r3.1 (r1.2 + r3.2) hf))
def f_X11_taken_47  (z : St)  : Option (St × Int32) :=
  f_X11_taken_49 z ((-13))
theorem b_X11_taken_47 {p : Program} {l : Launch} {e : Env} {s : State} {m : MethodId} {args : Array Value} {below : List Frame} {meth : Method} {c : Code} {g : Ga} {A : Nat → Prop} (C : Cx l g A p s m args c cX11_taken 3 RX11 (rm_X11_taken) (0, 0)) (hr : meth.sig.returnType = (some .int)) (hk : meth.locks = false)   (z : St)   {res : St × Int32} (hf : f_X11_taken_47  z  = some res) : Zj p l e (rm_X11_taken) s m args below meth c g A 3 (0, 0) (QI g A below args s res) z 47 [] [] := by
  unfold f_X11_taken_47 at hf
  refine z_bipush C dX11_taken_47 (v := (-13)) (by decide) ?_
  exact z_sub [] rfl (b_X11_taken_49 C hr hk z ((-13)) hf)
def f_X11_taken_20  (z : St) (o0 : Nat) (x1 : Int32) (x2 : Int32) : Option (St × Int32) :=
  if inb x1 8 = true then (((f_X11_isUnder z (z.1 (rf o0 1) (Int32.toNatClampNeg x1)) x2).bind fun r2 => if r2.2 = 0 then f_X11_taken_47 r2.1 else f_X11_taken_33 r2.1 o0 x1)) else none
theorem b_X11_taken_20 {p : Program} {l : Launch} {e : Env} {s : State} {m : MethodId} {args : Array Value} {below : List Frame} {meth : Method} {c : Code} {g : Ga} {A : Nat → Prop} (C : Cx l g A p s m args c cX11_taken 3 RX11 (rm_X11_taken) (0, 0)) (hr : meth.sig.returnType = (some .int)) (hk : meth.locks = false)   (z : St) (o0 : Nat) (x1 : Int32) (x2 : Int32) (ho0 : kd o0 = 11) {res : St × Int32} (hf : f_X11_taken_20  z o0 x1 x2 = some res) : Zj p l e (rm_X11_taken) s m args below meth c g A 3 (0, 0) (QI g A below args s res) z 20 [(0, .ref (g.1 o0)), (1, .int x1), (2, .int x2)] [] := by
  unfold f_X11_taken_20 at hf
  refine z_aload_n C dX11_taken_20 rfl 0 rfl ?_
  refine gf_X11_9 C dX11_taken_21 ho0 ?_
  refine z_iload_n C dX11_taken_24 rfl 1 rfl ?_
  obtain ⟨h1, hf⟩ := q_ck hf
  refine z_iald C (n := 8) dX11_taken_25 (rt_11_1 _ (kd_lt ho0 (by decide)) ho0) (by decide) h1 ?_
  refine z_iload_n C dX11_taken_26 rfl 2 rfl ?_
  obtain ⟨r2, hc3, hf⟩ := q_bd hf
  refine z_cSi C (st := []) (c_X11_isUnder  hc3) mw_X11_isUnder ml_X11_122 dX11_taken_27 rfl rfl rfl ⟨Nat.le_of_ble_eq_true rfl, Nat.le_of_ble_eq_true rfl⟩ rfl (Nat.le_of_ble_eq_true rfl) ?_
  exact z_if_eq C dX11_taken_30 (by decide) (fun h => z_sub [] rfl (b_X11_taken_47 C hr hk r2.1 (q_t hf h))) (fun h => z_sub [0, 1] rfl (b_X11_taken_33 C hr hk r2.1 o0 x1 ho0 (q_f hf h)))
def f_X11_taken_8  (z : St) (o0 : Nat) (x1 : Int32) (x2 : Int32) : Option (St × Int32) :=
  ((f_X11_in z x2 0 5).bind fun r1 => if r1.2 = 0 then f_X11_taken_17 r1.1 else f_X11_taken_20 r1.1 o0 x1 x2)
theorem b_X11_taken_8 {p : Program} {l : Launch} {e : Env} {s : State} {m : MethodId} {args : Array Value} {below : List Frame} {meth : Method} {c : Code} {g : Ga} {A : Nat → Prop} (C : Cx l g A p s m args c cX11_taken 3 RX11 (rm_X11_taken) (0, 0)) (hr : meth.sig.returnType = (some .int)) (hk : meth.locks = false)   (z : St) (o0 : Nat) (x1 : Int32) (x2 : Int32) (ho0 : kd o0 = 11) {res : St × Int32} (hf : f_X11_taken_8  z o0 x1 x2 = some res) : Zj p l e (rm_X11_taken) s m args below meth c g A 3 (0, 0) (QI g A below args s res) z 8 [(0, .ref (g.1 o0)), (1, .int x1), (2, .int x2)] [] := by
  unfold f_X11_taken_8 at hf
  refine z_iload_n C dX11_taken_8 rfl 2 rfl ?_
  refine z_iconst C dX11_taken_9 (v := 0) (by decide) ?_
  refine z_iconst C dX11_taken_10 (v := 5) (by decide) ?_
  obtain ⟨r1, hc2, hf⟩ := q_bd hf
  refine z_cSi C (st := []) (c_X11_in  hc2) mw_X11_in ml_X11_114 dX11_taken_11 rfl rfl rfl ⟨Nat.le_of_ble_eq_true rfl, Nat.le_of_ble_eq_true rfl⟩ rfl (Nat.le_of_ble_eq_true rfl) ?_
  exact z_if_ne C dX11_taken_14 (by decide) (fun h => z_sub [0, 1, 2] rfl (b_X11_taken_20 C hr hk r1.1 o0 x1 x2 ho0 (q_f hf h))) (fun h => z_sub [] rfl (b_X11_taken_17 C hr hk r1.1 (q_t hf h)))
def f_X11_taken_0  (z : St) (o0 : Nat) (x1 : Int32) (x2 : Int32) : Option (St × Int32) :=
  ((f_X11_isJob z o0 x1).bind fun r1 => if r1.2 = 0 then f_X11_taken_17 r1.1 else f_X11_taken_8 r1.1 o0 x1 x2)
theorem b_X11_taken_0 {p : Program} {l : Launch} {e : Env} {s : State} {m : MethodId} {args : Array Value} {below : List Frame} {meth : Method} {c : Code} {g : Ga} {A : Nat → Prop} (C : Cx l g A p s m args c cX11_taken 3 RX11 (rm_X11_taken) (0, 0)) (hr : meth.sig.returnType = (some .int)) (hk : meth.locks = false)   (z : St) (o0 : Nat) (x1 : Int32) (x2 : Int32) (ho0 : kd o0 = 11) {res : St × Int32} (hf : f_X11_taken_0  z o0 x1 x2 = some res) : Zj p l e (rm_X11_taken) s m args below meth c g A 3 (0, 0) (QI g A below args s res) z 0 [(0, .ref (g.1 o0)), (1, .int x1), (2, .int x2)] [] := by
  unfold f_X11_taken_0 at hf
  refine z_aload_n C dX11_taken_0 rfl 0 rfl ?_
  refine z_iload_n C dX11_taken_1 rfl 1 rfl ?_
  obtain ⟨r1, hc2, hf⟩ := q_bd hf
  refine z_cVi C (st := []) (c_X11_isJob ho0 hc2) mw_X11_isJob ml_X11_148 ho0 (by decide) rfl dX11_taken_2 rfl rfl rfl ⟨Nat.le_of_ble_eq_true rfl, Nat.le_of_ble_eq_true rfl⟩ rfl (Nat.le_of_ble_eq_true rfl) ?_
  exact z_if_eq C dX11_taken_5 (by decide) (fun h => z_sub [] rfl (b_X11_taken_17 C hr hk r1.1 (q_t hf h))) (fun h => z_sub [0, 1, 2] rfl (b_X11_taken_8 C hr hk r1.1 o0 x1 x2 ho0 (q_f hf h)))
def f_X11_taken (z : St) (o0 : Nat) (x1 : Int32) (x2 : Int32) : Option (St × Int32) := f_X11_taken_0 z o0 x1 x2
theorem c_X11_taken {l : Launch} {g : Ga} {A : Nat → Prop} {z : St} {o0 : Nat} {x1 : Int32} {x2 : Int32} (ho0 : kd o0 = 11) {res : St × Int32} (hf : f_X11_taken z o0 x1 x2 = some res) : CI l g A yX11_taken cX11_taken 3 (some .int) rm_X11_taken [.ref (g.1 o0), .int x1, .int x2] z res :=
  e_CI (by decide) (Nat.le_of_ble_eq_true rfl) rfl (fun p e s m args below meth c C hr hk => z_sub [0, 1, 2] rfl (b_X11_taken_0 C hr hk z o0 x1 x2 ho0 hf))
abbrev rm_X11_feed : Room := { frames := 1, cells := 0, slots := 0, locals := 22 }
def f_X11_feed_67  (z : St)  : Option (St × Int32) :=
  some (z, (-2))
theorem b_X11_feed_67 {p : Program} {l : Launch} {e : Env} {s : State} {m : MethodId} {args : Array Value} {below : List Frame} {meth : Method} {c : Code} {g : Ga} {A : Nat → Prop} (C : Cx l g A p s m args c cX11_feed 8 RX11 (rm_X11_feed) (0, 0)) (hr : meth.sig.returnType = (some .int)) (hk : meth.locks = false)   (z : St)   {res : St × Int32} (hf : f_X11_feed_67  z  = some res) : Zj p l e (rm_X11_feed) s m args below meth c g A 8 (0, 0) (QI g A below args s res) z 67 [] [] := by
  unfold f_X11_feed_67 at hf
  refine z_bipush C dX11_feed_67 (v := (-2)) (by decide) ?_
  cases hf
  exact z_iret C hr hk dX11_feed_69
def f_X11_feed_81  (z : St)  : Option (St × Int32) :=
  some (z, (-4))
theorem b_X11_feed_81 {p : Program} {l : Launch} {e : Env} {s : State} {m : MethodId} {args : Array Value} {below : List Frame} {meth : Method} {c : Code} {g : Ga} {A : Nat → Prop} (C : Cx l g A p s m args c cX11_feed 8 RX11 (rm_X11_feed) (0, 0)) (hr : meth.sig.returnType = (some .int)) (hk : meth.locks = false)   (z : St)   {res : St × Int32} (hf : f_X11_feed_81  z  = some res) : Zj p l e (rm_X11_feed) s m args below meth c g A 8 (0, 0) (QI g A below args s res) z 81 [] [] := by
  unfold f_X11_feed_81 at hf
  refine z_bipush C dX11_feed_81 (v := (-4)) (by decide) ?_
  cases hf
  exact z_iret C hr hk dX11_feed_83
def f_X11_feed_144 (K87 : St → Nat → Int32 → Int32 → Int32 → Int32 → Int32 → Int32 → Int32 → Option (St × Int32)) (z : St) (o0 : Nat) (x1 : Int32) (x2 : Int32) (x3 : Int32) (x4 : Int32) (x5 : Int32) (x6 : Int32) (x7 : Int32) (s0 : Nat) (s1 : Int32) (s2 : Int32) : Option (St × Int32) :=
  if inb s1 60 = true then (K87 (zI (zI z s0 (Int32.toNatClampNeg s1) s2) o0 7 (((zI z s0 (Int32.toNatClampNeg s1) s2).1 o0 7) + 1)) o0 x1 x2 x3 x4 x5 x6 (x7 + 1)) else none
theorem b_X11_feed_144 {p : Program} {l : Launch} {e : Env} {s : State} {m : MethodId} {args : Array Value} {below : List Frame} {meth : Method} {c : Code} {g : Ga} {A : Nat → Prop} (C : Cx l g A p s m args c cX11_feed 8 RX11 (rm_X11_feed) (0, 0)) (hr : meth.sig.returnType = (some .int)) (hk : meth.locks = false) {K87 : St → Nat → Int32 → Int32 → Int32 → Int32 → Int32 → Int32 → Int32 → Option (St × Int32)} (hK87 : ∀ (z : St) (o0 : Nat) (x1 : Int32) (x2 : Int32) (x3 : Int32) (x4 : Int32) (x5 : Int32) (x6 : Int32) (x7 : Int32) (_ : kd o0 = 11) {res : St × Int32}, K87 z o0 x1 x2 x3 x4 x5 x6 x7 = some res → Zj p l e (rm_X11_feed) s m args below meth c g A 8 (0, 0) (QI g A below args s res) z 87 [(0, .ref (g.1 o0)), (1, .int x1), (2, .int x2), (3, .int x3), (4, .int x4), (5, .int x5), (6, .int x6), (7, .int x7)] []) (z : St) (o0 : Nat) (x1 : Int32) (x2 : Int32) (x3 : Int32) (x4 : Int32) (x5 : Int32) (x6 : Int32) (x7 : Int32) (s0 : Nat) (s1 : Int32) (s2 : Int32) (ho0 : kd o0 = 11) (hs0 : kd s0 = 1060) {res : St × Int32} (hf : f_X11_feed_144 K87 z o0 x1 x2 x3 x4 x5 x6 x7 s0 s1 s2 = some res) : Zj p l e (rm_X11_feed) s m args below meth c g A 8 (0, 0) (QI g A below args s res) z 144 [(0, .ref (g.1 o0)), (1, .int x1), (2, .int x2), (3, .int x3), (4, .int x4), (5, .int x5), (6, .int x6), (7, .int x7)] [.int s2, .int s1, .ref (g.1 s0)] := by
  unfold f_X11_feed_144 at hf
  obtain ⟨h1, hf⟩ := q_ck hf
  refine z_iast C (n := 60) dX11_feed_144 hs0 (by decide) h1 ?_
  refine z_aload_n C dX11_feed_145 rfl 0 rfl ?_
  refine z_dup C dX11_feed_146 rfl ?_
  refine gf_X11_155 C dX11_feed_147 ho0 ?_
  refine z_iconst C dX11_feed_150 (v := 1) (by decide) ?_
  refine z_iadd C dX11_feed_151 ?_
  refine pf_X11_155 C dX11_feed_152 ho0 ?_
  refine z_iinc C (k := 7) (v := x7 + 1) (lv2 := [(7, .int (x7 + 1)), (0, .ref (g.1 o0)), (1, .int x1), (2, .int x2), (3, .int x3), (4, .int x4), (5, .int x5), (6, .int x6)]) dX11_feed_155 rfl rfl (by decide) rfl ?_
  exact z_goto C dX11_feed_158 (by decide) (z_sub [1, 2, 3, 4, 5, 6, 7, 0] rfl (hK87 (zI (zI z s0 (Int32.toNatClampNeg s1) s2) o0 7 (((zI z s0 (Int32.toNatClampNeg s1) s2).1 o0 7) + 1)) o0 x1 x2 x3 x4 x5 x6 (x7 + 1) ho0 hf))
def f_X11_feed_106 (K87 : St → Nat → Int32 → Int32 → Int32 → Int32 → Int32 → Int32 → Int32 → Option (St × Int32)) (z : St) (o0 : Nat) (x1 : Int32) (x2 : Int32) (x3 : Int32) (x4 : Int32) (x5 : Int32) (x6 : Int32) (x7 : Int32) (s0 : Nat) (s1 : Int32) : Option (St × Int32) :=
  f_X11_feed_144 K87 z o0 x1 x2 x3 x4 x5 x6 x7 s0 s1 x2
theorem b_X11_feed_106 {p : Program} {l : Launch} {e : Env} {s : State} {m : MethodId} {args : Array Value} {below : List Frame} {meth : Method} {c : Code} {g : Ga} {A : Nat → Prop} (C : Cx l g A p s m args c cX11_feed 8 RX11 (rm_X11_feed) (0, 0)) (hr : meth.sig.returnType = (some .int)) (hk : meth.locks = false) {K87 : St → Nat → Int32 → Int32 → Int32 → Int32 → Int32 → Int32 → Int32 → Option (St × Int32)} (hK87 : ∀ (z : St) (o0 : Nat) (x1 : Int32) (x2 : Int32) (x3 : Int32) (x4 : Int32) (x5 : Int32) (x6 : Int32) (x7 : Int32) (_ : kd o0 = 11) {res : St × Int32}, K87 z o0 x1 x2 x3 x4 x5 x6 x7 = some res → Zj p l e (rm_X11_feed) s m args below meth c g A 8 (0, 0) (QI g A below args s res) z 87 [(0, .ref (g.1 o0)), (1, .int x1), (2, .int x2), (3, .int x3), (4, .int x4), (5, .int x5), (6, .int x6), (7, .int x7)] []) (z : St) (o0 : Nat) (x1 : Int32) (x2 : Int32) (x3 : Int32) (x4 : Int32) (x5 : Int32) (x6 : Int32) (x7 : Int32) (s0 : Nat) (s1 : Int32) (ho0 : kd o0 = 11) (hs0 : kd s0 = 1060) {res : St × Int32} (hf : f_X11_feed_106 K87 z o0 x1 x2 x3 x4 x5 x6 x7 s0 s1 = some res) : Zj p l e (rm_X11_feed) s m args below meth c g A 8 (0, 0) (QI g A below args s res) z 106 [(0, .ref (g.1 o0)), (1, .int x1), (2, .int x2), (3, .int x3), (4, .int x4), (5, .int x5), (6, .int x6), (7, .int x7)] [.int s1, .ref (g.1 s0)] := by
  unfold f_X11_feed_106 at hf
  refine z_iload_n C dX11_feed_106 rfl 2 rfl ?_
  exact z_goto C dX11_feed_107 (by decide) (z_sub [0, 1, 2, 3, 4, 5, 6, 7] rfl (b_X11_feed_144 C hr hk hK87 z o0 x1 x2 x3 x4 x5 x6 x7 s0 s1 x2 ho0 hs0 hf))
def f_X11_feed_116 (K87 : St → Nat → Int32 → Int32 → Int32 → Int32 → Int32 → Int32 → Int32 → Option (St × Int32)) (z : St) (o0 : Nat) (x1 : Int32) (x2 : Int32) (x3 : Int32) (x4 : Int32) (x5 : Int32) (x6 : Int32) (x7 : Int32) (s0 : Nat) (s1 : Int32) : Option (St × Int32) :=
  f_X11_feed_144 K87 z o0 x1 x2 x3 x4 x5 x6 x7 s0 s1 x3
theorem b_X11_feed_116 {p : Program} {l : Launch} {e : Env} {s : State} {m : MethodId} {args : Array Value} {below : List Frame} {meth : Method} {c : Code} {g : Ga} {A : Nat → Prop} (C : Cx l g A p s m args c cX11_feed 8 RX11 (rm_X11_feed) (0, 0)) (hr : meth.sig.returnType = (some .int)) (hk : meth.locks = false) {K87 : St → Nat → Int32 → Int32 → Int32 → Int32 → Int32 → Int32 → Int32 → Option (St × Int32)} (hK87 : ∀ (z : St) (o0 : Nat) (x1 : Int32) (x2 : Int32) (x3 : Int32) (x4 : Int32) (x5 : Int32) (x6 : Int32) (x7 : Int32) (_ : kd o0 = 11) {res : St × Int32}, K87 z o0 x1 x2 x3 x4 x5 x6 x7 = some res → Zj p l e (rm_X11_feed) s m args below meth c g A 8 (0, 0) (QI g A below args s res) z 87 [(0, .ref (g.1 o0)), (1, .int x1), (2, .int x2), (3, .int x3), (4, .int x4), (5, .int x5), (6, .int x6), (7, .int x7)] []) (z : St) (o0 : Nat) (x1 : Int32) (x2 : Int32) (x3 : Int32) (x4 : Int32) (x5 : Int32) (x6 : Int32) (x7 : Int32) (s0 : Nat) (s1 : Int32) (ho0 : kd o0 = 11) (hs0 : kd s0 = 1060) {res : St × Int32} (hf : f_X11_feed_116 K87 z o0 x1 x2 x3 x4 x5 x6 x7 s0 s1 = some res) : Zj p l e (rm_X11_feed) s m args below meth c g A 8 (0, 0) (QI g A below args s res) z 116 [(0, .ref (g.1 o0)), (1, .int x1), (2, .int x2), (3, .int x3), (4, .int x4), (5, .int x5), (6, .int x6), (7, .int x7)] [.int s1, .ref (g.1 s0)] := by
  unfold f_X11_feed_116 at hf
  refine z_iload_n C dX11_feed_116 rfl 3 rfl ?_
  exact z_goto C dX11_feed_117 (by decide) (z_sub [0, 1, 2, 3, 4, 5, 6, 7] rfl (b_X11_feed_144 C hr hk hK87 z o0 x1 x2 x3 x4 x5 x6 x7 s0 s1 x3 ho0 hs0 hf))
def f_X11_feed_126 (K87 : St → Nat → Int32 → Int32 → Int32 → Int32 → Int32 → Int32 → Int32 → Option (St × Int32)) (z : St) (o0 : Nat) (x1 : Int32) (x2 : Int32) (x3 : Int32) (x4 : Int32) (x5 : Int32) (x6 : Int32) (x7 : Int32) (s0 : Nat) (s1 : Int32) : Option (St × Int32) :=
  f_X11_feed_144 K87 z o0 x1 x2 x3 x4 x5 x6 x7 s0 s1 x4
theorem b_X11_feed_126 {p : Program} {l : Launch} {e : Env} {s : State} {m : MethodId} {args : Array Value} {below : List Frame} {meth : Method} {c : Code} {g : Ga} {A : Nat → Prop} (C : Cx l g A p s m args c cX11_feed 8 RX11 (rm_X11_feed) (0, 0)) (hr : meth.sig.returnType = (some .int)) (hk : meth.locks = false) {K87 : St → Nat → Int32 → Int32 → Int32 → Int32 → Int32 → Int32 → Int32 → Option (St × Int32)} (hK87 : ∀ (z : St) (o0 : Nat) (x1 : Int32) (x2 : Int32) (x3 : Int32) (x4 : Int32) (x5 : Int32) (x6 : Int32) (x7 : Int32) (_ : kd o0 = 11) {res : St × Int32}, K87 z o0 x1 x2 x3 x4 x5 x6 x7 = some res → Zj p l e (rm_X11_feed) s m args below meth c g A 8 (0, 0) (QI g A below args s res) z 87 [(0, .ref (g.1 o0)), (1, .int x1), (2, .int x2), (3, .int x3), (4, .int x4), (5, .int x5), (6, .int x6), (7, .int x7)] []) (z : St) (o0 : Nat) (x1 : Int32) (x2 : Int32) (x3 : Int32) (x4 : Int32) (x5 : Int32) (x6 : Int32) (x7 : Int32) (s0 : Nat) (s1 : Int32) (ho0 : kd o0 = 11) (hs0 : kd s0 = 1060) {res : St × Int32} (hf : f_X11_feed_126 K87 z o0 x1 x2 x3 x4 x5 x6 x7 s0 s1 = some res) : Zj p l e (rm_X11_feed) s m args below meth c g A 8 (0, 0) (QI g A below args s res) z 126 [(0, .ref (g.1 o0)), (1, .int x1), (2, .int x2), (3, .int x3), (4, .int x4), (5, .int x5), (6, .int x6), (7, .int x7)] [.int s1, .ref (g.1 s0)] := by
  unfold f_X11_feed_126 at hf
  refine z_iload C dX11_feed_126 4 rfl ?_
  exact z_goto C dX11_feed_128 (by decide) (z_sub [0, 1, 2, 3, 4, 5, 6, 7] rfl (b_X11_feed_144 C hr hk hK87 z o0 x1 x2 x3 x4 x5 x6 x7 s0 s1 x4 ho0 hs0 hf))
def f_X11_feed_137 (K87 : St → Nat → Int32 → Int32 → Int32 → Int32 → Int32 → Int32 → Int32 → Option (St × Int32)) (z : St) (o0 : Nat) (x1 : Int32) (x2 : Int32) (x3 : Int32) (x4 : Int32) (x5 : Int32) (x6 : Int32) (x7 : Int32) (s0 : Nat) (s1 : Int32) : Option (St × Int32) :=
  f_X11_feed_144 K87 z o0 x1 x2 x3 x4 x5 x6 x7 s0 s1 x5
theorem b_X11_feed_137 {p : Program} {l : Launch} {e : Env} {s : State} {m : MethodId} {args : Array Value} {below : List Frame} {meth : Method} {c : Code} {g : Ga} {A : Nat → Prop} (C : Cx l g A p s m args c cX11_feed 8 RX11 (rm_X11_feed) (0, 0)) (hr : meth.sig.returnType = (some .int)) (hk : meth.locks = false) {K87 : St → Nat → Int32 → Int32 → Int32 → Int32 → Int32 → Int32 → Int32 → Option (St × Int32)} (hK87 : ∀ (z : St) (o0 : Nat) (x1 : Int32) (x2 : Int32) (x3 : Int32) (x4 : Int32) (x5 : Int32) (x6 : Int32) (x7 : Int32) (_ : kd o0 = 11) {res : St × Int32}, K87 z o0 x1 x2 x3 x4 x5 x6 x7 = some res → Zj p l e (rm_X11_feed) s m args below meth c g A 8 (0, 0) (QI g A below args s res) z 87 [(0, .ref (g.1 o0)), (1, .int x1), (2, .int x2), (3, .int x3), (4, .int x4), (5, .int x5), (6, .int x6), (7, .int x7)] []) (z : St) (o0 : Nat) (x1 : Int32) (x2 : Int32) (x3 : Int32) (x4 : Int32) (x5 : Int32) (x6 : Int32) (x7 : Int32) (s0 : Nat) (s1 : Int32) (ho0 : kd o0 = 11) (hs0 : kd s0 = 1060) {res : St × Int32} (hf : f_X11_feed_137 K87 z o0 x1 x2 x3 x4 x5 x6 x7 s0 s1 = some res) : Zj p l e (rm_X11_feed) s m args below meth c g A 8 (0, 0) (QI g A below args s res) z 137 [(0, .ref (g.1 o0)), (1, .int x1), (2, .int x2), (3, .int x3), (4, .int x4), (5, .int x5), (6, .int x6), (7, .int x7)] [.int s1, .ref (g.1 s0)] := by
  unfold f_X11_feed_137 at hf
  refine z_iload C dX11_feed_137 5 rfl ?_
  exact z_goto C dX11_feed_139 (by decide) (z_sub [0, 1, 2, 3, 4, 5, 6, 7] rfl (b_X11_feed_144 C hr hk hK87 z o0 x1 x2 x3 x4 x5 x6 x7 s0 s1 x5 ho0 hs0 hf))
def f_X11_feed_142 (K87 : St → Nat → Int32 → Int32 → Int32 → Int32 → Int32 → Int32 → Int32 → Option (St × Int32)) (z : St) (o0 : Nat) (x1 : Int32) (x2 : Int32) (x3 : Int32) (x4 : Int32) (x5 : Int32) (x6 : Int32) (x7 : Int32) (s0 : Nat) (s1 : Int32) : Option (St × Int32) :=
  f_X11_feed_144 K87 z o0 x1 x2 x3 x4 x5 x6 x7 s0 s1 x6
theorem b_X11_feed_142 {p : Program} {l : Launch} {e : Env} {s : State} {m : MethodId} {args : Array Value} {below : List Frame} {meth : Method} {c : Code} {g : Ga} {A : Nat → Prop} (C : Cx l g A p s m args c cX11_feed 8 RX11 (rm_X11_feed) (0, 0)) (hr : meth.sig.returnType = (some .int)) (hk : meth.locks = false) {K87 : St → Nat → Int32 → Int32 → Int32 → Int32 → Int32 → Int32 → Int32 → Option (St × Int32)} (hK87 : ∀ (z : St) (o0 : Nat) (x1 : Int32) (x2 : Int32) (x3 : Int32) (x4 : Int32) (x5 : Int32) (x6 : Int32) (x7 : Int32) (_ : kd o0 = 11) {res : St × Int32}, K87 z o0 x1 x2 x3 x4 x5 x6 x7 = some res → Zj p l e (rm_X11_feed) s m args below meth c g A 8 (0, 0) (QI g A below args s res) z 87 [(0, .ref (g.1 o0)), (1, .int x1), (2, .int x2), (3, .int x3), (4, .int x4), (5, .int x5), (6, .int x6), (7, .int x7)] []) (z : St) (o0 : Nat) (x1 : Int32) (x2 : Int32) (x3 : Int32) (x4 : Int32) (x5 : Int32) (x6 : Int32) (x7 : Int32) (s0 : Nat) (s1 : Int32) (ho0 : kd o0 = 11) (hs0 : kd s0 = 1060) {res : St × Int32} (hf : f_X11_feed_142 K87 z o0 x1 x2 x3 x4 x5 x6 x7 s0 s1 = some res) : Zj p l e (rm_X11_feed) s m args below meth c g A 8 (0, 0) (QI g A below args s res) z 142 [(0, .ref (g.1 o0)), (1, .int x1), (2, .int x2), (3, .int x3), (4, .int x4), (5, .int x5), (6, .int x6), (7, .int x7)] [.int s1, .ref (g.1 s0)] := by
  unfold f_X11_feed_142 at hf
  refine z_iload C dX11_feed_142 6 rfl ?_
  exact z_sub [0, 1, 2, 3, 4, 5, 6, 7] rfl (b_X11_feed_144 C hr hk hK87 z o0 x1 x2 x3 x4 x5 x6 x7 s0 s1 x6 ho0 hs0 hf)
def f_X11_feed_131 (K87 : St → Nat → Int32 → Int32 → Int32 → Int32 → Int32 → Int32 → Int32 → Option (St × Int32)) (z : St) (o0 : Nat) (x1 : Int32) (x2 : Int32) (x3 : Int32) (x4 : Int32) (x5 : Int32) (x6 : Int32) (x7 : Int32) (s0 : Nat) (s1 : Int32) : Option (St × Int32) :=
  if x7 = 3 then f_X11_feed_137 K87 z o0 x1 x2 x3 x4 x5 x6 x7 s0 s1 else f_X11_feed_142 K87 z o0 x1 x2 x3 x4 x5 x6 x7 s0 s1
theorem b_X11_feed_131 {p : Program} {l : Launch} {e : Env} {s : State} {m : MethodId} {args : Array Value} {below : List Frame} {meth : Method} {c : Code} {g : Ga} {A : Nat → Prop} (C : Cx l g A p s m args c cX11_feed 8 RX11 (rm_X11_feed) (0, 0)) (hr : meth.sig.returnType = (some .int)) (hk : meth.locks = false) {K87 : St → Nat → Int32 → Int32 → Int32 → Int32 → Int32 → Int32 → Int32 → Option (St × Int32)} (hK87 : ∀ (z : St) (o0 : Nat) (x1 : Int32) (x2 : Int32) (x3 : Int32) (x4 : Int32) (x5 : Int32) (x6 : Int32) (x7 : Int32) (_ : kd o0 = 11) {res : St × Int32}, K87 z o0 x1 x2 x3 x4 x5 x6 x7 = some res → Zj p l e (rm_X11_feed) s m args below meth c g A 8 (0, 0) (QI g A below args s res) z 87 [(0, .ref (g.1 o0)), (1, .int x1), (2, .int x2), (3, .int x3), (4, .int x4), (5, .int x5), (6, .int x6), (7, .int x7)] []) (z : St) (o0 : Nat) (x1 : Int32) (x2 : Int32) (x3 : Int32) (x4 : Int32) (x5 : Int32) (x6 : Int32) (x7 : Int32) (s0 : Nat) (s1 : Int32) (ho0 : kd o0 = 11) (hs0 : kd s0 = 1060) {res : St × Int32} (hf : f_X11_feed_131 K87 z o0 x1 x2 x3 x4 x5 x6 x7 s0 s1 = some res) : Zj p l e (rm_X11_feed) s m args below meth c g A 8 (0, 0) (QI g A below args s res) z 131 [(0, .ref (g.1 o0)), (1, .int x1), (2, .int x2), (3, .int x3), (4, .int x4), (5, .int x5), (6, .int x6), (7, .int x7)] [.int s1, .ref (g.1 s0)] := by
  unfold f_X11_feed_131 at hf
  refine z_iload C dX11_feed_131 7 rfl ?_
  refine z_iconst C dX11_feed_133 (v := 3) (by decide) ?_
  exact z_icmp_ne C dX11_feed_134 (by decide) (fun h => z_sub [0, 1, 2, 3, 4, 5, 6, 7] rfl (b_X11_feed_142 C hr hk hK87 z o0 x1 x2 x3 x4 x5 x6 x7 s0 s1 ho0 hs0 (q_f hf h))) (fun h => z_sub [0, 1, 2, 3, 4, 5, 6, 7] rfl (b_X11_feed_137 C hr hk hK87 z o0 x1 x2 x3 x4 x5 x6 x7 s0 s1 ho0 hs0 (q_t hf h)))
def f_X11_feed_120 (K87 : St → Nat → Int32 → Int32 → Int32 → Int32 → Int32 → Int32 → Int32 → Option (St × Int32)) (z : St) (o0 : Nat) (x1 : Int32) (x2 : Int32) (x3 : Int32) (x4 : Int32) (x5 : Int32) (x6 : Int32) (x7 : Int32) (s0 : Nat) (s1 : Int32) : Option (St × Int32) :=
  if x7 = 2 then f_X11_feed_126 K87 z o0 x1 x2 x3 x4 x5 x6 x7 s0 s1 else f_X11_feed_131 K87 z o0 x1 x2 x3 x4 x5 x6 x7 s0 s1
theorem b_X11_feed_120 {p : Program} {l : Launch} {e : Env} {s : State} {m : MethodId} {args : Array Value} {below : List Frame} {meth : Method} {c : Code} {g : Ga} {A : Nat → Prop} (C : Cx l g A p s m args c cX11_feed 8 RX11 (rm_X11_feed) (0, 0)) (hr : meth.sig.returnType = (some .int)) (hk : meth.locks = false) {K87 : St → Nat → Int32 → Int32 → Int32 → Int32 → Int32 → Int32 → Int32 → Option (St × Int32)} (hK87 : ∀ (z : St) (o0 : Nat) (x1 : Int32) (x2 : Int32) (x3 : Int32) (x4 : Int32) (x5 : Int32) (x6 : Int32) (x7 : Int32) (_ : kd o0 = 11) {res : St × Int32}, K87 z o0 x1 x2 x3 x4 x5 x6 x7 = some res → Zj p l e (rm_X11_feed) s m args below meth c g A 8 (0, 0) (QI g A below args s res) z 87 [(0, .ref (g.1 o0)), (1, .int x1), (2, .int x2), (3, .int x3), (4, .int x4), (5, .int x5), (6, .int x6), (7, .int x7)] []) (z : St) (o0 : Nat) (x1 : Int32) (x2 : Int32) (x3 : Int32) (x4 : Int32) (x5 : Int32) (x6 : Int32) (x7 : Int32) (s0 : Nat) (s1 : Int32) (ho0 : kd o0 = 11) (hs0 : kd s0 = 1060) {res : St × Int32} (hf : f_X11_feed_120 K87 z o0 x1 x2 x3 x4 x5 x6 x7 s0 s1 = some res) : Zj p l e (rm_X11_feed) s m args below meth c g A 8 (0, 0) (QI g A below args s res) z 120 [(0, .ref (g.1 o0)), (1, .int x1), (2, .int x2), (3, .int x3), (4, .int x4), (5, .int x5), (6, .int x6), (7, .int x7)] [.int s1, .ref (g.1 s0)] := by
  unfold f_X11_feed_120 at hf
  refine z_iload C dX11_feed_120 7 rfl ?_
  refine z_iconst C dX11_feed_122 (v := 2) (by decide) ?_
  exact z_icmp_ne C dX11_feed_123 (by decide) (fun h => z_sub [0, 1, 2, 3, 4, 5, 6, 7] rfl (b_X11_feed_131 C hr hk hK87 z o0 x1 x2 x3 x4 x5 x6 x7 s0 s1 ho0 hs0 (q_f hf h))) (fun h => z_sub [0, 1, 2, 3, 4, 5, 6, 7] rfl (b_X11_feed_126 C hr hk hK87 z o0 x1 x2 x3 x4 x5 x6 x7 s0 s1 ho0 hs0 (q_t hf h)))
def f_X11_feed_110 (K87 : St → Nat → Int32 → Int32 → Int32 → Int32 → Int32 → Int32 → Int32 → Option (St × Int32)) (z : St) (o0 : Nat) (x1 : Int32) (x2 : Int32) (x3 : Int32) (x4 : Int32) (x5 : Int32) (x6 : Int32) (x7 : Int32) (s0 : Nat) (s1 : Int32) : Option (St × Int32) :=
  if x7 = 1 then f_X11_feed_116 K87 z o0 x1 x2 x3 x4 x5 x6 x7 s0 s1 else f_X11_feed_120 K87 z o0 x1 x2 x3 x4 x5 x6 x7 s0 s1
theorem b_X11_feed_110 {p : Program} {l : Launch} {e : Env} {s : State} {m : MethodId} {args : Array Value} {below : List Frame} {meth : Method} {c : Code} {g : Ga} {A : Nat → Prop} (C : Cx l g A p s m args c cX11_feed 8 RX11 (rm_X11_feed) (0, 0)) (hr : meth.sig.returnType = (some .int)) (hk : meth.locks = false) {K87 : St → Nat → Int32 → Int32 → Int32 → Int32 → Int32 → Int32 → Int32 → Option (St × Int32)} (hK87 : ∀ (z : St) (o0 : Nat) (x1 : Int32) (x2 : Int32) (x3 : Int32) (x4 : Int32) (x5 : Int32) (x6 : Int32) (x7 : Int32) (_ : kd o0 = 11) {res : St × Int32}, K87 z o0 x1 x2 x3 x4 x5 x6 x7 = some res → Zj p l e (rm_X11_feed) s m args below meth c g A 8 (0, 0) (QI g A below args s res) z 87 [(0, .ref (g.1 o0)), (1, .int x1), (2, .int x2), (3, .int x3), (4, .int x4), (5, .int x5), (6, .int x6), (7, .int x7)] []) (z : St) (o0 : Nat) (x1 : Int32) (x2 : Int32) (x3 : Int32) (x4 : Int32) (x5 : Int32) (x6 : Int32) (x7 : Int32) (s0 : Nat) (s1 : Int32) (ho0 : kd o0 = 11) (hs0 : kd s0 = 1060) {res : St × Int32} (hf : f_X11_feed_110 K87 z o0 x1 x2 x3 x4 x5 x6 x7 s0 s1 = some res) : Zj p l e (rm_X11_feed) s m args below meth c g A 8 (0, 0) (QI g A below args s res) z 110 [(0, .ref (g.1 o0)), (1, .int x1), (2, .int x2), (3, .int x3), (4, .int x4), (5, .int x5), (6, .int x6), (7, .int x7)] [.int s1, .ref (g.1 s0)] := by
  unfold f_X11_feed_110 at hf
  refine z_iload C dX11_feed_110 7 rfl ?_
  refine z_iconst C dX11_feed_112 (v := 1) (by decide) ?_
  exact z_icmp_ne C dX11_feed_113 (by decide) (fun h => z_sub [0, 1, 2, 3, 4, 5, 6, 7] rfl (b_X11_feed_120 C hr hk hK87 z o0 x1 x2 x3 x4 x5 x6 x7 s0 s1 ho0 hs0 (q_f hf h))) (fun h => z_sub [0, 1, 2, 3, 4, 5, 6, 7] rfl (b_X11_feed_116 C hr hk hK87 z o0 x1 x2 x3 x4 x5 x6 x7 s0 s1 ho0 hs0 (q_t hf h)))
def f_X11_feed_93 (K87 : St → Nat → Int32 → Int32 → Int32 → Int32 → Int32 → Int32 → Int32 → Option (St × Int32)) (z : St) (o0 : Nat) (x1 : Int32) (x2 : Int32) (x3 : Int32) (x4 : Int32) (x5 : Int32) (x6 : Int32) (x7 : Int32) : Option (St × Int32) :=
  if x7 = 0 then f_X11_feed_106 K87 z o0 x1 x2 x3 x4 x5 x6 x7 (rf o0 6) (z.1 o0 7) else f_X11_feed_110 K87 z o0 x1 x2 x3 x4 x5 x6 x7 (rf o0 6) (z.1 o0 7)
theorem b_X11_feed_93 {p : Program} {l : Launch} {e : Env} {s : State} {m : MethodId} {args : Array Value} {below : List Frame} {meth : Method} {c : Code} {g : Ga} {A : Nat → Prop} (C : Cx l g A p s m args c cX11_feed 8 RX11 (rm_X11_feed) (0, 0)) (hr : meth.sig.returnType = (some .int)) (hk : meth.locks = false) {K87 : St → Nat → Int32 → Int32 → Int32 → Int32 → Int32 → Int32 → Int32 → Option (St × Int32)} (hK87 : ∀ (z : St) (o0 : Nat) (x1 : Int32) (x2 : Int32) (x3 : Int32) (x4 : Int32) (x5 : Int32) (x6 : Int32) (x7 : Int32) (_ : kd o0 = 11) {res : St × Int32}, K87 z o0 x1 x2 x3 x4 x5 x6 x7 = some res → Zj p l e (rm_X11_feed) s m args below meth c g A 8 (0, 0) (QI g A below args s res) z 87 [(0, .ref (g.1 o0)), (1, .int x1), (2, .int x2), (3, .int x3), (4, .int x4), (5, .int x5), (6, .int x6), (7, .int x7)] []) (z : St) (o0 : Nat) (x1 : Int32) (x2 : Int32) (x3 : Int32) (x4 : Int32) (x5 : Int32) (x6 : Int32) (x7 : Int32) (ho0 : kd o0 = 11) {res : St × Int32} (hf : f_X11_feed_93 K87 z o0 x1 x2 x3 x4 x5 x6 x7 = some res) : Zj p l e (rm_X11_feed) s m args below meth c g A 8 (0, 0) (QI g A below args s res) z 93 [(0, .ref (g.1 o0)), (1, .int x1), (2, .int x2), (3, .int x3), (4, .int x4), (5, .int x5), (6, .int x6), (7, .int x7)] [] := by
  unfold f_X11_feed_93 at hf
  refine z_aload_n C dX11_feed_93 rfl 0 rfl ?_
  refine gf_X11_22 C dX11_feed_94 ho0 ?_
  refine z_aload_n C dX11_feed_97 rfl 0 rfl ?_
  refine gf_X11_155 C dX11_feed_98 ho0 ?_
  refine z_iload C dX11_feed_101 7 rfl ?_
  exact z_if_ne C dX11_feed_103 (by decide) (fun h => z_sub [0, 1, 2, 3, 4, 5, 6, 7] rfl (b_X11_feed_110 C hr hk hK87 z o0 x1 x2 x3 x4 x5 x6 x7 (rf o0 6) (z.1 o0 7) ho0 (rt_11_6 _ (kd_lt ho0 (by decide)) ho0) (q_f hf h))) (fun h => z_sub [0, 1, 2, 3, 4, 5, 6, 7] rfl (b_X11_feed_106 C hr hk hK87 z o0 x1 x2 x3 x4 x5 x6 x7 (rf o0 6) (z.1 o0 7) ho0 (rt_11_6 _ (kd_lt ho0 (by decide)) ho0) (q_t hf h)))
def f_X11_feed_161  (z : St) (o0 : Nat) : Option (St × Int32) :=
  some (z, z.1 o0 7)
theorem b_X11_feed_161 {p : Program} {l : Launch} {e : Env} {s : State} {m : MethodId} {args : Array Value} {below : List Frame} {meth : Method} {c : Code} {g : Ga} {A : Nat → Prop} (C : Cx l g A p s m args c cX11_feed 8 RX11 (rm_X11_feed) (0, 0)) (hr : meth.sig.returnType = (some .int)) (hk : meth.locks = false)   (z : St) (o0 : Nat) (ho0 : kd o0 = 11) {res : St × Int32} (hf : f_X11_feed_161  z o0 = some res) : Zj p l e (rm_X11_feed) s m args below meth c g A 8 (0, 0) (QI g A below args s res) z 161 [(0, .ref (g.1 o0))] [] := by
  unfold f_X11_feed_161 at hf
  refine z_aload_n C dX11_feed_161 rfl 0 rfl ?_
  refine gf_X11_155 C dX11_feed_162 ho0 ?_
  cases hf
  exact z_iret C hr hk dX11_feed_165
def f_X11_feed_87  : Nat → St → Nat → Int32 → Int32 → Int32 → Int32 → Int32 → Int32 → Int32 → Option (St × Int32)
  | 0, _, _, _, _, _, _, _, _, _ => none
  | n + 1, z, o0, x1, x2, x3, x4, x5, x6, x7 => if x1 ≤ x7 then f_X11_feed_161 z o0 else f_X11_feed_93 (f_X11_feed_87 n) z o0 x1 x2 x3 x4 x5 x6 x7
theorem b_X11_feed_87 {p : Program} {l : Launch} {e : Env} {s : State} {m : MethodId} {args : Array Value} {below : List Frame} {meth : Method} {c : Code} {g : Ga} {A : Nat → Prop} (C : Cx l g A p s m args c cX11_feed 8 RX11 (rm_X11_feed) (0, 0)) (hr : meth.sig.returnType = (some .int)) (hk : meth.locks = false)   : ∀ (n : Nat) (z : St) (o0 : Nat) (x1 : Int32) (x2 : Int32) (x3 : Int32) (x4 : Int32) (x5 : Int32) (x6 : Int32) (x7 : Int32) (_ : kd o0 = 11) {res : St × Int32} (_ : f_X11_feed_87  n z o0 x1 x2 x3 x4 x5 x6 x7 = some res), Zj p l e (rm_X11_feed) s m args below meth c g A 8 (0, 0) (QI g A below args s res) z 87 [(0, .ref (g.1 o0)), (1, .int x1), (2, .int x2), (3, .int x3), (4, .int x4), (5, .int x5), (6, .int x6), (7, .int x7)] [] := by
  intro n
  induction n with
  | zero =>
    intro z o0 x1 x2 x3 x4 x5 x6 x7 ho0 res hf
    cases hf
  | succ n ih =>
    intro z o0 x1 x2 x3 x4 x5 x6 x7 ho0 res hf
    rw [f_X11_feed_87] at hf
    refine z_iload C dX11_feed_87 7 rfl ?_
    refine z_iload_n C dX11_feed_89 rfl 1 rfl ?_
    exact z_icmp_ge C dX11_feed_90 (by decide) (fun h => z_sub [0] rfl (b_X11_feed_161 C hr hk z o0 ho0 (q_t hf h))) (fun h => z_sub [0, 1, 2, 3, 4, 5, 6, 7] rfl (b_X11_feed_93 C hr hk ih z o0 x1 x2 x3 x4 x5 x6 x7 ho0 (q_f hf h)))
def f_X11_feed_84  (z : St) (o0 : Nat) (x1 : Int32) (x2 : Int32) (x3 : Int32) (x4 : Int32) (x5 : Int32) (x6 : Int32) : Option (St × Int32) :=
  f_X11_feed_87 FU z o0 x1 x2 x3 x4 x5 x6 0
theorem b_X11_feed_84 {p : Program} {l : Launch} {e : Env} {s : State} {m : MethodId} {args : Array Value} {below : List Frame} {meth : Method} {c : Code} {g : Ga} {A : Nat → Prop} (C : Cx l g A p s m args c cX11_feed 8 RX11 (rm_X11_feed) (0, 0)) (hr : meth.sig.returnType = (some .int)) (hk : meth.locks = false)   (z : St) (o0 : Nat) (x1 : Int32) (x2 : Int32) (x3 : Int32) (x4 : Int32) (x5 : Int32) (x6 : Int32) (ho0 : kd o0 = 11) {res : St × Int32} (hf : f_X11_feed_84  z o0 x1 x2 x3 x4 x5 x6 = some res) : Zj p l e (rm_X11_feed) s m args below meth c g A 8 (0, 0) (QI g A below args s res) z 84 [(0, .ref (g.1 o0)), (1, .int x1), (2, .int x2), (3, .int x3), (4, .int x4), (5, .int x5), (6, .int x6)] [] := by
  unfold f_X11_feed_84 at hf
  refine z_iconst C dX11_feed_84 (v := 0) (by decide) ?_
  refine z_istore C (lv2 := [(7, .int 0), (0, .ref (g.1 o0)), (1, .int x1), (2, .int x2), (3, .int x3), (4, .int x4), (5, .int x5), (6, .int x6)]) dX11_feed_85 (by decide) rfl ?_
  exact z_sub [1, 2, 3, 4, 5, 6, 7, 0] rfl (b_X11_feed_87 C hr hk FU z o0 x1 x2 x3 x4 x5 x6 0 ho0 hf)
def f_X11_feed_70  (z : St) (o0 : Nat) (x1 : Int32) (x2 : Int32) (x3 : Int32) (x4 : Int32) (x5 : Int32) (x6 : Int32) : Option (St × Int32) :=
  if ((z.1 o0 7) + x1) ≤ 60 then f_X11_feed_84 z o0 x1 x2 x3 x4 x5 x6 else f_X11_feed_81 z
theorem b_X11_feed_70 {p : Program} {l : Launch} {e : Env} {s : State} {m : MethodId} {args : Array Value} {below : List Frame} {meth : Method} {c : Code} {g : Ga} {A : Nat → Prop} (C : Cx l g A p s m args c cX11_feed 8 RX11 (rm_X11_feed) (0, 0)) (hr : meth.sig.returnType = (some .int)) (hk : meth.locks = false)   (z : St) (o0 : Nat) (x1 : Int32) (x2 : Int32) (x3 : Int32) (x4 : Int32) (x5 : Int32) (x6 : Int32) (ho0 : kd o0 = 11) {res : St × Int32} (hf : f_X11_feed_70  z o0 x1 x2 x3 x4 x5 x6 = some res) : Zj p l e (rm_X11_feed) s m args below meth c g A 8 (0, 0) (QI g A below args s res) z 70 [(0, .ref (g.1 o0)), (1, .int x1), (2, .int x2), (3, .int x3), (4, .int x4), (5, .int x5), (6, .int x6)] [] := by
  unfold f_X11_feed_70 at hf
  refine z_aload_n C dX11_feed_70 rfl 0 rfl ?_
  refine gf_X11_155 C dX11_feed_71 ho0 ?_
  refine z_iload_n C dX11_feed_74 rfl 1 rfl ?_
  refine z_iadd C dX11_feed_75 ?_
  refine z_bipush C dX11_feed_76 (v := 60) (by decide) ?_
  exact z_icmp_le C dX11_feed_78 (by decide) (fun h => z_sub [0, 1, 2, 3, 4, 5, 6] rfl (b_X11_feed_84 C hr hk z o0 x1 x2 x3 x4 x5 x6 ho0 (q_t hf h))) (fun h => z_sub [] rfl (b_X11_feed_81 C hr hk z (q_f hf h)))
def f_X11_feed_55  (z : St) (o0 : Nat) (x1 : Int32) (x2 : Int32) (x3 : Int32) (x4 : Int32) (x5 : Int32) (x6 : Int32) : Option (St × Int32) :=
  ((f_X11_in z x6 0 255).bind fun r1 => if r1.2 = 0 then f_X11_feed_67 r1.1 else f_X11_feed_70 r1.1 o0 x1 x2 x3 x4 x5 x6)
theorem b_X11_feed_55 {p : Program} {l : Launch} {e : Env} {s : State} {m : MethodId} {args : Array Value} {below : List Frame} {meth : Method} {c : Code} {g : Ga} {A : Nat → Prop} (C : Cx l g A p s m args c cX11_feed 8 RX11 (rm_X11_feed) (0, 0)) (hr : meth.sig.returnType = (some .int)) (hk : meth.locks = false)   (z : St) (o0 : Nat) (x1 : Int32) (x2 : Int32) (x3 : Int32) (x4 : Int32) (x5 : Int32) (x6 : Int32) (ho0 : kd o0 = 11) {res : St × Int32} (hf : f_X11_feed_55  z o0 x1 x2 x3 x4 x5 x6 = some res) : Zj p l e (rm_X11_feed) s m args below meth c g A 8 (0, 0) (QI g A below args s res) z 55 [(0, .ref (g.1 o0)), (1, .int x1), (2, .int x2), (3, .int x3), (4, .int x4), (5, .int x5), (6, .int x6)] [] := by
  unfold f_X11_feed_55 at hf
  refine z_iload C dX11_feed_55 6 rfl ?_
  refine z_iconst C dX11_feed_57 (v := 0) (by decide) ?_
  refine z_sipush C dX11_feed_58 (v := 255) (by decide) ?_
  obtain ⟨r1, hc2, hf⟩ := q_bd hf
  refine z_cSi C (st := []) (c_X11_in  hc2) mw_X11_in ml_X11_114 dX11_feed_61 rfl rfl rfl ⟨Nat.le_of_ble_eq_true rfl, Nat.le_of_ble_eq_true rfl⟩ rfl (Nat.le_of_ble_eq_true rfl) ?_
  exact z_if_ne C dX11_feed_64 (by decide) (fun h => z_sub [0, 1, 2, 3, 4, 5, 6] rfl (b_X11_feed_70 C hr hk r1.1 o0 x1 x2 x3 x4 x5 x6 ho0 (q_f hf h))) (fun h => z_sub [] rfl (b_X11_feed_67 C hr hk r1.1 (q_t hf h)))
def f_X11_feed_43  (z : St) (o0 : Nat) (x1 : Int32) (x2 : Int32) (x3 : Int32) (x4 : Int32) (x5 : Int32) (x6 : Int32) : Option (St × Int32) :=
  ((f_X11_in z x5 0 255).bind fun r1 => if r1.2 = 0 then f_X11_feed_67 r1.1 else f_X11_feed_55 r1.1 o0 x1 x2 x3 x4 x5 x6)
theorem b_X11_feed_43 {p : Program} {l : Launch} {e : Env} {s : State} {m : MethodId} {args : Array Value} {below : List Frame} {meth : Method} {c : Code} {g : Ga} {A : Nat → Prop} (C : Cx l g A p s m args c cX11_feed 8 RX11 (rm_X11_feed) (0, 0)) (hr : meth.sig.returnType = (some .int)) (hk : meth.locks = false)   (z : St) (o0 : Nat) (x1 : Int32) (x2 : Int32) (x3 : Int32) (x4 : Int32) (x5 : Int32) (x6 : Int32) (ho0 : kd o0 = 11) {res : St × Int32} (hf : f_X11_feed_43  z o0 x1 x2 x3 x4 x5 x6 = some res) : Zj p l e (rm_X11_feed) s m args below meth c g A 8 (0, 0) (QI g A below args s res) z 43 [(0, .ref (g.1 o0)), (1, .int x1), (2, .int x2), (3, .int x3), (4, .int x4), (5, .int x5), (6, .int x6)] [] := by
  unfold f_X11_feed_43 at hf
  refine z_iload C dX11_feed_43 5 rfl ?_
  refine z_iconst C dX11_feed_45 (v := 0) (by decide) ?_
  refine z_sipush C dX11_feed_46 (v := 255) (by decide) ?_
  obtain ⟨r1, hc2, hf⟩ := q_bd hf
  refine z_cSi C (st := []) (c_X11_in  hc2) mw_X11_in ml_X11_114 dX11_feed_49 rfl rfl rfl ⟨Nat.le_of_ble_eq_true rfl, Nat.le_of_ble_eq_true rfl⟩ rfl (Nat.le_of_ble_eq_true rfl) ?_
  exact z_if_eq C dX11_feed_52 (by decide) (fun h => z_sub [] rfl (b_X11_feed_67 C hr hk r1.1 (q_t hf h))) (fun h => z_sub [0, 1, 2, 3, 4, 5, 6] rfl (b_X11_feed_55 C hr hk r1.1 o0 x1 x2 x3 x4 x5 x6 ho0 (q_f hf h)))
def f_X11_feed_31  (z : St) (o0 : Nat) (x1 : Int32) (x2 : Int32) (x3 : Int32) (x4 : Int32) (x5 : Int32) (x6 : Int32) : Option (St × Int32) :=
  ((f_X11_in z x4 0 255).bind fun r1 => if r1.2 = 0 then f_X11_feed_67 r1.1 else f_X11_feed_43 r1.1 o0 x1 x2 x3 x4 x5 x6)
theorem b_X11_feed_31 {p : Program} {l : Launch} {e : Env} {s : State} {m : MethodId} {args : Array Value} {below : List Frame} {meth : Method} {c : Code} {g : Ga} {A : Nat → Prop} (C : Cx l g A p s m args c cX11_feed 8 RX11 (rm_X11_feed) (0, 0)) (hr : meth.sig.returnType = (some .int)) (hk : meth.locks = false)   (z : St) (o0 : Nat) (x1 : Int32) (x2 : Int32) (x3 : Int32) (x4 : Int32) (x5 : Int32) (x6 : Int32) (ho0 : kd o0 = 11) {res : St × Int32} (hf : f_X11_feed_31  z o0 x1 x2 x3 x4 x5 x6 = some res) : Zj p l e (rm_X11_feed) s m args below meth c g A 8 (0, 0) (QI g A below args s res) z 31 [(0, .ref (g.1 o0)), (1, .int x1), (2, .int x2), (3, .int x3), (4, .int x4), (5, .int x5), (6, .int x6)] [] := by
  unfold f_X11_feed_31 at hf
  refine z_iload C dX11_feed_31 4 rfl ?_
  refine z_iconst C dX11_feed_33 (v := 0) (by decide) ?_
  refine z_sipush C dX11_feed_34 (v := 255) (by decide) ?_
  obtain ⟨r1, hc2, hf⟩ := q_bd hf
  refine z_cSi C (st := []) (c_X11_in  hc2) mw_X11_in ml_X11_114 dX11_feed_37 rfl rfl rfl ⟨Nat.le_of_ble_eq_true rfl, Nat.le_of_ble_eq_true rfl⟩ rfl (Nat.le_of_ble_eq_true rfl) ?_
  exact z_if_eq C dX11_feed_40 (by decide) (fun h => z_sub [] rfl (b_X11_feed_67 C hr hk r1.1 (q_t hf h))) (fun h => z_sub [0, 1, 2, 3, 4, 5, 6] rfl (b_X11_feed_43 C hr hk r1.1 o0 x1 x2 x3 x4 x5 x6 ho0 (q_f hf h)))
def f_X11_feed_20  (z : St) (o0 : Nat) (x1 : Int32) (x2 : Int32) (x3 : Int32) (x4 : Int32) (x5 : Int32) (x6 : Int32) : Option (St × Int32) :=
  ((f_X11_in z x3 0 255).bind fun r1 => if r1.2 = 0 then f_X11_feed_67 r1.1 else f_X11_feed_31 r1.1 o0 x1 x2 x3 x4 x5 x6)
theorem b_X11_feed_20 {p : Program} {l : Launch} {e : Env} {s : State} {m : MethodId} {args : Array Value} {below : List Frame} {meth : Method} {c : Code} {g : Ga} {A : Nat → Prop} (C : Cx l g A p s m args c cX11_feed 8 RX11 (rm_X11_feed) (0, 0)) (hr : meth.sig.returnType = (some .int)) (hk : meth.locks = false)   (z : St) (o0 : Nat) (x1 : Int32) (x2 : Int32) (x3 : Int32) (x4 : Int32) (x5 : Int32) (x6 : Int32) (ho0 : kd o0 = 11) {res : St × Int32} (hf : f_X11_feed_20  z o0 x1 x2 x3 x4 x5 x6 = some res) : Zj p l e (rm_X11_feed) s m args below meth c g A 8 (0, 0) (QI g A below args s res) z 20 [(0, .ref (g.1 o0)), (1, .int x1), (2, .int x2), (3, .int x3), (4, .int x4), (5, .int x5), (6, .int x6)] [] := by
  unfold f_X11_feed_20 at hf
  refine z_iload_n C dX11_feed_20 rfl 3 rfl ?_
  refine z_iconst C dX11_feed_21 (v := 0) (by decide) ?_
  refine z_sipush C dX11_feed_22 (v := 255) (by decide) ?_
  obtain ⟨r1, hc2, hf⟩ := q_bd hf
  refine z_cSi C (st := []) (c_X11_in  hc2) mw_X11_in ml_X11_114 dX11_feed_25 rfl rfl rfl ⟨Nat.le_of_ble_eq_true rfl, Nat.le_of_ble_eq_true rfl⟩ rfl (Nat.le_of_ble_eq_true rfl) ?_
  exact z_if_eq C dX11_feed_28 (by decide) (fun h => z_sub [] rfl (b_X11_feed_67 C hr hk r1.1 (q_t hf h))) (fun h => z_sub [0, 1, 2, 3, 4, 5, 6] rfl (b_X11_feed_31 C hr hk r1.1 o0 x1 x2 x3 x4 x5 x6 ho0 (q_f hf h)))
def f_X11_feed_9  (z : St) (o0 : Nat) (x1 : Int32) (x2 : Int32) (x3 : Int32) (x4 : Int32) (x5 : Int32) (x6 : Int32) : Option (St × Int32) :=
  ((f_X11_in z x2 0 255).bind fun r1 => if r1.2 = 0 then f_X11_feed_67 r1.1 else f_X11_feed_20 r1.1 o0 x1 x2 x3 x4 x5 x6)
theorem b_X11_feed_9 {p : Program} {l : Launch} {e : Env} {s : State} {m : MethodId} {args : Array Value} {below : List Frame} {meth : Method} {c : Code} {g : Ga} {A : Nat → Prop} (C : Cx l g A p s m args c cX11_feed 8 RX11 (rm_X11_feed) (0, 0)) (hr : meth.sig.returnType = (some .int)) (hk : meth.locks = false)   (z : St) (o0 : Nat) (x1 : Int32) (x2 : Int32) (x3 : Int32) (x4 : Int32) (x5 : Int32) (x6 : Int32) (ho0 : kd o0 = 11) {res : St × Int32} (hf : f_X11_feed_9  z o0 x1 x2 x3 x4 x5 x6 = some res) : Zj p l e (rm_X11_feed) s m args below meth c g A 8 (0, 0) (QI g A below args s res) z 9 [(0, .ref (g.1 o0)), (1, .int x1), (2, .int x2), (3, .int x3), (4, .int x4), (5, .int x5), (6, .int x6)] [] := by
  unfold f_X11_feed_9 at hf
  refine z_iload_n C dX11_feed_9 rfl 2 rfl ?_
  refine z_iconst C dX11_feed_10 (v := 0) (by decide) ?_
  refine z_sipush C dX11_feed_11 (v := 255) (by decide) ?_
  obtain ⟨r1, hc2, hf⟩ := q_bd hf
  refine z_cSi C (st := []) (c_X11_in  hc2) mw_X11_in ml_X11_114 dX11_feed_14 rfl rfl rfl ⟨Nat.le_of_ble_eq_true rfl, Nat.le_of_ble_eq_true rfl⟩ rfl (Nat.le_of_ble_eq_true rfl) ?_
  exact z_if_eq C dX11_feed_17 (by decide) (fun h => z_sub [] rfl (b_X11_feed_67 C hr hk r1.1 (q_t hf h))) (fun h => z_sub [0, 1, 2, 3, 4, 5, 6] rfl (b_X11_feed_20 C hr hk r1.1 o0 x1 x2 x3 x4 x5 x6 ho0 (q_f hf h)))
def f_X11_feed_0  (z : St) (o0 : Nat) (x1 : Int32) (x2 : Int32) (x3 : Int32) (x4 : Int32) (x5 : Int32) (x6 : Int32) : Option (St × Int32) :=
  ((f_X11_in z x1 1 5).bind fun r1 => if r1.2 = 0 then f_X11_feed_67 r1.1 else f_X11_feed_9 r1.1 o0 x1 x2 x3 x4 x5 x6)
theorem b_X11_feed_0 {p : Program} {l : Launch} {e : Env} {s : State} {m : MethodId} {args : Array Value} {below : List Frame} {meth : Method} {c : Code} {g : Ga} {A : Nat → Prop} (C : Cx l g A p s m args c cX11_feed 8 RX11 (rm_X11_feed) (0, 0)) (hr : meth.sig.returnType = (some .int)) (hk : meth.locks = false)   (z : St) (o0 : Nat) (x1 : Int32) (x2 : Int32) (x3 : Int32) (x4 : Int32) (x5 : Int32) (x6 : Int32) (ho0 : kd o0 = 11) {res : St × Int32} (hf : f_X11_feed_0  z o0 x1 x2 x3 x4 x5 x6 = some res) : Zj p l e (rm_X11_feed) s m args below meth c g A 8 (0, 0) (QI g A below args s res) z 0 [(0, .ref (g.1 o0)), (1, .int x1), (2, .int x2), (3, .int x3), (4, .int x4), (5, .int x5), (6, .int x6)] [] := by
  unfold f_X11_feed_0 at hf
  refine z_iload_n C dX11_feed_0 rfl 1 rfl ?_
  refine z_iconst C dX11_feed_1 (v := 1) (by decide) ?_
  refine z_iconst C dX11_feed_2 (v := 5) (by decide) ?_
  obtain ⟨r1, hc2, hf⟩ := q_bd hf
  refine z_cSi C (st := []) (c_X11_in  hc2) mw_X11_in ml_X11_114 dX11_feed_3 rfl rfl rfl ⟨Nat.le_of_ble_eq_true rfl, Nat.le_of_ble_eq_true rfl⟩ rfl (Nat.le_of_ble_eq_true rfl) ?_
  exact z_if_eq C dX11_feed_6 (by decide) (fun h => z_sub [] rfl (b_X11_feed_67 C hr hk r1.1 (q_t hf h))) (fun h => z_sub [0, 1, 2, 3, 4, 5, 6] rfl (b_X11_feed_9 C hr hk r1.1 o0 x1 x2 x3 x4 x5 x6 ho0 (q_f hf h)))
def f_X11_feed (z : St) (o0 : Nat) (x1 : Int32) (x2 : Int32) (x3 : Int32) (x4 : Int32) (x5 : Int32) (x6 : Int32) : Option (St × Int32) := f_X11_feed_0 z o0 x1 x2 x3 x4 x5 x6
theorem c_X11_feed {l : Launch} {g : Ga} {A : Nat → Prop} {z : St} {o0 : Nat} {x1 : Int32} {x2 : Int32} {x3 : Int32} {x4 : Int32} {x5 : Int32} {x6 : Int32} (ho0 : kd o0 = 11) {res : St × Int32} (hf : f_X11_feed z o0 x1 x2 x3 x4 x5 x6 = some res) : CI l g A yX11_feed cX11_feed 8 (some .int) rm_X11_feed [.ref (g.1 o0), .int x1, .int x2, .int x3, .int x4, .int x5, .int x6] z res :=
  e_CI (by decide) (Nat.le_of_ble_eq_true rfl) rfl (fun p e s m args below meth c C hr hk => z_sub [0, 1, 2, 3, 4, 5, 6] rfl (b_X11_feed_0 C hr hk z o0 x1 x2 x3 x4 x5 x6 ho0 hf))
abbrev rm_X11_here : Room := { frames := 0, cells := 0, slots := 0, locals := 0 }
def f_X11_here_24  (z : St) (s0 : Int32) : Option (St × Int32) :=
  some (z, s0)
theorem b_X11_here_24 {p : Program} {l : Launch} {e : Env} {s : State} {m : MethodId} {args : Array Value} {below : List Frame} {meth : Method} {c : Code} {g : Ga} {A : Nat → Prop} (C : Cx l g A p s m args c cX11_here 1 RX11 (rm_X11_here) (0, 0)) (hr : meth.sig.returnType = (some .int)) (hk : meth.locks = false)   (z : St) (s0 : Int32)  {res : St × Int32} (hf : f_X11_here_24  z s0 = some res) : Zj p l e (rm_X11_here) s m args below meth c g A 1 (0, 0) (QI g A below args s res) z 24 [] [.int s0] := by
  unfold f_X11_here_24 at hf
  cases hf
  exact z_iret C hr hk dX11_here_24
def f_X11_here_11  (z : St) (o0 : Nat) : Option (St × Int32) :=
  if inb (z.1 o0 8) 60 = true then (f_X11_here_24 z (z.1 (rf o0 6) (Int32.toNatClampNeg (z.1 o0 8)))) else none
theorem b_X11_here_11 {p : Program} {l : Launch} {e : Env} {s : State} {m : MethodId} {args : Array Value} {below : List Frame} {meth : Method} {c : Code} {g : Ga} {A : Nat → Prop} (C : Cx l g A p s m args c cX11_here 1 RX11 (rm_X11_here) (0, 0)) (hr : meth.sig.returnType = (some .int)) (hk : meth.locks = false)   (z : St) (o0 : Nat) (ho0 : kd o0 = 11) {res : St × Int32} (hf : f_X11_here_11  z o0 = some res) : Zj p l e (rm_X11_here) s m args below meth c g A 1 (0, 0) (QI g A below args s res) z 11 [(0, .ref (g.1 o0))] [] := by
  unfold f_X11_here_11 at hf
  refine z_aload_n C dX11_here_11 rfl 0 rfl ?_
  refine gf_X11_22 C dX11_here_12 ho0 ?_
  refine z_aload_n C dX11_here_15 rfl 0 rfl ?_
  refine gf_X11_158 C dX11_here_16 ho0 ?_
  obtain ⟨h1, hf⟩ := q_ck hf
  refine z_iald C (n := 60) dX11_here_19 (rt_11_6 _ (kd_lt ho0 (by decide)) ho0) (by decide) h1 ?_
  exact z_goto C dX11_here_20 (by decide) (z_sub [] rfl (b_X11_here_24 C hr hk z (z.1 (rf o0 6) (Int32.toNatClampNeg (z.1 o0 8))) hf))
def f_X11_here_23  (z : St)  : Option (St × Int32) :=
  f_X11_here_24 z ((-1))
theorem b_X11_here_23 {p : Program} {l : Launch} {e : Env} {s : State} {m : MethodId} {args : Array Value} {below : List Frame} {meth : Method} {c : Code} {g : Ga} {A : Nat → Prop} (C : Cx l g A p s m args c cX11_here 1 RX11 (rm_X11_here) (0, 0)) (hr : meth.sig.returnType = (some .int)) (hk : meth.locks = false)   (z : St)   {res : St × Int32} (hf : f_X11_here_23  z  = some res) : Zj p l e (rm_X11_here) s m args below meth c g A 1 (0, 0) (QI g A below args s res) z 23 [] [] := by
  unfold f_X11_here_23 at hf
  refine z_iconst C dX11_here_23 (v := (-1)) (by decide) ?_
  exact z_sub [] rfl (b_X11_here_24 C hr hk z ((-1)) hf)
def f_X11_here_0  (z : St) (o0 : Nat) : Option (St × Int32) :=
  if (z.1 o0 9) ≤ (z.1 o0 8) then f_X11_here_23 z else f_X11_here_11 z o0
theorem b_X11_here_0 {p : Program} {l : Launch} {e : Env} {s : State} {m : MethodId} {args : Array Value} {below : List Frame} {meth : Method} {c : Code} {g : Ga} {A : Nat → Prop} (C : Cx l g A p s m args c cX11_here 1 RX11 (rm_X11_here) (0, 0)) (hr : meth.sig.returnType = (some .int)) (hk : meth.locks = false)   (z : St) (o0 : Nat) (ho0 : kd o0 = 11) {res : St × Int32} (hf : f_X11_here_0  z o0 = some res) : Zj p l e (rm_X11_here) s m args below meth c g A 1 (0, 0) (QI g A below args s res) z 0 [(0, .ref (g.1 o0))] [] := by
  unfold f_X11_here_0 at hf
  refine z_aload_n C dX11_here_0 rfl 0 rfl ?_
  refine gf_X11_158 C dX11_here_1 ho0 ?_
  refine z_aload_n C dX11_here_4 rfl 0 rfl ?_
  refine gf_X11_161 C dX11_here_5 ho0 ?_
  exact z_icmp_ge C dX11_here_8 (by decide) (fun h => z_sub [] rfl (b_X11_here_23 C hr hk z (q_t hf h))) (fun h => z_sub [0] rfl (b_X11_here_11 C hr hk z o0 ho0 (q_f hf h)))
def f_X11_here (z : St) (o0 : Nat) : Option (St × Int32) := f_X11_here_0 z o0
theorem c_X11_here {l : Launch} {g : Ga} {A : Nat → Prop} {z : St} {o0 : Nat} (ho0 : kd o0 = 11) {res : St × Int32} (hf : f_X11_here z o0 = some res) : CI l g A yX11_here cX11_here 1 (some .int) rm_X11_here [.ref (g.1 o0)] z res :=
  e_CI (by decide) (Nat.le_of_ble_eq_true rfl) rfl (fun p e s m args below meth c C hr hk => z_sub [0] rfl (b_X11_here_0 C hr hk z o0 ho0 hf))
abbrev rm_X11_fails : Room := { frames := 0, cells := 0, slots := 0, locals := 0 }
def f_X11_fails_12  (z : St)  : Option (St) :=
  some z
theorem b_X11_fails_12 {p : Program} {l : Launch} {e : Env} {s : State} {m : MethodId} {args : Array Value} {below : List Frame} {meth : Method} {c : Code} {g : Ga} {A : Nat → Prop} (C : Cx l g A p s m args c cX11_fails 2 RX11 (rm_X11_fails) (0, 0)) (hr : meth.sig.returnType = none) (hk : meth.locks = false)   (z : St)   {res : St} (hf : f_X11_fails_12  z  = some res) : Zj p l e (rm_X11_fails) s m args below meth c g A 2 (0, 0) (QV g A below args s res) z 12 [] [] := by
  unfold f_X11_fails_12 at hf
  cases hf
  exact z_vret C hr hk dX11_fails_12
def f_X11_fails_7  (z : St) (o0 : Nat) (x1 : Int32) : Option (St) :=
  f_X11_fails_12 (zI z o0 10 x1)
theorem b_X11_fails_7 {p : Program} {l : Launch} {e : Env} {s : State} {m : MethodId} {args : Array Value} {below : List Frame} {meth : Method} {c : Code} {g : Ga} {A : Nat → Prop} (C : Cx l g A p s m args c cX11_fails 2 RX11 (rm_X11_fails) (0, 0)) (hr : meth.sig.returnType = none) (hk : meth.locks = false)   (z : St) (o0 : Nat) (x1 : Int32) (ho0 : kd o0 = 11) {res : St} (hf : f_X11_fails_7  z o0 x1 = some res) : Zj p l e (rm_X11_fails) s m args below meth c g A 2 (0, 0) (QV g A below args s res) z 7 [(0, .ref (g.1 o0)), (1, .int x1)] [] := by
  unfold f_X11_fails_7 at hf
  refine z_aload_n C dX11_fails_7 rfl 0 rfl ?_
  refine z_iload_n C dX11_fails_8 rfl 1 rfl ?_
  refine pf_X11_164 C dX11_fails_9 ho0 ?_
  exact z_sub [] rfl (b_X11_fails_12 C hr hk (zI z o0 10 x1) hf)
def f_X11_fails_0  (z : St) (o0 : Nat) (x1 : Int32) : Option (St) :=
  if 0 ≤ (z.1 o0 10) then f_X11_fails_12 z else f_X11_fails_7 z o0 x1
theorem b_X11_fails_0 {p : Program} {l : Launch} {e : Env} {s : State} {m : MethodId} {args : Array Value} {below : List Frame} {meth : Method} {c : Code} {g : Ga} {A : Nat → Prop} (C : Cx l g A p s m args c cX11_fails 2 RX11 (rm_X11_fails) (0, 0)) (hr : meth.sig.returnType = none) (hk : meth.locks = false)   (z : St) (o0 : Nat) (x1 : Int32) (ho0 : kd o0 = 11) {res : St} (hf : f_X11_fails_0  z o0 x1 = some res) : Zj p l e (rm_X11_fails) s m args below meth c g A 2 (0, 0) (QV g A below args s res) z 0 [(0, .ref (g.1 o0)), (1, .int x1)] [] := by
  unfold f_X11_fails_0 at hf
  refine z_aload_n C dX11_fails_0 rfl 0 rfl ?_
  refine gf_X11_164 C dX11_fails_1 ho0 ?_
  exact z_if_ge C dX11_fails_4 (by decide) (fun h => z_sub [] rfl (b_X11_fails_12 C hr hk z (q_t hf h))) (fun h => z_sub [0, 1] rfl (b_X11_fails_7 C hr hk z o0 x1 ho0 (q_f hf h)))
def f_X11_fails (z : St) (o0 : Nat) (x1 : Int32) : Option (St) := f_X11_fails_0 z o0 x1
theorem c_X11_fails {l : Launch} {g : Ga} {A : Nat → Prop} {z : St} {o0 : Nat} {x1 : Int32} (ho0 : kd o0 = 11) {res : St} (hf : f_X11_fails z o0 x1 = some res) : CV l g A yX11_fails cX11_fails 2 none rm_X11_fails [.ref (g.1 o0), .int x1] z res :=
  e_CV (by decide) (Nat.le_of_ble_eq_true rfl) rfl (fun p e s m args below meth c C hr hk => z_sub [0, 1] rfl (b_X11_fails_0 C hr hk z o0 x1 ho0 hf))
abbrev rm_X11_kindOf : Room := { frames := 0, cells := 0, slots := 0, locals := 0 }
def f_X11_kindOf_76  (z : St)  : Option (St × Int32) :=
  some (z, 0)
theorem b_X11_kindOf_76 {p : Program} {l : Launch} {e : Env} {s : State} {m : MethodId} {args : Array Value} {below : List Frame} {meth : Method} {c : Code} {g : Ga} {A : Nat → Prop} (C : Cx l g A p s m args c cX11_kindOf 1 RX11 (rm_X11_kindOf) (0, 0)) (hr : meth.sig.returnType = (some .int)) (hk : meth.locks = false)   (z : St)   {res : St × Int32} (hf : f_X11_kindOf_76  z  = some res) : Zj p l e (rm_X11_kindOf) s m args below meth c g A 1 (0, 0) (QI g A below args s res) z 76 [] [] := by
  unfold f_X11_kindOf_76 at hf
  refine z_iconst C dX11_kindOf_76 (v := 0) (by decide) ?_
  cases hf
  exact z_iret C hr hk dX11_kindOf_77
def f_X11_kindOf_78  (z : St)  : Option (St × Int32) :=
  some (z, 1)
theorem b_X11_kindOf_78 {p : Program} {l : Launch} {e : Env} {s : State} {m : MethodId} {args : Array Value} {below : List Frame} {meth : Method} {c : Code} {g : Ga} {A : Nat → Prop} (C : Cx l g A p s m args c cX11_kindOf 1 RX11 (rm_X11_kindOf) (0, 0)) (hr : meth.sig.returnType = (some .int)) (hk : meth.locks = false)   (z : St)   {res : St × Int32} (hf : f_X11_kindOf_78  z  = some res) : Zj p l e (rm_X11_kindOf) s m args below meth c g A 1 (0, 0) (QI g A below args s res) z 78 [] [] := by
  unfold f_X11_kindOf_78 at hf
  refine z_iconst C dX11_kindOf_78 (v := 1) (by decide) ?_
  cases hf
  exact z_iret C hr hk dX11_kindOf_79
def f_X11_kindOf_80  (z : St)  : Option (St × Int32) :=
  some (z, 2)
theorem b_X11_kindOf_80 {p : Program} {l : Launch} {e : Env} {s : State} {m : MethodId} {args : Array Value} {below : List Frame} {meth : Method} {c : Code} {g : Ga} {A : Nat → Prop} (C : Cx l g A p s m args c cX11_kindOf 1 RX11 (rm_X11_kindOf) (0, 0)) (hr : meth.sig.returnType = (some .int)) (hk : meth.locks = false)   (z : St)   {res : St × Int32} (hf : f_X11_kindOf_80  z  = some res) : Zj p l e (rm_X11_kindOf) s m args below meth c g A 1 (0, 0) (QI g A below args s res) z 80 [] [] := by
  unfold f_X11_kindOf_80 at hf
  refine z_iconst C dX11_kindOf_80 (v := 2) (by decide) ?_
  cases hf
  exact z_iret C hr hk dX11_kindOf_81
def f_X11_kindOf_82  (z : St)  : Option (St × Int32) :=
  some (z, 3)
theorem b_X11_kindOf_82 {p : Program} {l : Launch} {e : Env} {s : State} {m : MethodId} {args : Array Value} {below : List Frame} {meth : Method} {c : Code} {g : Ga} {A : Nat → Prop} (C : Cx l g A p s m args c cX11_kindOf 1 RX11 (rm_X11_kindOf) (0, 0)) (hr : meth.sig.returnType = (some .int)) (hk : meth.locks = false)   (z : St)   {res : St × Int32} (hf : f_X11_kindOf_82  z  = some res) : Zj p l e (rm_X11_kindOf) s m args below meth c g A 1 (0, 0) (QI g A below args s res) z 82 [] [] := by
  unfold f_X11_kindOf_82 at hf
  refine z_iconst C dX11_kindOf_82 (v := 3) (by decide) ?_
  cases hf
  exact z_iret C hr hk dX11_kindOf_83
def f_X11_kindOf_84  (z : St)  : Option (St × Int32) :=
  some (z, 4)
theorem b_X11_kindOf_84 {p : Program} {l : Launch} {e : Env} {s : State} {m : MethodId} {args : Array Value} {below : List Frame} {meth : Method} {c : Code} {g : Ga} {A : Nat → Prop} (C : Cx l g A p s m args c cX11_kindOf 1 RX11 (rm_X11_kindOf) (0, 0)) (hr : meth.sig.returnType = (some .int)) (hk : meth.locks = false)   (z : St)   {res : St × Int32} (hf : f_X11_kindOf_84  z  = some res) : Zj p l e (rm_X11_kindOf) s m args below meth c g A 1 (0, 0) (QI g A below args s res) z 84 [] [] := by
  unfold f_X11_kindOf_84 at hf
  refine z_iconst C dX11_kindOf_84 (v := 4) (by decide) ?_
  cases hf
  exact z_iret C hr hk dX11_kindOf_85
def f_X11_kindOf_97  (z : St) (s0 : Int32) : Option (St × Int32) :=
  some (z, s0)
theorem b_X11_kindOf_97 {p : Program} {l : Launch} {e : Env} {s : State} {m : MethodId} {args : Array Value} {below : List Frame} {meth : Method} {c : Code} {g : Ga} {A : Nat → Prop} (C : Cx l g A p s m args c cX11_kindOf 1 RX11 (rm_X11_kindOf) (0, 0)) (hr : meth.sig.returnType = (some .int)) (hk : meth.locks = false)   (z : St) (s0 : Int32)  {res : St × Int32} (hf : f_X11_kindOf_97  z s0 = some res) : Zj p l e (rm_X11_kindOf) s m args below meth c g A 1 (0, 0) (QI g A below args s res) z 97 [] [.int s0] := by
  unfold f_X11_kindOf_97 at hf
  cases hf
  exact z_iret C hr hk dX11_kindOf_97
def f_X11_kindOf_92  (z : St)  : Option (St × Int32) :=
  f_X11_kindOf_97 z 5
theorem b_X11_kindOf_92 {p : Program} {l : Launch} {e : Env} {s : State} {m : MethodId} {args : Array Value} {below : List Frame} {meth : Method} {c : Code} {g : Ga} {A : Nat → Prop} (C : Cx l g A p s m args c cX11_kindOf 1 RX11 (rm_X11_kindOf) (0, 0)) (hr : meth.sig.returnType = (some .int)) (hk : meth.locks = false)   (z : St)   {res : St × Int32} (hf : f_X11_kindOf_92  z  = some res) : Zj p l e (rm_X11_kindOf) s m args below meth c g A 1 (0, 0) (QI g A below args s res) z 92 [] [] := by
  unfold f_X11_kindOf_92 at hf
  refine z_iconst C dX11_kindOf_92 (v := 5) (by decide) ?_
  exact z_goto C dX11_kindOf_93 (by decide) (z_sub [] rfl (b_X11_kindOf_97 C hr hk z 5 hf))
def f_X11_kindOf_96  (z : St)  : Option (St × Int32) :=
  f_X11_kindOf_97 z ((-1))
theorem b_X11_kindOf_96 {p : Program} {l : Launch} {e : Env} {s : State} {m : MethodId} {args : Array Value} {below : List Frame} {meth : Method} {c : Code} {g : Ga} {A : Nat → Prop} (C : Cx l g A p s m args c cX11_kindOf 1 RX11 (rm_X11_kindOf) (0, 0)) (hr : meth.sig.returnType = (some .int)) (hk : meth.locks = false)   (z : St)   {res : St × Int32} (hf : f_X11_kindOf_96  z  = some res) : Zj p l e (rm_X11_kindOf) s m args below meth c g A 1 (0, 0) (QI g A below args s res) z 96 [] [] := by
  unfold f_X11_kindOf_96 at hf
  refine z_iconst C dX11_kindOf_96 (v := (-1)) (by decide) ?_
  exact z_sub [] rfl (b_X11_kindOf_97 C hr hk z ((-1)) hf)
def f_X11_kindOf_86  (z : St) (x0 : Int32) : Option (St × Int32) :=
  if x0 = 115 then f_X11_kindOf_92 z else f_X11_kindOf_96 z
theorem b_X11_kindOf_86 {p : Program} {l : Launch} {e : Env} {s : State} {m : MethodId} {args : Array Value} {below : List Frame} {meth : Method} {c : Code} {g : Ga} {A : Nat → Prop} (C : Cx l g A p s m args c cX11_kindOf 1 RX11 (rm_X11_kindOf) (0, 0)) (hr : meth.sig.returnType = (some .int)) (hk : meth.locks = false)   (z : St) (x0 : Int32)  {res : St × Int32} (hf : f_X11_kindOf_86  z x0 = some res) : Zj p l e (rm_X11_kindOf) s m args below meth c g A 1 (0, 0) (QI g A below args s res) z 86 [(0, .int x0)] [] := by
  unfold f_X11_kindOf_86 at hf
  refine z_iload_n C dX11_kindOf_86 rfl 0 rfl ?_
  refine z_bipush C dX11_kindOf_87 (v := 115) (by decide) ?_
  exact z_icmp_ne C dX11_kindOf_89 (by decide) (fun h => z_sub [] rfl (b_X11_kindOf_96 C hr hk z (q_f hf h))) (fun h => z_sub [] rfl (b_X11_kindOf_92 C hr hk z (q_t hf h)))
def f_X11_kindOf_0  (z : St) (x0 : Int32) : Option (St × Int32) :=
  if x0 = 100 then f_X11_kindOf_82 z else if x0 = 101 then f_X11_kindOf_86 z x0 else if x0 = 102 then f_X11_kindOf_86 z x0 else if x0 = 103 then f_X11_kindOf_86 z x0 else if x0 = 104 then f_X11_kindOf_80 z else if x0 = 105 then f_X11_kindOf_86 z x0 else if x0 = 106 then f_X11_kindOf_86 z x0 else if x0 = 107 then f_X11_kindOf_86 z x0 else if x0 = 108 then f_X11_kindOf_86 z x0 else if x0 = 109 then f_X11_kindOf_84 z else if x0 = 110 then f_X11_kindOf_86 z x0 else if x0 = 111 then f_X11_kindOf_86 z x0 else if x0 = 112 then f_X11_kindOf_76 z else if x0 = 113 then f_X11_kindOf_86 z x0 else if x0 = 114 then f_X11_kindOf_78 z else f_X11_kindOf_86 z x0
theorem b_X11_kindOf_0 {p : Program} {l : Launch} {e : Env} {s : State} {m : MethodId} {args : Array Value} {below : List Frame} {meth : Method} {c : Code} {g : Ga} {A : Nat → Prop} (C : Cx l g A p s m args c cX11_kindOf 1 RX11 (rm_X11_kindOf) (0, 0)) (hr : meth.sig.returnType = (some .int)) (hk : meth.locks = false)   (z : St) (x0 : Int32)  {res : St × Int32} (hf : f_X11_kindOf_0  z x0 = some res) : Zj p l e (rm_X11_kindOf) s m args below meth c g A 1 (0, 0) (QI g A below args s res) z 0 [(0, .int x0)] [] := by
  unfold f_X11_kindOf_0 at hf
  refine z_iload_n C dX11_kindOf_0 rfl 0 rfl ?_
  by_cases h1 : x0 = 100
  · exact z_tblK C dX11_kindOf_1 (k := 100) h1 (by decide) (by decide) (off := 81) (by decide) (by decide) (z_sub [] rfl (b_X11_kindOf_82 C hr hk z (q_t hf h1)))
  replace hf := q_f hf h1
  by_cases h2 : x0 = 101
  · exact z_tblK C dX11_kindOf_1 (k := 101) h2 (by decide) (by decide) (off := 85) (by decide) (by decide) (z_sub [0] rfl (b_X11_kindOf_86 C hr hk z x0 (q_t hf h2)))
  replace hf := q_f hf h2
  by_cases h3 : x0 = 102
  · exact z_tblK C dX11_kindOf_1 (k := 102) h3 (by decide) (by decide) (off := 85) (by decide) (by decide) (z_sub [0] rfl (b_X11_kindOf_86 C hr hk z x0 (q_t hf h3)))
  replace hf := q_f hf h3
  by_cases h4 : x0 = 103
  · exact z_tblK C dX11_kindOf_1 (k := 103) h4 (by decide) (by decide) (off := 85) (by decide) (by decide) (z_sub [0] rfl (b_X11_kindOf_86 C hr hk z x0 (q_t hf h4)))
  replace hf := q_f hf h4
  by_cases h5 : x0 = 104
  · exact z_tblK C dX11_kindOf_1 (k := 104) h5 (by decide) (by decide) (off := 79) (by decide) (by decide) (z_sub [] rfl (b_X11_kindOf_80 C hr hk z (q_t hf h5)))
  replace hf := q_f hf h5
  by_cases h6 : x0 = 105
  · exact z_tblK C dX11_kindOf_1 (k := 105) h6 (by decide) (by decide) (off := 85) (by decide) (by decide) (z_sub [0] rfl (b_X11_kindOf_86 C hr hk z x0 (q_t hf h6)))
  replace hf := q_f hf h6
  by_cases h7 : x0 = 106
  · exact z_tblK C dX11_kindOf_1 (k := 106) h7 (by decide) (by decide) (off := 85) (by decide) (by decide) (z_sub [0] rfl (b_X11_kindOf_86 C hr hk z x0 (q_t hf h7)))
  replace hf := q_f hf h7
  by_cases h8 : x0 = 107
  · exact z_tblK C dX11_kindOf_1 (k := 107) h8 (by decide) (by decide) (off := 85) (by decide) (by decide) (z_sub [0] rfl (b_X11_kindOf_86 C hr hk z x0 (q_t hf h8)))
  replace hf := q_f hf h8
  by_cases h9 : x0 = 108
  · exact z_tblK C dX11_kindOf_1 (k := 108) h9 (by decide) (by decide) (off := 85) (by decide) (by decide) (z_sub [0] rfl (b_X11_kindOf_86 C hr hk z x0 (q_t hf h9)))
  replace hf := q_f hf h9
  by_cases h10 : x0 = 109
  · exact z_tblK C dX11_kindOf_1 (k := 109) h10 (by decide) (by decide) (off := 83) (by decide) (by decide) (z_sub [] rfl (b_X11_kindOf_84 C hr hk z (q_t hf h10)))
  replace hf := q_f hf h10
  by_cases h11 : x0 = 110
  · exact z_tblK C dX11_kindOf_1 (k := 110) h11 (by decide) (by decide) (off := 85) (by decide) (by decide) (z_sub [0] rfl (b_X11_kindOf_86 C hr hk z x0 (q_t hf h11)))
  replace hf := q_f hf h11
  by_cases h12 : x0 = 111
  · exact z_tblK C dX11_kindOf_1 (k := 111) h12 (by decide) (by decide) (off := 85) (by decide) (by decide) (z_sub [0] rfl (b_X11_kindOf_86 C hr hk z x0 (q_t hf h12)))
  replace hf := q_f hf h12
  by_cases h13 : x0 = 112
  · exact z_tblK C dX11_kindOf_1 (k := 112) h13 (by decide) (by decide) (off := 75) (by decide) (by decide) (z_sub [] rfl (b_X11_kindOf_76 C hr hk z (q_t hf h13)))
  replace hf := q_f hf h13
  by_cases h14 : x0 = 113
  · exact z_tblK C dX11_kindOf_1 (k := 113) h14 (by decide) (by decide) (off := 85) (by decide) (by decide) (z_sub [0] rfl (b_X11_kindOf_86 C hr hk z x0 (q_t hf h14)))
  replace hf := q_f hf h14
  by_cases h15 : x0 = 114
  · exact z_tblK C dX11_kindOf_1 (k := 114) h15 (by decide) (by decide) (off := 77) (by decide) (by decide) (z_sub [] rfl (b_X11_kindOf_78 C hr hk z (q_t hf h15)))
  replace hf := q_f hf h15
  exact z_tblOut C dX11_kindOf_1 (tbl_out (lo := 100) (hi := 114) (fun k q1 q2 => by
    rcases (show k = 100 ∨ k = 101 ∨ k = 102 ∨ k = 103 ∨ k = 104 ∨ k = 105 ∨ k = 106 ∨ k = 107 ∨ k = 108 ∨ k = 109 ∨ k = 110 ∨ k = 111 ∨ k = 112 ∨ k = 113 ∨ k = 114 by omega) with rfl | rfl | rfl | rfl | rfl | rfl | rfl | rfl | rfl | rfl | rfl | rfl | rfl | rfl | rfl
    · exact fun e => h1 (e.symm.trans (by decide))
    · exact fun e => h2 (e.symm.trans (by decide))
    · exact fun e => h3 (e.symm.trans (by decide))
    · exact fun e => h4 (e.symm.trans (by decide))
    · exact fun e => h5 (e.symm.trans (by decide))
    · exact fun e => h6 (e.symm.trans (by decide))
    · exact fun e => h7 (e.symm.trans (by decide))
    · exact fun e => h8 (e.symm.trans (by decide))
    · exact fun e => h9 (e.symm.trans (by decide))
    · exact fun e => h10 (e.symm.trans (by decide))
    · exact fun e => h11 (e.symm.trans (by decide))
    · exact fun e => h12 (e.symm.trans (by decide))
    · exact fun e => h13 (e.symm.trans (by decide))
    · exact fun e => h14 (e.symm.trans (by decide))
    · exact fun e => h15 (e.symm.trans (by decide)))) (by decide) (z_sub [0] rfl (b_X11_kindOf_86 C hr hk z x0 hf))
def f_X11_kindOf (z : St) (x0 : Int32) : Option (St × Int32) := f_X11_kindOf_0 z x0
theorem c_X11_kindOf {l : Launch} {g : Ga} {A : Nat → Prop} {z : St} {x0 : Int32}  {res : St × Int32} (hf : f_X11_kindOf z x0 = some res) : CI l g A yX11_kindOf cX11_kindOf 1 (some .int) rm_X11_kindOf [.int x0] z res :=
  e_CI (by decide) (Nat.le_of_ble_eq_true rfl) rfl (fun p e s m args below meth c C hr hk => z_sub [0] rfl (b_X11_kindOf_0 C hr hk z x0  hf))
abbrev rm_X11_takes : Room := { frames := 1, cells := 0, slots := 0, locals := 21 }
def f_X11_takes_29  (z : St)  : Option (St) :=
  some z
theorem b_X11_takes_29 {p : Program} {l : Launch} {e : Env} {s : State} {m : MethodId} {args : Array Value} {below : List Frame} {meth : Method} {c : Code} {g : Ga} {A : Nat → Prop} (C : Cx l g A p s m args c cX11_takes 2 RX11 (rm_X11_takes) (0, 0)) (hr : meth.sig.returnType = none) (hk : meth.locks = false)   (z : St)   {res : St} (hf : f_X11_takes_29  z  = some res) : Zj p l e (rm_X11_takes) s m args below meth c g A 2 (0, 0) (QV g A below args s res) z 29 [] [] := by
  unfold f_X11_takes_29 at hf
  cases hf
  exact z_vret C hr hk dX11_takes_29
def f_X11_takes_8  (z : St) (o0 : Nat) : Option (St) :=
  f_X11_takes_29 (zI z o0 8 ((z.1 o0 8) + 1))
theorem b_X11_takes_8 {p : Program} {l : Launch} {e : Env} {s : State} {m : MethodId} {args : Array Value} {below : List Frame} {meth : Method} {c : Code} {g : Ga} {A : Nat → Prop} (C : Cx l g A p s m args c cX11_takes 2 RX11 (rm_X11_takes) (0, 0)) (hr : meth.sig.returnType = none) (hk : meth.locks = false)   (z : St) (o0 : Nat) (ho0 : kd o0 = 11) {res : St} (hf : f_X11_takes_8  z o0 = some res) : Zj p l e (rm_X11_takes) s m args below meth c g A 2 (0, 0) (QV g A below args s res) z 8 [(0, .ref (g.1 o0))] [] := by
  unfold f_X11_takes_8 at hf
  refine z_aload_n C dX11_takes_8 rfl 0 rfl ?_
  refine z_dup C dX11_takes_9 rfl ?_
  refine gf_X11_158 C dX11_takes_10 ho0 ?_
  refine z_iconst C dX11_takes_13 (v := 1) (by decide) ?_
  refine z_iadd C dX11_takes_14 ?_
  refine pf_X11_158 C dX11_takes_15 ho0 ?_
  exact z_goto C dX11_takes_18 (by decide) (z_sub [] rfl (b_X11_takes_29 C hr hk (zI z o0 8 ((z.1 o0 8) + 1)) hf))
def f_X11_takes_21  (z : St) (o0 : Nat) : Option (St) :=
  ((f_X11_fails z o0 (z.1 o0 8)).bind fun r1 => f_X11_takes_29 r1)
theorem b_X11_takes_21 {p : Program} {l : Launch} {e : Env} {s : State} {m : MethodId} {args : Array Value} {below : List Frame} {meth : Method} {c : Code} {g : Ga} {A : Nat → Prop} (C : Cx l g A p s m args c cX11_takes 2 RX11 (rm_X11_takes) (0, 0)) (hr : meth.sig.returnType = none) (hk : meth.locks = false)   (z : St) (o0 : Nat) (ho0 : kd o0 = 11) {res : St} (hf : f_X11_takes_21  z o0 = some res) : Zj p l e (rm_X11_takes) s m args below meth c g A 2 (0, 0) (QV g A below args s res) z 21 [(0, .ref (g.1 o0))] [] := by
  unfold f_X11_takes_21 at hf
  refine z_aload_n C dX11_takes_21 rfl 0 rfl ?_
  refine z_aload_n C dX11_takes_22 rfl 0 rfl ?_
  refine gf_X11_158 C dX11_takes_23 ho0 ?_
  obtain ⟨r1, hc2, hf⟩ := q_bd hf
  refine z_cVv C (st := []) (c_X11_fails ho0 hc2) mw_X11_fails ml_X11_171 ho0 (by decide) rfl dX11_takes_26 rfl rfl rfl ⟨Nat.le_of_ble_eq_true rfl, Nat.le_of_ble_eq_true rfl⟩ rfl (Nat.le_of_ble_eq_true rfl) ?_
  exact z_sub [] rfl (b_X11_takes_29 C hr hk r1 hf)
def f_X11_takes_0  (z : St) (o0 : Nat) (x1 : Int32) : Option (St) :=
  ((f_X11_here z o0).bind fun r1 => if r1.2 = x1 then f_X11_takes_8 r1.1 o0 else f_X11_takes_21 r1.1 o0)
theorem b_X11_takes_0 {p : Program} {l : Launch} {e : Env} {s : State} {m : MethodId} {args : Array Value} {below : List Frame} {meth : Method} {c : Code} {g : Ga} {A : Nat → Prop} (C : Cx l g A p s m args c cX11_takes 2 RX11 (rm_X11_takes) (0, 0)) (hr : meth.sig.returnType = none) (hk : meth.locks = false)   (z : St) (o0 : Nat) (x1 : Int32) (ho0 : kd o0 = 11) {res : St} (hf : f_X11_takes_0  z o0 x1 = some res) : Zj p l e (rm_X11_takes) s m args below meth c g A 2 (0, 0) (QV g A below args s res) z 0 [(0, .ref (g.1 o0)), (1, .int x1)] [] := by
  unfold f_X11_takes_0 at hf
  refine z_aload_n C dX11_takes_0 rfl 0 rfl ?_
  obtain ⟨r1, hc2, hf⟩ := q_bd hf
  refine z_cVi C (st := []) (c_X11_here ho0 hc2) mw_X11_here ml_X11_167 ho0 (by decide) rfl dX11_takes_1 rfl rfl rfl ⟨Nat.le_of_ble_eq_true rfl, Nat.le_of_ble_eq_true rfl⟩ rfl (Nat.le_of_ble_eq_true rfl) ?_
  refine z_iload_n C dX11_takes_4 rfl 1 rfl ?_
  exact z_icmp_ne C dX11_takes_5 (by decide) (fun h => z_sub [0] rfl (b_X11_takes_21 C hr hk r1.1 o0 ho0 (q_f hf h))) (fun h => z_sub [0] rfl (b_X11_takes_8 C hr hk r1.1 o0 ho0 (q_t hf h)))
def f_X11_takes (z : St) (o0 : Nat) (x1 : Int32) : Option (St) := f_X11_takes_0 z o0 x1
theorem c_X11_takes {l : Launch} {g : Ga} {A : Nat → Prop} {z : St} {o0 : Nat} {x1 : Int32} (ho0 : kd o0 = 11) {res : St} (hf : f_X11_takes z o0 x1 = some res) : CV l g A yX11_takes cX11_takes 2 none rm_X11_takes [.ref (g.1 o0), .int x1] z res :=
  e_CV (by decide) (Nat.le_of_ble_eq_true rfl) rfl (fun p e s m args below meth c C hr hk => z_sub [0, 1] rfl (b_X11_takes_0 C hr hk z o0 x1 ho0 hf))
abbrev rm_X11_number : Room := { frames := 2, cells := 0, slots := 0, locals := 43 }
def f_X11_number_31 (K7 : St → Nat → Int32 → Int32 → Int32 → Option (St × Int32)) (z : St) (o0 : Nat) (x1 : Int32) (x2 : Int32) (x3 : Int32) : Option (St × Int32) :=
  ((f_X11_here z o0).bind fun r1 => K7 (zI r1.1 o0 8 ((r1.1.1 o0 8) + 1)) o0 x1 x2 (((10 * x3) + r1.2) - 48))
theorem b_X11_number_31 {p : Program} {l : Launch} {e : Env} {s : State} {m : MethodId} {args : Array Value} {below : List Frame} {meth : Method} {c : Code} {g : Ga} {A : Nat → Prop} (C : Cx l g A p s m args c cX11_number 4 RX11 (rm_X11_number) (0, 0)) (hr : meth.sig.returnType = (some .int)) (hk : meth.locks = false) {K7 : St → Nat → Int32 → Int32 → Int32 → Option (St × Int32)} (hK7 : ∀ (z : St) (o0 : Nat) (x1 : Int32) (x2 : Int32) (x3 : Int32) (_ : kd o0 = 11) {res : St × Int32}, K7 z o0 x1 x2 x3 = some res → Zj p l e (rm_X11_number) s m args below meth c g A 4 (0, 0) (QI g A below args s res) z 7 [(0, .ref (g.1 o0)), (1, .int x1), (2, .int x2), (3, .int x3)] []) (z : St) (o0 : Nat) (x1 : Int32) (x2 : Int32) (x3 : Int32) (ho0 : kd o0 = 11) {res : St × Int32} (hf : f_X11_number_31 K7 z o0 x1 x2 x3 = some res) : Zj p l e (rm_X11_number) s m args below meth c g A 4 (0, 0) (QI g A below args s res) z 31 [(0, .ref (g.1 o0)), (1, .int x1), (2, .int x2), (3, .int x3)] [] := by
  unfold f_X11_number_31 at hf
  refine z_bipush C dX11_number_31 (v := 10) (by decide) ?_
  refine z_iload_n C dX11_number_33 rfl 3 rfl ?_
  refine z_imul C dX11_number_34 ?_
  refine z_aload_n C dX11_number_35 rfl 0 rfl ?_
  obtain ⟨r1, hc2, hf⟩ := q_bd hf
  refine z_cVi C (st := [.int (10 * x3)]) (c_X11_here ho0 hc2) mw_X11_here ml_X11_167 ho0 (by decide) rfl dX11_number_36 rfl rfl rfl ⟨Nat.le_of_ble_eq_true rfl, Nat.le_of_ble_eq_true rfl⟩ rfl (Nat.le_of_ble_eq_true rfl) ?_
  refine z_iadd C dX11_number_39 ?_
  refine z_bipush C dX11_number_40 (v := 48) (by decide) ?_
  refine z_isub C dX11_number_42 ?_
  refine z_istore_n C (lv2 := [(3, .int (((10 * x3) + r1.2) - 48)), (0, .ref (g.1 o0)), (1, .int x1), (2, .int x2)]) dX11_number_43 rfl (by decide) rfl ?_
  refine z_aload_n C dX11_number_44 rfl 1 rfl ?_
  refine z_dup C dX11_number_45 rfl ?_
  refine gf_X11_158 C dX11_number_46 ho0 ?_
  refine z_iconst C dX11_number_49 (v := 1) (by decide) ?_
  refine z_iadd C dX11_number_50 ?_
  refine pf_X11_158 C dX11_number_51 ho0 ?_
  exact z_goto C dX11_number_54 (by decide) (z_sub [1, 2, 3, 0] rfl (hK7 (zI r1.1 o0 8 ((r1.1.1 o0 8) + 1)) o0 x1 x2 (((10 * x3) + r1.2) - 48) ho0 hf))
def f_X11_number_78  (z : St) (x3 : Int32) : Option (St × Int32) :=
  some (z, x3)
theorem b_X11_number_78 {p : Program} {l : Launch} {e : Env} {s : State} {m : MethodId} {args : Array Value} {below : List Frame} {meth : Method} {c : Code} {g : Ga} {A : Nat → Prop} (C : Cx l g A p s m args c cX11_number 4 RX11 (rm_X11_number) (0, 0)) (hr : meth.sig.returnType = (some .int)) (hk : meth.locks = false)   (z : St) (x3 : Int32)  {res : St × Int32} (hf : f_X11_number_78  z x3 = some res) : Zj p l e (rm_X11_number) s m args below meth c g A 4 (0, 0) (QI g A below args s res) z 78 [(3, .int x3)] [] := by
  unfold f_X11_number_78 at hf
  refine z_iload_n C dX11_number_78 rfl 0 rfl ?_
  cases hf
  exact z_iret C hr hk dX11_number_79
def f_X11_number_73  (z : St) (o0 : Nat) (x2 : Int32) (x3 : Int32) : Option (St × Int32) :=
  ((f_X11_fails z o0 x2).bind fun r1 => f_X11_number_78 r1 x3)
theorem b_X11_number_73 {p : Program} {l : Launch} {e : Env} {s : State} {m : MethodId} {args : Array Value} {below : List Frame} {meth : Method} {c : Code} {g : Ga} {A : Nat → Prop} (C : Cx l g A p s m args c cX11_number 4 RX11 (rm_X11_number) (0, 0)) (hr : meth.sig.returnType = (some .int)) (hk : meth.locks = false)   (z : St) (o0 : Nat) (x2 : Int32) (x3 : Int32) (ho0 : kd o0 = 11) {res : St × Int32} (hf : f_X11_number_73  z o0 x2 x3 = some res) : Zj p l e (rm_X11_number) s m args below meth c g A 4 (0, 0) (QI g A below args s res) z 73 [(0, .ref (g.1 o0)), (2, .int x2), (3, .int x3)] [] := by
  unfold f_X11_number_73 at hf
  refine z_aload_n C dX11_number_73 rfl 0 rfl ?_
  refine z_iload_n C dX11_number_74 rfl 1 rfl ?_
  obtain ⟨r1, hc2, hf⟩ := q_bd hf
  refine z_cVv C (st := []) (c_X11_fails ho0 hc2) mw_X11_fails ml_X11_171 ho0 (by decide) rfl dX11_number_75 rfl rfl rfl ⟨Nat.le_of_ble_eq_true rfl, Nat.le_of_ble_eq_true rfl⟩ rfl (Nat.le_of_ble_eq_true rfl) ?_
  exact z_sub [2] rfl (b_X11_number_78 C hr hk r1 x3 hf)
def f_X11_number_65  (z : St) (o0 : Nat) (x1 : Int32) (x2 : Int32) (x3 : Int32) : Option (St × Int32) :=
  ((f_X11_mayBe z x1 x3).bind fun r1 => if r1.2 = 0 then f_X11_number_73 r1.1 o0 x2 x3 else f_X11_number_78 r1.1 x3)
theorem b_X11_number_65 {p : Program} {l : Launch} {e : Env} {s : State} {m : MethodId} {args : Array Value} {below : List Frame} {meth : Method} {c : Code} {g : Ga} {A : Nat → Prop} (C : Cx l g A p s m args c cX11_number 4 RX11 (rm_X11_number) (0, 0)) (hr : meth.sig.returnType = (some .int)) (hk : meth.locks = false)   (z : St) (o0 : Nat) (x1 : Int32) (x2 : Int32) (x3 : Int32) (ho0 : kd o0 = 11) {res : St × Int32} (hf : f_X11_number_65  z o0 x1 x2 x3 = some res) : Zj p l e (rm_X11_number) s m args below meth c g A 4 (0, 0) (QI g A below args s res) z 65 [(0, .ref (g.1 o0)), (1, .int x1), (2, .int x2), (3, .int x3)] [] := by
  unfold f_X11_number_65 at hf
  refine z_iload_n C dX11_number_65 rfl 1 rfl ?_
  refine z_iload_n C dX11_number_66 rfl 3 rfl ?_
  obtain ⟨r1, hc2, hf⟩ := q_bd hf
  refine z_cSi C (st := []) (c_X11_mayBe  hc2) mw_X11_mayBe ml_X11_132 dX11_number_67 rfl rfl rfl ⟨Nat.le_of_ble_eq_true rfl, Nat.le_of_ble_eq_true rfl⟩ rfl (Nat.le_of_ble_eq_true rfl) ?_
  exact z_if_ne C dX11_number_70 (by decide) (fun h => z_sub [3] rfl (b_X11_number_78 C hr hk r1.1 x3 (q_f hf h))) (fun h => z_sub [0, 2, 3] rfl (b_X11_number_73 C hr hk r1.1 o0 x2 x3 ho0 (q_t hf h)))
def f_X11_number_57  (z : St) (o0 : Nat) (x1 : Int32) (x2 : Int32) (x3 : Int32) : Option (St × Int32) :=
  if (z.1 o0 8) = x2 then f_X11_number_73 z o0 x2 x3 else f_X11_number_65 z o0 x1 x2 x3
theorem b_X11_number_57 {p : Program} {l : Launch} {e : Env} {s : State} {m : MethodId} {args : Array Value} {below : List Frame} {meth : Method} {c : Code} {g : Ga} {A : Nat → Prop} (C : Cx l g A p s m args c cX11_number 4 RX11 (rm_X11_number) (0, 0)) (hr : meth.sig.returnType = (some .int)) (hk : meth.locks = false)   (z : St) (o0 : Nat) (x1 : Int32) (x2 : Int32) (x3 : Int32) (ho0 : kd o0 = 11) {res : St × Int32} (hf : f_X11_number_57  z o0 x1 x2 x3 = some res) : Zj p l e (rm_X11_number) s m args below meth c g A 4 (0, 0) (QI g A below args s res) z 57 [(0, .ref (g.1 o0)), (1, .int x1), (2, .int x2), (3, .int x3)] [] := by
  unfold f_X11_number_57 at hf
  refine z_aload_n C dX11_number_57 rfl 0 rfl ?_
  refine gf_X11_158 C dX11_number_58 ho0 ?_
  refine z_iload_n C dX11_number_61 rfl 2 rfl ?_
  exact z_icmp_eq C dX11_number_62 (by decide) (fun h => z_sub [0, 2, 3] rfl (b_X11_number_73 C hr hk z o0 x2 x3 ho0 (q_t hf h))) (fun h => z_sub [0, 1, 2, 3] rfl (b_X11_number_65 C hr hk z o0 x1 x2 x3 ho0 (q_f hf h)))
def f_X11_number_17 (K7 : St → Nat → Int32 → Int32 → Int32 → Option (St × Int32)) (z : St) (o0 : Nat) (x1 : Int32) (x2 : Int32) (x3 : Int32) : Option (St × Int32) :=
  ((f_X11_here z o0).bind fun r1 => ((f_X11_in r1.1 r1.2 48 57).bind fun r3 => if r3.2 = 0 then f_X11_number_57 r3.1 o0 x1 x2 x3 else f_X11_number_31 K7 r3.1 o0 x1 x2 x3))
theorem b_X11_number_17 {p : Program} {l : Launch} {e : Env} {s : State} {m : MethodId} {args : Array Value} {below : List Frame} {meth : Method} {c : Code} {g : Ga} {A : Nat → Prop} (C : Cx l g A p s m args c cX11_number 4 RX11 (rm_X11_number) (0, 0)) (hr : meth.sig.returnType = (some .int)) (hk : meth.locks = false) {K7 : St → Nat → Int32 → Int32 → Int32 → Option (St × Int32)} (hK7 : ∀ (z : St) (o0 : Nat) (x1 : Int32) (x2 : Int32) (x3 : Int32) (_ : kd o0 = 11) {res : St × Int32}, K7 z o0 x1 x2 x3 = some res → Zj p l e (rm_X11_number) s m args below meth c g A 4 (0, 0) (QI g A below args s res) z 7 [(0, .ref (g.1 o0)), (1, .int x1), (2, .int x2), (3, .int x3)] []) (z : St) (o0 : Nat) (x1 : Int32) (x2 : Int32) (x3 : Int32) (ho0 : kd o0 = 11) {res : St × Int32} (hf : f_X11_number_17 K7 z o0 x1 x2 x3 = some res) : Zj p l e (rm_X11_number) s m args below meth c g A 4 (0, 0) (QI g A below args s res) z 17 [(0, .ref (g.1 o0)), (1, .int x1), (2, .int x2), (3, .int x3)] [] := by
  unfold f_X11_number_17 at hf
  refine z_aload_n C dX11_number_17 rfl 0 rfl ?_
  obtain ⟨r1, hc2, hf⟩ := q_bd hf
  refine z_cVi C (st := []) (c_X11_here ho0 hc2) mw_X11_here ml_X11_167 ho0 (by decide) rfl dX11_number_18 rfl rfl rfl ⟨Nat.le_of_ble_eq_true rfl, Nat.le_of_ble_eq_true rfl⟩ rfl (Nat.le_of_ble_eq_true rfl) ?_
  refine z_bipush C dX11_number_21 (v := 48) (by decide) ?_
  refine z_bipush C dX11_number_23 (v := 57) (by decide) ?_
  obtain ⟨r3, hc4, hf⟩ := q_bd hf
  refine z_cSi C (st := []) (c_X11_in  hc4) mw_X11_in ml_X11_114 dX11_number_25 rfl rfl rfl ⟨Nat.le_of_ble_eq_true rfl, Nat.le_of_ble_eq_true rfl⟩ rfl (Nat.le_of_ble_eq_true rfl) ?_
  exact z_if_eq C dX11_number_28 (by decide) (fun h => z_sub [0, 1, 2, 3] rfl (b_X11_number_57 C hr hk r3.1 o0 x1 x2 x3 ho0 (q_t hf h))) (fun h => z_sub [0, 1, 2, 3] rfl (b_X11_number_31 C hr hk hK7 r3.1 o0 x1 x2 x3 ho0 (q_f hf h)))
def f_X11_number_7  : Nat → St → Nat → Int32 → Int32 → Int32 → Option (St × Int32)
  | 0, _, _, _, _, _ => none
  | n + 1, z, o0, x1, x2, x3 => if (x2 + 2) ≤ (z.1 o0 8) then f_X11_number_57 z o0 x1 x2 x3 else f_X11_number_17 (f_X11_number_7 n) z o0 x1 x2 x3
theorem b_X11_number_7 {p : Program} {l : Launch} {e : Env} {s : State} {m : MethodId} {args : Array Value} {below : List Frame} {meth : Method} {c : Code} {g : Ga} {A : Nat → Prop} (C : Cx l g A p s m args c cX11_number 4 RX11 (rm_X11_number) (0, 0)) (hr : meth.sig.returnType = (some .int)) (hk : meth.locks = false)   : ∀ (n : Nat) (z : St) (o0 : Nat) (x1 : Int32) (x2 : Int32) (x3 : Int32) (_ : kd o0 = 11) {res : St × Int32} (_ : f_X11_number_7  n z o0 x1 x2 x3 = some res), Zj p l e (rm_X11_number) s m args below meth c g A 4 (0, 0) (QI g A below args s res) z 7 [(0, .ref (g.1 o0)), (1, .int x1), (2, .int x2), (3, .int x3)] [] := by
  intro n
  induction n with
  | zero =>
    intro z o0 x1 x2 x3 ho0 res hf
    cases hf
  | succ n ih =>
    intro z o0 x1 x2 x3 ho0 res hf
    rw [f_X11_number_7] at hf
    refine z_aload_n C dX11_number_7 rfl 0 rfl ?_
    refine gf_X11_158 C dX11_number_8 ho0 ?_
    refine z_iload_n C dX11_number_11 rfl 2 rfl ?_
    refine z_iconst C dX11_number_12 (v := 2) (by decide) ?_
    refine z_iadd C dX11_number_13 ?_
    exact z_icmp_ge C dX11_number_14 (by decide) (fun h => z_sub [0, 1, 2, 3] rfl (b_X11_number_57 C hr hk z o0 x1 x2 x3 ho0 (q_t hf h))) (fun h => z_sub [0, 1, 2, 3] rfl (b_X11_number_17 C hr hk ih z o0 x1 x2 x3 ho0 (q_f hf h)))
def f_X11_number_0  (z : St) (o0 : Nat) (x1 : Int32) : Option (St × Int32) :=
  f_X11_number_7 FU z o0 x1 (z.1 o0 8) 0
theorem b_X11_number_0 {p : Program} {l : Launch} {e : Env} {s : State} {m : MethodId} {args : Array Value} {below : List Frame} {meth : Method} {c : Code} {g : Ga} {A : Nat → Prop} (C : Cx l g A p s m args c cX11_number 4 RX11 (rm_X11_number) (0, 0)) (hr : meth.sig.returnType = (some .int)) (hk : meth.locks = false)   (z : St) (o0 : Nat) (x1 : Int32) (ho0 : kd o0 = 11) {res : St × Int32} (hf : f_X11_number_0  z o0 x1 = some res) : Zj p l e (rm_X11_number) s m args below meth c g A 4 (0, 0) (QI g A below args s res) z 0 [(0, .ref (g.1 o0)), (1, .int x1)] [] := by
  unfold f_X11_number_0 at hf
  refine z_aload_n C dX11_number_0 rfl 0 rfl ?_
  refine gf_X11_158 C dX11_number_1 ho0 ?_
  refine z_istore_n C (lv2 := [(2, .int (z.1 o0 8)), (0, .ref (g.1 o0)), (1, .int x1)]) dX11_number_4 rfl (by decide) rfl ?_
  refine z_iconst C dX11_number_5 (v := 0) (by decide) ?_
  refine z_istore_n C (lv2 := [(3, .int 0), (2, .int (z.1 o0 8)), (0, .ref (g.1 o0)), (1, .int x1)]) dX11_number_6 rfl (by decide) rfl ?_
  exact z_sub [2, 3, 1, 0] rfl (b_X11_number_7 C hr hk FU z o0 x1 (z.1 o0 8) 0 ho0 hf)
def f_X11_number (z : St) (o0 : Nat) (x1 : Int32) : Option (St × Int32) := f_X11_number_0 z o0 x1
theorem c_X11_number {l : Launch} {g : Ga} {A : Nat → Prop} {z : St} {o0 : Nat} {x1 : Int32} (ho0 : kd o0 = 11) {res : St × Int32} (hf : f_X11_number z o0 x1 = some res) : CI l g A yX11_number cX11_number 4 (some .int) rm_X11_number [.ref (g.1 o0), .int x1] z res :=
  e_CI (by decide) (Nat.le_of_ble_eq_true rfl) rfl (fun p e s m args below meth c C hr hk => z_sub [0, 1] rfl (b_X11_number_0 C hr hk z o0 x1 ho0 hf))
abbrev rm_X11_item : Room := { frames := 3, cells := 0, slots := 0, locals := 66 }
def f_X11_item_12  (z : St) (o0 : Nat) : Option (St) :=
  ((f_X11_fails z o0 (z.1 o0 8)).bind fun r1 => some r1)
theorem b_X11_item_12 {p : Program} {l : Launch} {e : Env} {s : State} {m : MethodId} {args : Array Value} {below : List Frame} {meth : Method} {c : Code} {g : Ga} {A : Nat → Prop} (C : Cx l g A p s m args c cX11_item 3 RX11 (rm_X11_item) (0, 0)) (hr : meth.sig.returnType = none) (hk : meth.locks = false)   (z : St) (o0 : Nat) (ho0 : kd o0 = 11) {res : St} (hf : f_X11_item_12  z o0 = some res) : Zj p l e (rm_X11_item) s m args below meth c g A 3 (0, 0) (QV g A below args s res) z 12 [(0, .ref (g.1 o0))] [] := by
  unfold f_X11_item_12 at hf
  refine z_aload_n C dX11_item_12 rfl 0 rfl ?_
  refine z_aload_n C dX11_item_13 rfl 0 rfl ?_
  refine gf_X11_158 C dX11_item_14 ho0 ?_
  obtain ⟨r1, hc2, hf⟩ := q_bd hf
  refine z_cVv C (st := []) (c_X11_fails ho0 hc2) mw_X11_fails ml_X11_171 ho0 (by decide) rfl dX11_item_17 rfl rfl rfl ⟨Nat.le_of_ble_eq_true rfl, Nat.le_of_ble_eq_true rfl⟩ rfl (Nat.le_of_ble_eq_true rfl) ?_
  cases hf
  exact z_vret C hr hk dX11_item_20
def f_X11_item_93 (K45 : St → Nat → Int32 → Option (St)) (z : St) (o0 : Nat) (x2 : Int32) : Option (St) :=
  K45 z o0 (x2 + 1)
theorem b_X11_item_93 {p : Program} {l : Launch} {e : Env} {s : State} {m : MethodId} {args : Array Value} {below : List Frame} {meth : Method} {c : Code} {g : Ga} {A : Nat → Prop} (C : Cx l g A p s m args c cX11_item 3 RX11 (rm_X11_item) (0, 0)) (hr : meth.sig.returnType = none) (hk : meth.locks = false) {K45 : St → Nat → Int32 → Option (St)} (hK45 : ∀ (z : St) (o0 : Nat) (x2 : Int32) (_ : kd o0 = 11) {res : St}, K45 z o0 x2 = some res → Zj p l e (rm_X11_item) s m args below meth c g A 3 (0, 0) (QV g A below args s res) z 45 [(0, .ref (g.1 o0)), (2, .int x2)] []) (z : St) (o0 : Nat) (x2 : Int32) (ho0 : kd o0 = 11) {res : St} (hf : f_X11_item_93 K45 z o0 x2 = some res) : Zj p l e (rm_X11_item) s m args below meth c g A 3 (0, 0) (QV g A below args s res) z 93 [(0, .ref (g.1 o0)), (2, .int x2)] [] := by
  unfold f_X11_item_93 at hf
  refine z_iinc C (k := 1) (v := x2 + 1) (lv2 := [(2, .int (x2 + 1)), (0, .ref (g.1 o0))]) dX11_item_93 rfl rfl (by decide) rfl ?_
  exact z_goto C dX11_item_96 (by decide) (z_sub [1, 0] rfl (hK45 z o0 (x2 + 1) ho0 hf))
def f_X11_item_75 (K45 : St → Nat → Int32 → Option (St)) (z : St) (o0 : Nat) (x2 : Int32) : Option (St) :=
  ((f_X11_number z o0 x2).bind fun r1 => if inb ((4 * (z.1 o0 11)) + x2) 120 = true then (f_X11_item_93 K45 (zI r1.1 (rf o0 12) (Int32.toNatClampNeg ((4 * (z.1 o0 11)) + x2)) r1.2) o0 x2) else none)
theorem b_X11_item_75 {p : Program} {l : Launch} {e : Env} {s : State} {m : MethodId} {args : Array Value} {below : List Frame} {meth : Method} {c : Code} {g : Ga} {A : Nat → Prop} (C : Cx l g A p s m args c cX11_item 3 RX11 (rm_X11_item) (0, 0)) (hr : meth.sig.returnType = none) (hk : meth.locks = false) {K45 : St → Nat → Int32 → Option (St)} (hK45 : ∀ (z : St) (o0 : Nat) (x2 : Int32) (_ : kd o0 = 11) {res : St}, K45 z o0 x2 = some res → Zj p l e (rm_X11_item) s m args below meth c g A 3 (0, 0) (QV g A below args s res) z 45 [(0, .ref (g.1 o0)), (2, .int x2)] []) (z : St) (o0 : Nat) (x2 : Int32) (ho0 : kd o0 = 11) {res : St} (hf : f_X11_item_75 K45 z o0 x2 = some res) : Zj p l e (rm_X11_item) s m args below meth c g A 3 (0, 0) (QV g A below args s res) z 75 [(0, .ref (g.1 o0)), (2, .int x2)] [] := by
  unfold f_X11_item_75 at hf
  refine z_aload_n C dX11_item_75 rfl 0 rfl ?_
  refine gf_X11_25 C dX11_item_76 ho0 ?_
  refine z_iconst C dX11_item_79 (v := 4) (by decide) ?_
  refine z_aload_n C dX11_item_80 rfl 0 rfl ?_
  refine gf_X11_178 C dX11_item_81 ho0 ?_
  refine z_imul C dX11_item_84 ?_
  refine z_iload_n C dX11_item_85 rfl 1 rfl ?_
  refine z_iadd C dX11_item_86 ?_
  refine z_aload_n C dX11_item_87 rfl 0 rfl ?_
  refine z_iload_n C dX11_item_88 rfl 1 rfl ?_
  obtain ⟨r1, hc2, hf⟩ := q_bd hf
  refine z_cVi C (st := [.int ((4 * (z.1 o0 11)) + x2), .ref (g.1 (rf o0 12))]) (c_X11_number ho0 hc2) mw_X11_number ml_X11_184 ho0 (by decide) rfl dX11_item_89 rfl rfl rfl ⟨Nat.le_of_ble_eq_true rfl, Nat.le_of_ble_eq_true rfl⟩ rfl (Nat.le_of_ble_eq_true rfl) ?_
  obtain ⟨h3, hf⟩ := q_ck hf
  refine z_iast C (n := 120) dX11_item_92 (rt_11_12 _ (kd_lt ho0 (by decide)) ho0) (by decide) h3 ?_
  exact z_sub [0, 1] rfl (b_X11_item_93 C hr hk hK45 (zI r1.1 (rf o0 12) (Int32.toNatClampNeg ((4 * (z.1 o0 11)) + x2)) r1.2) o0 x2 ho0 hf)
def f_X11_item_68 (K45 : St → Nat → Int32 → Option (St)) (z : St) (o0 : Nat) (x2 : Int32) : Option (St) :=
  if 0 ≤ (z.1 o0 10) then f_X11_item_93 K45 z o0 x2 else f_X11_item_75 K45 z o0 x2
theorem b_X11_item_68 {p : Program} {l : Launch} {e : Env} {s : State} {m : MethodId} {args : Array Value} {below : List Frame} {meth : Method} {c : Code} {g : Ga} {A : Nat → Prop} (C : Cx l g A p s m args c cX11_item 3 RX11 (rm_X11_item) (0, 0)) (hr : meth.sig.returnType = none) (hk : meth.locks = false) {K45 : St → Nat → Int32 → Option (St)} (hK45 : ∀ (z : St) (o0 : Nat) (x2 : Int32) (_ : kd o0 = 11) {res : St}, K45 z o0 x2 = some res → Zj p l e (rm_X11_item) s m args below meth c g A 3 (0, 0) (QV g A below args s res) z 45 [(0, .ref (g.1 o0)), (2, .int x2)] []) (z : St) (o0 : Nat) (x2 : Int32) (ho0 : kd o0 = 11) {res : St} (hf : f_X11_item_68 K45 z o0 x2 = some res) : Zj p l e (rm_X11_item) s m args below meth c g A 3 (0, 0) (QV g A below args s res) z 68 [(0, .ref (g.1 o0)), (2, .int x2)] [] := by
  unfold f_X11_item_68 at hf
  refine z_aload_n C dX11_item_68 rfl 0 rfl ?_
  refine gf_X11_164 C dX11_item_69 ho0 ?_
  exact z_if_ge C dX11_item_72 (by decide) (fun h => z_sub [0, 1] rfl (b_X11_item_93 C hr hk hK45 z o0 x2 ho0 (q_t hf h))) (fun h => z_sub [0, 1] rfl (b_X11_item_75 C hr hk hK45 z o0 x2 ho0 (q_f hf h)))
def f_X11_item_62 (K45 : St → Nat → Int32 → Option (St)) (z : St) (o0 : Nat) (x2 : Int32) : Option (St) :=
  ((f_X11_takes z o0 44).bind fun r1 => f_X11_item_68 K45 r1 o0 x2)
theorem b_X11_item_62 {p : Program} {l : Launch} {e : Env} {s : State} {m : MethodId} {args : Array Value} {below : List Frame} {meth : Method} {c : Code} {g : Ga} {A : Nat → Prop} (C : Cx l g A p s m args c cX11_item 3 RX11 (rm_X11_item) (0, 0)) (hr : meth.sig.returnType = none) (hk : meth.locks = false) {K45 : St → Nat → Int32 → Option (St)} (hK45 : ∀ (z : St) (o0 : Nat) (x2 : Int32) (_ : kd o0 = 11) {res : St}, K45 z o0 x2 = some res → Zj p l e (rm_X11_item) s m args below meth c g A 3 (0, 0) (QV g A below args s res) z 45 [(0, .ref (g.1 o0)), (2, .int x2)] []) (z : St) (o0 : Nat) (x2 : Int32) (ho0 : kd o0 = 11) {res : St} (hf : f_X11_item_62 K45 z o0 x2 = some res) : Zj p l e (rm_X11_item) s m args below meth c g A 3 (0, 0) (QV g A below args s res) z 62 [(0, .ref (g.1 o0)), (2, .int x2)] [] := by
  unfold f_X11_item_62 at hf
  refine z_aload_n C dX11_item_62 rfl 0 rfl ?_
  refine z_bipush C dX11_item_63 (v := 44) (by decide) ?_
  obtain ⟨r1, hc2, hf⟩ := q_bd hf
  refine z_cVv C (st := []) (c_X11_takes ho0 hc2) mw_X11_takes ml_X11_181 ho0 (by decide) rfl dX11_item_65 rfl rfl rfl ⟨Nat.le_of_ble_eq_true rfl, Nat.le_of_ble_eq_true rfl⟩ rfl (Nat.le_of_ble_eq_true rfl) ?_
  exact z_sub [0, 1] rfl (b_X11_item_68 C hr hk hK45 r1 o0 x2 ho0 hf)
def f_X11_item_57 (K45 : St → Nat → Int32 → Option (St)) (z : St) (o0 : Nat) (x2 : Int32) : Option (St) :=
  if x2 ≤ 1 then f_X11_item_68 K45 z o0 x2 else f_X11_item_62 K45 z o0 x2
theorem b_X11_item_57 {p : Program} {l : Launch} {e : Env} {s : State} {m : MethodId} {args : Array Value} {below : List Frame} {meth : Method} {c : Code} {g : Ga} {A : Nat → Prop} (C : Cx l g A p s m args c cX11_item 3 RX11 (rm_X11_item) (0, 0)) (hr : meth.sig.returnType = none) (hk : meth.locks = false) {K45 : St → Nat → Int32 → Option (St)} (hK45 : ∀ (z : St) (o0 : Nat) (x2 : Int32) (_ : kd o0 = 11) {res : St}, K45 z o0 x2 = some res → Zj p l e (rm_X11_item) s m args below meth c g A 3 (0, 0) (QV g A below args s res) z 45 [(0, .ref (g.1 o0)), (2, .int x2)] []) (z : St) (o0 : Nat) (x2 : Int32) (ho0 : kd o0 = 11) {res : St} (hf : f_X11_item_57 K45 z o0 x2 = some res) : Zj p l e (rm_X11_item) s m args below meth c g A 3 (0, 0) (QV g A below args s res) z 57 [(0, .ref (g.1 o0)), (2, .int x2)] [] := by
  unfold f_X11_item_57 at hf
  refine z_iload_n C dX11_item_57 rfl 1 rfl ?_
  refine z_iconst C dX11_item_58 (v := 1) (by decide) ?_
  exact z_icmp_le C dX11_item_59 (by decide) (fun h => z_sub [0, 1] rfl (b_X11_item_68 C hr hk hK45 z o0 x2 ho0 (q_t hf h))) (fun h => z_sub [0, 1] rfl (b_X11_item_62 C hr hk hK45 z o0 x2 ho0 (q_f hf h)))
def f_X11_item_99  (z : St) (o0 : Nat) : Option (St) :=
  some (zI z o0 11 ((z.1 o0 11) + 1))
theorem b_X11_item_99 {p : Program} {l : Launch} {e : Env} {s : State} {m : MethodId} {args : Array Value} {below : List Frame} {meth : Method} {c : Code} {g : Ga} {A : Nat → Prop} (C : Cx l g A p s m args c cX11_item 3 RX11 (rm_X11_item) (0, 0)) (hr : meth.sig.returnType = none) (hk : meth.locks = false)   (z : St) (o0 : Nat) (ho0 : kd o0 = 11) {res : St} (hf : f_X11_item_99  z o0 = some res) : Zj p l e (rm_X11_item) s m args below meth c g A 3 (0, 0) (QV g A below args s res) z 99 [(0, .ref (g.1 o0))] [] := by
  unfold f_X11_item_99 at hf
  refine z_aload_n C dX11_item_99 rfl 0 rfl ?_
  refine z_dup C dX11_item_100 rfl ?_
  refine gf_X11_178 C dX11_item_101 ho0 ?_
  refine z_iconst C dX11_item_104 (v := 1) (by decide) ?_
  refine z_iadd C dX11_item_105 ?_
  refine pf_X11_178 C dX11_item_106 ho0 ?_
  cases hf
  exact z_vret C hr hk dX11_item_109
def f_X11_item_50 (K45 : St → Nat → Int32 → Option (St)) (z : St) (o0 : Nat) (x2 : Int32) : Option (St) :=
  if 0 ≤ (z.1 o0 10) then f_X11_item_99 z o0 else f_X11_item_57 K45 z o0 x2
theorem b_X11_item_50 {p : Program} {l : Launch} {e : Env} {s : State} {m : MethodId} {args : Array Value} {below : List Frame} {meth : Method} {c : Code} {g : Ga} {A : Nat → Prop} (C : Cx l g A p s m args c cX11_item 3 RX11 (rm_X11_item) (0, 0)) (hr : meth.sig.returnType = none) (hk : meth.locks = false) {K45 : St → Nat → Int32 → Option (St)} (hK45 : ∀ (z : St) (o0 : Nat) (x2 : Int32) (_ : kd o0 = 11) {res : St}, K45 z o0 x2 = some res → Zj p l e (rm_X11_item) s m args below meth c g A 3 (0, 0) (QV g A below args s res) z 45 [(0, .ref (g.1 o0)), (2, .int x2)] []) (z : St) (o0 : Nat) (x2 : Int32) (ho0 : kd o0 = 11) {res : St} (hf : f_X11_item_50 K45 z o0 x2 = some res) : Zj p l e (rm_X11_item) s m args below meth c g A 3 (0, 0) (QV g A below args s res) z 50 [(0, .ref (g.1 o0)), (2, .int x2)] [] := by
  unfold f_X11_item_50 at hf
  refine z_aload_n C dX11_item_50 rfl 0 rfl ?_
  refine gf_X11_164 C dX11_item_51 ho0 ?_
  exact z_if_ge C dX11_item_54 (by decide) (fun h => z_sub [0] rfl (b_X11_item_99 C hr hk z o0 ho0 (q_t hf h))) (fun h => z_sub [0, 1] rfl (b_X11_item_57 C hr hk hK45 z o0 x2 ho0 (q_f hf h)))
def f_X11_item_45  : Nat → St → Nat → Int32 → Option (St)
  | 0, _, _, _ => none
  | n + 1, z, o0, x2 => if 4 ≤ x2 then f_X11_item_99 z o0 else f_X11_item_50 (f_X11_item_45 n) z o0 x2
theorem b_X11_item_45 {p : Program} {l : Launch} {e : Env} {s : State} {m : MethodId} {args : Array Value} {below : List Frame} {meth : Method} {c : Code} {g : Ga} {A : Nat → Prop} (C : Cx l g A p s m args c cX11_item 3 RX11 (rm_X11_item) (0, 0)) (hr : meth.sig.returnType = none) (hk : meth.locks = false)   : ∀ (n : Nat) (z : St) (o0 : Nat) (x2 : Int32) (_ : kd o0 = 11) {res : St} (_ : f_X11_item_45  n z o0 x2 = some res), Zj p l e (rm_X11_item) s m args below meth c g A 3 (0, 0) (QV g A below args s res) z 45 [(0, .ref (g.1 o0)), (2, .int x2)] [] := by
  intro n
  induction n with
  | zero =>
    intro z o0 x2 ho0 res hf
    cases hf
  | succ n ih =>
    intro z o0 x2 ho0 res hf
    rw [f_X11_item_45] at hf
    refine z_iload_n C dX11_item_45 rfl 1 rfl ?_
    refine z_iconst C dX11_item_46 (v := 4) (by decide) ?_
    exact z_icmp_ge C dX11_item_47 (by decide) (fun h => z_sub [0] rfl (b_X11_item_99 C hr hk z o0 ho0 (q_t hf h))) (fun h => z_sub [0, 1] rfl (b_X11_item_50 C hr hk ih z o0 x2 ho0 (q_f hf h)))
def f_X11_item_21  (z : St) (o0 : Nat) (x1 : Int32) : Option (St) :=
  if inb (4 * ((zI z o0 8 ((z.1 o0 8) + 1)).1 o0 11)) 120 = true then (f_X11_item_45 FU (zI (zI z o0 8 ((z.1 o0 8) + 1)) (rf o0 12) (Int32.toNatClampNeg (4 * ((zI z o0 8 ((z.1 o0 8) + 1)).1 o0 11))) x1) o0 1) else none
theorem b_X11_item_21 {p : Program} {l : Launch} {e : Env} {s : State} {m : MethodId} {args : Array Value} {below : List Frame} {meth : Method} {c : Code} {g : Ga} {A : Nat → Prop} (C : Cx l g A p s m args c cX11_item 3 RX11 (rm_X11_item) (0, 0)) (hr : meth.sig.returnType = none) (hk : meth.locks = false)   (z : St) (o0 : Nat) (x1 : Int32) (ho0 : kd o0 = 11) {res : St} (hf : f_X11_item_21  z o0 x1 = some res) : Zj p l e (rm_X11_item) s m args below meth c g A 3 (0, 0) (QV g A below args s res) z 21 [(0, .ref (g.1 o0)), (1, .int x1)] [] := by
  unfold f_X11_item_21 at hf
  refine z_aload_n C dX11_item_21 rfl 0 rfl ?_
  refine z_dup C dX11_item_22 rfl ?_
  refine gf_X11_158 C dX11_item_23 ho0 ?_
  refine z_iconst C dX11_item_26 (v := 1) (by decide) ?_
  refine z_iadd C dX11_item_27 ?_
  refine pf_X11_158 C dX11_item_28 ho0 ?_
  refine z_aload_n C dX11_item_31 rfl 0 rfl ?_
  refine gf_X11_25 C dX11_item_32 ho0 ?_
  refine z_iconst C dX11_item_35 (v := 4) (by decide) ?_
  refine z_aload_n C dX11_item_36 rfl 0 rfl ?_
  refine gf_X11_178 C dX11_item_37 ho0 ?_
  refine z_imul C dX11_item_40 ?_
  refine z_iload_n C dX11_item_41 rfl 1 rfl ?_
  obtain ⟨h1, hf⟩ := q_ck hf
  refine z_iast C (n := 120) dX11_item_42 (rt_11_12 _ (kd_lt ho0 (by decide)) ho0) (by decide) h1 ?_
  refine z_iconst C dX11_item_43 (v := 1) (by decide) ?_
  refine z_istore_n C (lv2 := [(2, .int 1), (0, .ref (g.1 o0)), (1, .int x1)]) dX11_item_44 rfl (by decide) rfl ?_
  exact z_sub [1, 0] rfl (b_X11_item_45 C hr hk FU (zI (zI z o0 8 ((z.1 o0 8) + 1)) (rf o0 12) (Int32.toNatClampNeg (4 * ((zI z o0 8 ((z.1 o0 8) + 1)).1 o0 11))) x1) o0 1 ho0 hf)
def f_X11_item_0  (z : St) (o0 : Nat) : Option (St) :=
  ((f_X11_here z o0).bind fun r1 => ((f_X11_kindOf r1.1 r1.2).bind fun r3 => if 0 ≤ r3.2 then f_X11_item_21 r3.1 o0 r3.2 else f_X11_item_12 r3.1 o0))
theorem b_X11_item_0 {p : Program} {l : Launch} {e : Env} {s : State} {m : MethodId} {args : Array Value} {below : List Frame} {meth : Method} {c : Code} {g : Ga} {A : Nat → Prop} (C : Cx l g A p s m args c cX11_item 3 RX11 (rm_X11_item) (0, 0)) (hr : meth.sig.returnType = none) (hk : meth.locks = false)   (z : St) (o0 : Nat) (ho0 : kd o0 = 11) {res : St} (hf : f_X11_item_0  z o0 = some res) : Zj p l e (rm_X11_item) s m args below meth c g A 3 (0, 0) (QV g A below args s res) z 0 [(0, .ref (g.1 o0))] [] := by
  unfold f_X11_item_0 at hf
  refine z_aload_n C dX11_item_0 rfl 0 rfl ?_
  obtain ⟨r1, hc2, hf⟩ := q_bd hf
  refine z_cVi C (st := []) (c_X11_here ho0 hc2) mw_X11_here ml_X11_167 ho0 (by decide) rfl dX11_item_1 rfl rfl rfl ⟨Nat.le_of_ble_eq_true rfl, Nat.le_of_ble_eq_true rfl⟩ rfl (Nat.le_of_ble_eq_true rfl) ?_
  obtain ⟨r3, hc4, hf⟩ := q_bd hf
  refine z_cSi C (st := []) (c_X11_kindOf  hc4) mw_X11_kindOf ml_X11_175 dX11_item_4 rfl rfl rfl ⟨Nat.le_of_ble_eq_true rfl, Nat.le_of_ble_eq_true rfl⟩ rfl (Nat.le_of_ble_eq_true rfl) ?_
  refine z_istore_n C (lv2 := [(1, .int r3.2), (0, .ref (g.1 o0))]) dX11_item_7 rfl (by decide) rfl ?_
  refine z_iload_n C dX11_item_8 rfl 0 rfl ?_
  exact z_if_ge C dX11_item_9 (by decide) (fun h => z_sub [1, 0] rfl (b_X11_item_21 C hr hk r3.1 o0 r3.2 ho0 (q_t hf h))) (fun h => z_sub [1] rfl (b_X11_item_12 C hr hk r3.1 o0 ho0 (q_f hf h)))
def f_X11_item (z : St) (o0 : Nat) : Option (St) := f_X11_item_0 z o0
theorem c_X11_item {l : Launch} {g : Ga} {A : Nat → Prop} {z : St} {o0 : Nat} (ho0 : kd o0 = 11) {res : St} (hf : f_X11_item z o0 = some res) : CV l g A yX11_item cX11_item 3 none rm_X11_item [.ref (g.1 o0)] z res :=
  e_CV (by decide) (Nat.le_of_ble_eq_true rfl) rfl (fun p e s m args below meth c C hr hk => z_sub [0] rfl (b_X11_item_0 C hr hk z o0 ho0 hf))
abbrev rm_X11_text : Room := { frames := 4, cells := 0, slots := 0, locals := 88 }
def f_X11_text_63 (K32 : St → Nat → Option (St × Int32)) (z : St) (o0 : Nat) : Option (St × Int32) :=
  ((f_X11_item z o0).bind fun r1 => K32 r1 o0)
theorem b_X11_text_63 {p : Program} {l : Launch} {e : Env} {s : State} {m : MethodId} {args : Array Value} {below : List Frame} {meth : Method} {c : Code} {g : Ga} {A : Nat → Prop} (C : Cx l g A p s m args c cX11_text 2 RX11 (rm_X11_text) (0, 0)) (hr : meth.sig.returnType = (some .int)) (hk : meth.locks = false) {K32 : St → Nat → Option (St × Int32)} (hK32 : ∀ (z : St) (o0 : Nat) (_ : kd o0 = 11) {res : St × Int32}, K32 z o0 = some res → Zj p l e (rm_X11_text) s m args below meth c g A 2 (0, 0) (QI g A below args s res) z 32 [(0, .ref (g.1 o0))] []) (z : St) (o0 : Nat) (ho0 : kd o0 = 11) {res : St × Int32} (hf : f_X11_text_63 K32 z o0 = some res) : Zj p l e (rm_X11_text) s m args below meth c g A 2 (0, 0) (QI g A below args s res) z 63 [(0, .ref (g.1 o0))] [] := by
  unfold f_X11_text_63 at hf
  refine z_aload_n C dX11_text_63 rfl 0 rfl ?_
  obtain ⟨r1, hc2, hf⟩ := q_bd hf
  refine z_cVv C (st := []) (c_X11_item ho0 hc2) mw_X11_item ml_X11_187 ho0 (by decide) rfl dX11_text_64 rfl rfl rfl ⟨Nat.le_of_ble_eq_true rfl, Nat.le_of_ble_eq_true rfl⟩ rfl (Nat.le_of_ble_eq_true rfl) ?_
  exact z_goto C dX11_text_67 (by decide) (z_sub [0] rfl (hK32 r1 o0 ho0 hf))
def f_X11_text_50 (K32 : St → Nat → Option (St × Int32)) (z : St) (o0 : Nat) : Option (St × Int32) :=
  ((f_X11_takes z o0 59).bind fun r1 => if 0 ≤ (r1.1 o0 10) then K32 r1 o0 else f_X11_text_63 K32 r1 o0)
theorem b_X11_text_50 {p : Program} {l : Launch} {e : Env} {s : State} {m : MethodId} {args : Array Value} {below : List Frame} {meth : Method} {c : Code} {g : Ga} {A : Nat → Prop} (C : Cx l g A p s m args c cX11_text 2 RX11 (rm_X11_text) (0, 0)) (hr : meth.sig.returnType = (some .int)) (hk : meth.locks = false) {K32 : St → Nat → Option (St × Int32)} (hK32 : ∀ (z : St) (o0 : Nat) (_ : kd o0 = 11) {res : St × Int32}, K32 z o0 = some res → Zj p l e (rm_X11_text) s m args below meth c g A 2 (0, 0) (QI g A below args s res) z 32 [(0, .ref (g.1 o0))] []) (z : St) (o0 : Nat) (ho0 : kd o0 = 11) {res : St × Int32} (hf : f_X11_text_50 K32 z o0 = some res) : Zj p l e (rm_X11_text) s m args below meth c g A 2 (0, 0) (QI g A below args s res) z 50 [(0, .ref (g.1 o0))] [] := by
  unfold f_X11_text_50 at hf
  refine z_aload_n C dX11_text_50 rfl 0 rfl ?_
  refine z_bipush C dX11_text_51 (v := 59) (by decide) ?_
  obtain ⟨r1, hc2, hf⟩ := q_bd hf
  refine z_cVv C (st := []) (c_X11_takes ho0 hc2) mw_X11_takes ml_X11_181 ho0 (by decide) rfl dX11_text_53 rfl rfl rfl ⟨Nat.le_of_ble_eq_true rfl, Nat.le_of_ble_eq_true rfl⟩ rfl (Nat.le_of_ble_eq_true rfl) ?_
  refine z_aload_n C dX11_text_56 rfl 0 rfl ?_
  refine gf_X11_164 C dX11_text_57 ho0 ?_
  exact z_if_ge C dX11_text_60 (by decide) (fun h => z_sub [0] rfl (hK32 r1 o0 ho0 (q_t hf h))) (fun h => z_sub [0] rfl (b_X11_text_63 C hr hk hK32 r1 o0 ho0 (q_f hf h)))
def f_X11_text_77  (z : St) (o0 : Nat) : Option (St × Int32) :=
  some (z, ((-100)) - (z.1 o0 10))
theorem b_X11_text_77 {p : Program} {l : Launch} {e : Env} {s : State} {m : MethodId} {args : Array Value} {below : List Frame} {meth : Method} {c : Code} {g : Ga} {A : Nat → Prop} (C : Cx l g A p s m args c cX11_text 2 RX11 (rm_X11_text) (0, 0)) (hr : meth.sig.returnType = (some .int)) (hk : meth.locks = false)   (z : St) (o0 : Nat) (ho0 : kd o0 = 11) {res : St × Int32} (hf : f_X11_text_77  z o0 = some res) : Zj p l e (rm_X11_text) s m args below meth c g A 2 (0, 0) (QI g A below args s res) z 77 [(0, .ref (g.1 o0))] [] := by
  unfold f_X11_text_77 at hf
  refine z_bipush C dX11_text_77 (v := (-100)) (by decide) ?_
  refine z_aload_n C dX11_text_79 rfl 0 rfl ?_
  refine gf_X11_164 C dX11_text_80 ho0 ?_
  refine z_isub C dX11_text_83 ?_
  cases hf
  exact z_iret C hr hk dX11_text_84
def f_X11_text_99  (z : St)  : Option (St × Int32) :=
  some (z, (-4))
theorem b_X11_text_99 {p : Program} {l : Launch} {e : Env} {s : State} {m : MethodId} {args : Array Value} {below : List Frame} {meth : Method} {c : Code} {g : Ga} {A : Nat → Prop} (C : Cx l g A p s m args c cX11_text 2 RX11 (rm_X11_text) (0, 0)) (hr : meth.sig.returnType = (some .int)) (hk : meth.locks = false)   (z : St)   {res : St × Int32} (hf : f_X11_text_99  z  = some res) : Zj p l e (rm_X11_text) s m args below meth c g A 2 (0, 0) (QI g A below args s res) z 99 [] [] := by
  unfold f_X11_text_99 at hf
  refine z_bipush C dX11_text_99 (v := (-4)) (by decide) ?_
  cases hf
  exact z_iret C hr hk dX11_text_101
def f_X11_text_112 (K104 : St → Nat → Int32 → Option (St × Int32)) (z : St) (o0 : Nat) (x1 : Int32) : Option (St × Int32) :=
  if inb (4 * x1) 120 = true then (if inb ((4 * x1) + 1) 120 = true then (if inb ((4 * x1) + 2) 120 = true then (if inb ((4 * x1) + 3) 120 = true then (((f_X11_adds z o0 (z.1 (rf o0 12) (Int32.toNatClampNeg (4 * x1))) (z.1 (rf o0 12) (Int32.toNatClampNeg ((4 * x1) + 1))) (z.1 (rf o0 12) (Int32.toNatClampNeg ((4 * x1) + 2))) (z.1 (rf o0 12) (Int32.toNatClampNeg ((4 * x1) + 3)))).bind fun r5 => K104 r5 o0 (x1 + 1))) else none) else none) else none) else none
theorem b_X11_text_112 {p : Program} {l : Launch} {e : Env} {s : State} {m : MethodId} {args : Array Value} {below : List Frame} {meth : Method} {c : Code} {g : Ga} {A : Nat → Prop} (C : Cx l g A p s m args c cX11_text 2 RX11 (rm_X11_text) (0, 0)) (hr : meth.sig.returnType = (some .int)) (hk : meth.locks = false) {K104 : St → Nat → Int32 → Option (St × Int32)} (hK104 : ∀ (z : St) (o0 : Nat) (x1 : Int32) (_ : kd o0 = 11) {res : St × Int32}, K104 z o0 x1 = some res → Zj p l e (rm_X11_text) s m args below meth c g A 2 (0, 0) (QI g A below args s res) z 104 [(0, .ref (g.1 o0)), (1, .int x1)] []) (z : St) (o0 : Nat) (x1 : Int32) (ho0 : kd o0 = 11) {res : St × Int32} (hf : f_X11_text_112 K104 z o0 x1 = some res) : Zj p l e (rm_X11_text) s m args below meth c g A 2 (0, 0) (QI g A below args s res) z 112 [(0, .ref (g.1 o0)), (1, .int x1)] [] := by
  unfold f_X11_text_112 at hf
  refine z_aload_n C dX11_text_112 rfl 0 rfl ?_
  refine z_aload_n C dX11_text_113 rfl 0 rfl ?_
  refine gf_X11_25 C dX11_text_114 ho0 ?_
  refine z_iconst C dX11_text_117 (v := 4) (by decide) ?_
  refine z_iload_n C dX11_text_118 rfl 1 rfl ?_
  refine z_imul C dX11_text_119 ?_
  obtain ⟨h1, hf⟩ := q_ck hf
  refine z_iald C (n := 120) dX11_text_120 (rt_11_12 _ (kd_lt ho0 (by decide)) ho0) (by decide) h1 ?_
  refine z_aload_n C dX11_text_121 rfl 0 rfl ?_
  refine gf_X11_25 C dX11_text_122 ho0 ?_
  refine z_iconst C dX11_text_125 (v := 4) (by decide) ?_
  refine z_iload_n C dX11_text_126 rfl 1 rfl ?_
  refine z_imul C dX11_text_127 ?_
  refine z_iconst C dX11_text_128 (v := 1) (by decide) ?_
  refine z_iadd C dX11_text_129 ?_
  obtain ⟨h2, hf⟩ := q_ck hf
  refine z_iald C (n := 120) dX11_text_130 (rt_11_12 _ (kd_lt ho0 (by decide)) ho0) (by decide) h2 ?_
  refine z_aload_n C dX11_text_131 rfl 0 rfl ?_
  refine gf_X11_25 C dX11_text_132 ho0 ?_
  refine z_iconst C dX11_text_135 (v := 4) (by decide) ?_
  refine z_iload_n C dX11_text_136 rfl 1 rfl ?_
  refine z_imul C dX11_text_137 ?_
  refine z_iconst C dX11_text_138 (v := 2) (by decide) ?_
  refine z_iadd C dX11_text_139 ?_
  obtain ⟨h3, hf⟩ := q_ck hf
  refine z_iald C (n := 120) dX11_text_140 (rt_11_12 _ (kd_lt ho0 (by decide)) ho0) (by decide) h3 ?_
  refine z_aload_n C dX11_text_141 rfl 0 rfl ?_
  refine gf_X11_25 C dX11_text_142 ho0 ?_
  refine z_iconst C dX11_text_145 (v := 4) (by decide) ?_
  refine z_iload_n C dX11_text_146 rfl 1 rfl ?_
  refine z_imul C dX11_text_147 ?_
  refine z_iconst C dX11_text_148 (v := 3) (by decide) ?_
  refine z_iadd C dX11_text_149 ?_
  obtain ⟨h4, hf⟩ := q_ck hf
  refine z_iald C (n := 120) dX11_text_150 (rt_11_12 _ (kd_lt ho0 (by decide)) ho0) (by decide) h4 ?_
  obtain ⟨r5, hc6, hf⟩ := q_bd hf
  refine z_cVv C (st := []) (c_X11_adds ho0 hc6) mw_X11_adds ml_X11_135 ho0 (by decide) rfl dX11_text_151 rfl rfl rfl ⟨Nat.le_of_ble_eq_true rfl, Nat.le_of_ble_eq_true rfl⟩ rfl (Nat.le_of_ble_eq_true rfl) ?_
  refine z_iinc C (k := 1) (v := x1 + 1) (lv2 := [(1, .int (x1 + 1)), (0, .ref (g.1 o0))]) dX11_text_154 rfl rfl (by decide) rfl ?_
  exact z_goto C dX11_text_157 (by decide) (z_sub [1, 0] rfl (hK104 r5 o0 (x1 + 1) ho0 hf))
def f_X11_text_160  (z : St) (o0 : Nat) : Option (St × Int32) :=
  ((f_X11_anew z o0).bind fun r1 => some (r1, r1.1 o0 5))
theorem b_X11_text_160 {p : Program} {l : Launch} {e : Env} {s : State} {m : MethodId} {args : Array Value} {below : List Frame} {meth : Method} {c : Code} {g : Ga} {A : Nat → Prop} (C : Cx l g A p s m args c cX11_text 2 RX11 (rm_X11_text) (0, 0)) (hr : meth.sig.returnType = (some .int)) (hk : meth.locks = false)   (z : St) (o0 : Nat) (ho0 : kd o0 = 11) {res : St × Int32} (hf : f_X11_text_160  z o0 = some res) : Zj p l e (rm_X11_text) s m args below meth c g A 2 (0, 0) (QI g A below args s res) z 160 [(0, .ref (g.1 o0))] [] := by
  unfold f_X11_text_160 at hf
  refine z_aload_n C dX11_text_160 rfl 0 rfl ?_
  obtain ⟨r1, hc2, hf⟩ := q_bd hf
  refine z_cVv C (st := []) (c_X11_anew ho0 hc2) mw_X11_anew ml_X11_105 ho0 (by decide) rfl dX11_text_161 rfl rfl rfl ⟨Nat.le_of_ble_eq_true rfl, Nat.le_of_ble_eq_true rfl⟩ rfl (Nat.le_of_ble_eq_true rfl) ?_
  refine z_aload_n C dX11_text_164 rfl 0 rfl ?_
  refine gf_X11_111 C dX11_text_165 ho0 ?_
  cases hf
  exact z_iret C hr hk dX11_text_168
def f_X11_text_104  : Nat → St → Nat → Int32 → Option (St × Int32)
  | 0, _, _, _ => none
  | n + 1, z, o0, x1 => if (z.1 o0 11) ≤ x1 then f_X11_text_160 z o0 else f_X11_text_112 (f_X11_text_104 n) z o0 x1
theorem b_X11_text_104 {p : Program} {l : Launch} {e : Env} {s : State} {m : MethodId} {args : Array Value} {below : List Frame} {meth : Method} {c : Code} {g : Ga} {A : Nat → Prop} (C : Cx l g A p s m args c cX11_text 2 RX11 (rm_X11_text) (0, 0)) (hr : meth.sig.returnType = (some .int)) (hk : meth.locks = false)   : ∀ (n : Nat) (z : St) (o0 : Nat) (x1 : Int32) (_ : kd o0 = 11) {res : St × Int32} (_ : f_X11_text_104  n z o0 x1 = some res), Zj p l e (rm_X11_text) s m args below meth c g A 2 (0, 0) (QI g A below args s res) z 104 [(0, .ref (g.1 o0)), (1, .int x1)] [] := by
  intro n
  induction n with
  | zero =>
    intro z o0 x1 ho0 res hf
    cases hf
  | succ n ih =>
    intro z o0 x1 ho0 res hf
    rw [f_X11_text_104] at hf
    refine z_iload_n C dX11_text_104 rfl 1 rfl ?_
    refine z_aload_n C dX11_text_105 rfl 0 rfl ?_
    refine gf_X11_178 C dX11_text_106 ho0 ?_
    exact z_icmp_ge C dX11_text_109 (by decide) (fun h => z_sub [0] rfl (b_X11_text_160 C hr hk z o0 ho0 (q_t hf h))) (fun h => z_sub [0, 1] rfl (b_X11_text_112 C hr hk ih z o0 x1 ho0 (q_f hf h)))
def f_X11_text_102  (z : St) (o0 : Nat) : Option (St × Int32) :=
  f_X11_text_104 FU z o0 0
theorem b_X11_text_102 {p : Program} {l : Launch} {e : Env} {s : State} {m : MethodId} {args : Array Value} {below : List Frame} {meth : Method} {c : Code} {g : Ga} {A : Nat → Prop} (C : Cx l g A p s m args c cX11_text 2 RX11 (rm_X11_text) (0, 0)) (hr : meth.sig.returnType = (some .int)) (hk : meth.locks = false)   (z : St) (o0 : Nat) (ho0 : kd o0 = 11) {res : St × Int32} (hf : f_X11_text_102  z o0 = some res) : Zj p l e (rm_X11_text) s m args below meth c g A 2 (0, 0) (QI g A below args s res) z 102 [(0, .ref (g.1 o0))] [] := by
  unfold f_X11_text_102 at hf
  refine z_iconst C dX11_text_102 (v := 0) (by decide) ?_
  refine z_istore_n C (lv2 := [(1, .int 0), (0, .ref (g.1 o0))]) dX11_text_103 rfl (by decide) rfl ?_
  exact z_sub [1, 0] rfl (b_X11_text_104 C hr hk FU z o0 0 ho0 hf)
def f_X11_text_85  (z : St) (o0 : Nat) : Option (St × Int32) :=
  if ((z.1 o0 5) + (z.1 o0 11)) ≤ 8 then f_X11_text_102 z o0 else f_X11_text_99 z
theorem b_X11_text_85 {p : Program} {l : Launch} {e : Env} {s : State} {m : MethodId} {args : Array Value} {below : List Frame} {meth : Method} {c : Code} {g : Ga} {A : Nat → Prop} (C : Cx l g A p s m args c cX11_text 2 RX11 (rm_X11_text) (0, 0)) (hr : meth.sig.returnType = (some .int)) (hk : meth.locks = false)   (z : St) (o0 : Nat) (ho0 : kd o0 = 11) {res : St × Int32} (hf : f_X11_text_85  z o0 = some res) : Zj p l e (rm_X11_text) s m args below meth c g A 2 (0, 0) (QI g A below args s res) z 85 [(0, .ref (g.1 o0))] [] := by
  unfold f_X11_text_85 at hf
  refine z_aload_n C dX11_text_85 rfl 0 rfl ?_
  refine gf_X11_111 C dX11_text_86 ho0 ?_
  refine z_aload_n C dX11_text_89 rfl 0 rfl ?_
  refine gf_X11_178 C dX11_text_90 ho0 ?_
  refine z_iadd C dX11_text_93 ?_
  refine z_bipush C dX11_text_94 (v := 8) (by decide) ?_
  exact z_icmp_le C dX11_text_96 (by decide) (fun h => z_sub [0] rfl (b_X11_text_102 C hr hk z o0 ho0 (q_t hf h))) (fun h => z_sub [] rfl (b_X11_text_99 C hr hk z (q_f hf h)))
def f_X11_text_70  (z : St) (o0 : Nat) : Option (St × Int32) :=
  if (z.1 o0 10) < 0 then f_X11_text_85 z o0 else f_X11_text_77 z o0
theorem b_X11_text_70 {p : Program} {l : Launch} {e : Env} {s : State} {m : MethodId} {args : Array Value} {below : List Frame} {meth : Method} {c : Code} {g : Ga} {A : Nat → Prop} (C : Cx l g A p s m args c cX11_text 2 RX11 (rm_X11_text) (0, 0)) (hr : meth.sig.returnType = (some .int)) (hk : meth.locks = false)   (z : St) (o0 : Nat) (ho0 : kd o0 = 11) {res : St × Int32} (hf : f_X11_text_70  z o0 = some res) : Zj p l e (rm_X11_text) s m args below meth c g A 2 (0, 0) (QI g A below args s res) z 70 [(0, .ref (g.1 o0))] [] := by
  unfold f_X11_text_70 at hf
  refine z_aload_n C dX11_text_70 rfl 0 rfl ?_
  refine gf_X11_164 C dX11_text_71 ho0 ?_
  exact z_if_lt C dX11_text_74 (by decide) (fun h => z_sub [0] rfl (b_X11_text_85 C hr hk z o0 ho0 (q_t hf h))) (fun h => z_sub [0] rfl (b_X11_text_77 C hr hk z o0 ho0 (q_f hf h)))
def f_X11_text_39 (K32 : St → Nat → Option (St × Int32)) (z : St) (o0 : Nat) : Option (St × Int32) :=
  if (z.1 o0 9) ≤ (z.1 o0 8) then f_X11_text_70 z o0 else f_X11_text_50 K32 z o0
theorem b_X11_text_39 {p : Program} {l : Launch} {e : Env} {s : State} {m : MethodId} {args : Array Value} {below : List Frame} {meth : Method} {c : Code} {g : Ga} {A : Nat → Prop} (C : Cx l g A p s m args c cX11_text 2 RX11 (rm_X11_text) (0, 0)) (hr : meth.sig.returnType = (some .int)) (hk : meth.locks = false) {K32 : St → Nat → Option (St × Int32)} (hK32 : ∀ (z : St) (o0 : Nat) (_ : kd o0 = 11) {res : St × Int32}, K32 z o0 = some res → Zj p l e (rm_X11_text) s m args below meth c g A 2 (0, 0) (QI g A below args s res) z 32 [(0, .ref (g.1 o0))] []) (z : St) (o0 : Nat) (ho0 : kd o0 = 11) {res : St × Int32} (hf : f_X11_text_39 K32 z o0 = some res) : Zj p l e (rm_X11_text) s m args below meth c g A 2 (0, 0) (QI g A below args s res) z 39 [(0, .ref (g.1 o0))] [] := by
  unfold f_X11_text_39 at hf
  refine z_aload_n C dX11_text_39 rfl 0 rfl ?_
  refine gf_X11_158 C dX11_text_40 ho0 ?_
  refine z_aload_n C dX11_text_43 rfl 0 rfl ?_
  refine gf_X11_161 C dX11_text_44 ho0 ?_
  exact z_icmp_ge C dX11_text_47 (by decide) (fun h => z_sub [0] rfl (b_X11_text_70 C hr hk z o0 ho0 (q_t hf h))) (fun h => z_sub [0] rfl (b_X11_text_50 C hr hk hK32 z o0 ho0 (q_f hf h)))
def f_X11_text_32  : Nat → St → Nat → Option (St × Int32)
  | 0, _, _ => none
  | n + 1, z, o0 => if 0 ≤ (z.1 o0 10) then f_X11_text_70 z o0 else f_X11_text_39 (f_X11_text_32 n) z o0
theorem b_X11_text_32 {p : Program} {l : Launch} {e : Env} {s : State} {m : MethodId} {args : Array Value} {below : List Frame} {meth : Method} {c : Code} {g : Ga} {A : Nat → Prop} (C : Cx l g A p s m args c cX11_text 2 RX11 (rm_X11_text) (0, 0)) (hr : meth.sig.returnType = (some .int)) (hk : meth.locks = false)   : ∀ (n : Nat) (z : St) (o0 : Nat) (_ : kd o0 = 11) {res : St × Int32} (_ : f_X11_text_32  n z o0 = some res), Zj p l e (rm_X11_text) s m args below meth c g A 2 (0, 0) (QI g A below args s res) z 32 [(0, .ref (g.1 o0))] [] := by
  intro n
  induction n with
  | zero =>
    intro z o0 ho0 res hf
    cases hf
  | succ n ih =>
    intro z o0 ho0 res hf
    rw [f_X11_text_32] at hf
    refine z_aload_n C dX11_text_32 rfl 0 rfl ?_
    refine gf_X11_164 C dX11_text_33 ho0 ?_
    exact z_if_ge C dX11_text_36 (by decide) (fun h => z_sub [0] rfl (b_X11_text_70 C hr hk z o0 ho0 (q_t hf h))) (fun h => z_sub [0] rfl (b_X11_text_39 C hr hk ih z o0 ho0 (q_f hf h)))
def f_X11_text_0  (z : St) (o0 : Nat) : Option (St × Int32) :=
  ((f_X11_item (zI (zI (zI (zI (zI z o0 9 (z.1 o0 7)) o0 7 0) o0 8 0) o0 10 ((-1))) o0 11 0) o0).bind fun r1 => f_X11_text_32 FU r1 o0)
theorem b_X11_text_0 {p : Program} {l : Launch} {e : Env} {s : State} {m : MethodId} {args : Array Value} {below : List Frame} {meth : Method} {c : Code} {g : Ga} {A : Nat → Prop} (C : Cx l g A p s m args c cX11_text 2 RX11 (rm_X11_text) (0, 0)) (hr : meth.sig.returnType = (some .int)) (hk : meth.locks = false)   (z : St) (o0 : Nat) (ho0 : kd o0 = 11) {res : St × Int32} (hf : f_X11_text_0  z o0 = some res) : Zj p l e (rm_X11_text) s m args below meth c g A 2 (0, 0) (QI g A below args s res) z 0 [(0, .ref (g.1 o0))] [] := by
  unfold f_X11_text_0 at hf
  refine z_aload_n C dX11_text_0 rfl 0 rfl ?_
  refine z_aload_n C dX11_text_1 rfl 0 rfl ?_
  refine gf_X11_155 C dX11_text_2 ho0 ?_
  refine pf_X11_161 C dX11_text_5 ho0 ?_
  refine z_aload_n C dX11_text_8 rfl 0 rfl ?_
  refine z_iconst C dX11_text_9 (v := 0) (by decide) ?_
  refine pf_X11_155 C dX11_text_10 ho0 ?_
  refine z_aload_n C dX11_text_13 rfl 0 rfl ?_
  refine z_iconst C dX11_text_14 (v := 0) (by decide) ?_
  refine pf_X11_158 C dX11_text_15 ho0 ?_
  refine z_aload_n C dX11_text_18 rfl 0 rfl ?_
  refine z_iconst C dX11_text_19 (v := (-1)) (by decide) ?_
  refine pf_X11_164 C dX11_text_20 ho0 ?_
  refine z_aload_n C dX11_text_23 rfl 0 rfl ?_
  refine z_iconst C dX11_text_24 (v := 0) (by decide) ?_
  refine pf_X11_178 C dX11_text_25 ho0 ?_
  refine z_aload_n C dX11_text_28 rfl 0 rfl ?_
  obtain ⟨r1, hc2, hf⟩ := q_bd hf
  refine z_cVv C (st := []) (c_X11_item ho0 hc2) mw_X11_item ml_X11_187 ho0 (by decide) rfl dX11_text_29 rfl rfl rfl ⟨Nat.le_of_ble_eq_true rfl, Nat.le_of_ble_eq_true rfl⟩ rfl (Nat.le_of_ble_eq_true rfl) ?_
  exact z_sub [0] rfl (b_X11_text_32 C hr hk FU r1 o0 ho0 hf)
def f_X11_text (z : St) (o0 : Nat) : Option (St × Int32) := f_X11_text_0 z o0
theorem c_X11_text {l : Launch} {g : Ga} {A : Nat → Prop} {z : St} {o0 : Nat} (ho0 : kd o0 = 11) {res : St × Int32} (hf : f_X11_text z o0 = some res) : CI l g A yX11_text cX11_text 2 (some .int) rm_X11_text [.ref (g.1 o0)] z res :=
  e_CI (by decide) (Nat.le_of_ble_eq_true rfl) rfl (fun p e s m args below meth c C hr hk => z_sub [0] rfl (b_X11_text_0 C hr hk z o0 ho0 hf))
abbrev rm_X11_thinks : Room := { frames := 3, cells := 0, slots := 0, locals := 64 }
def f_X11_thinks_10 (K2 : St → Nat → Int32 → Option (St)) (z : St) (o0 : Nat) (x1 : Int32) : Option (St) :=
  ((f_X11_comesOf z o0 x1).bind fun r1 => if inb x1 8 = true then (((f_X11_takesOf (zI r1.1 (rf o0 13) (Int32.toNatClampNeg x1) r1.2) o0 x1).bind fun r4 => if inb x1 8 = true then (((f_X11_coolsOf (zI r4.1 (rf o0 14) (Int32.toNatClampNeg x1) r4.2) o0 x1).bind fun r7 => if inb x1 8 = true then (K2 (zI r7.1 (rf o0 15) (Int32.toNatClampNeg x1) r7.2) o0 (x1 + 1)) else none)) else none)) else none)
theorem b_X11_thinks_10 {p : Program} {l : Launch} {e : Env} {s : State} {m : MethodId} {args : Array Value} {below : List Frame} {meth : Method} {c : Code} {g : Ga} {A : Nat → Prop} (C : Cx l g A p s m args c cX11_thinks 2 RX11 (rm_X11_thinks) (0, 0)) (hr : meth.sig.returnType = none) (hk : meth.locks = false) {K2 : St → Nat → Int32 → Option (St)} (hK2 : ∀ (z : St) (o0 : Nat) (x1 : Int32) (_ : kd o0 = 11) {res : St}, K2 z o0 x1 = some res → Zj p l e (rm_X11_thinks) s m args below meth c g A 2 (0, 0) (QV g A below args s res) z 2 [(0, .ref (g.1 o0)), (1, .int x1)] []) (z : St) (o0 : Nat) (x1 : Int32) (ho0 : kd o0 = 11) {res : St} (hf : f_X11_thinks_10 K2 z o0 x1 = some res) : Zj p l e (rm_X11_thinks) s m args below meth c g A 2 (0, 0) (QV g A below args s res) z 10 [(0, .ref (g.1 o0)), (1, .int x1)] [] := by
  unfold f_X11_thinks_10 at hf
  refine z_aload_n C dX11_thinks_10 rfl 0 rfl ?_
  refine gf_X11_28 C dX11_thinks_11 ho0 ?_
  refine z_iload_n C dX11_thinks_14 rfl 1 rfl ?_
  refine z_aload_n C dX11_thinks_15 rfl 0 rfl ?_
  refine z_iload_n C dX11_thinks_16 rfl 1 rfl ?_
  obtain ⟨r1, hc2, hf⟩ := q_bd hf
  refine z_cVi C (st := [.int x1, .ref (g.1 (rf o0 13))]) (c_X11_comesOf ho0 hc2) mw_X11_comesOf ml_X11_139 ho0 (by decide) rfl dX11_thinks_17 rfl rfl rfl ⟨Nat.le_of_ble_eq_true rfl, Nat.le_of_ble_eq_true rfl⟩ rfl (Nat.le_of_ble_eq_true rfl) ?_
  obtain ⟨h3, hf⟩ := q_ck hf
  refine z_iast C (n := 8) dX11_thinks_20 (rt_11_13 _ (kd_lt ho0 (by decide)) ho0) (by decide) h3 ?_
  refine z_aload_n C dX11_thinks_21 rfl 0 rfl ?_
  refine gf_X11_31 C dX11_thinks_22 ho0 ?_
  refine z_iload_n C dX11_thinks_25 rfl 1 rfl ?_
  refine z_aload_n C dX11_thinks_26 rfl 0 rfl ?_
  refine z_iload_n C dX11_thinks_27 rfl 1 rfl ?_
  obtain ⟨r4, hc5, hf⟩ := q_bd hf
  refine z_cVi C (st := [.int x1, .ref (g.1 (rf o0 14))]) (c_X11_takesOf ho0 hc5) mw_X11_takesOf ml_X11_142 ho0 (by decide) rfl dX11_thinks_28 rfl rfl rfl ⟨Nat.le_of_ble_eq_true rfl, Nat.le_of_ble_eq_true rfl⟩ rfl (Nat.le_of_ble_eq_true rfl) ?_
  obtain ⟨h6, hf⟩ := q_ck hf
  refine z_iast C (n := 8) dX11_thinks_31 (rt_11_14 _ (kd_lt ho0 (by decide)) ho0) (by decide) h6 ?_
  refine z_aload_n C dX11_thinks_32 rfl 0 rfl ?_
  refine gf_X11_34 C dX11_thinks_33 ho0 ?_
  refine z_iload_n C dX11_thinks_36 rfl 1 rfl ?_
  refine z_aload_n C dX11_thinks_37 rfl 0 rfl ?_
  refine z_iload_n C dX11_thinks_38 rfl 1 rfl ?_
  obtain ⟨r7, hc8, hf⟩ := q_bd hf
  refine z_cVi C (st := [.int x1, .ref (g.1 (rf o0 15))]) (c_X11_coolsOf ho0 hc8) mw_X11_coolsOf ml_X11_145 ho0 (by decide) rfl dX11_thinks_39 rfl rfl rfl ⟨Nat.le_of_ble_eq_true rfl, Nat.le_of_ble_eq_true rfl⟩ rfl (Nat.le_of_ble_eq_true rfl) ?_
  obtain ⟨h9, hf⟩ := q_ck hf
  refine z_iast C (n := 8) dX11_thinks_42 (rt_11_15 _ (kd_lt ho0 (by decide)) ho0) (by decide) h9 ?_
  refine z_iinc C (k := 1) (v := x1 + 1) (lv2 := [(1, .int (x1 + 1)), (0, .ref (g.1 o0))]) dX11_thinks_43 rfl rfl (by decide) rfl ?_
  exact z_goto C dX11_thinks_46 (by decide) (z_sub [1, 0] rfl (hK2 (zI r7.1 (rf o0 15) (Int32.toNatClampNeg x1) r7.2) o0 (x1 + 1) ho0 hf))
def f_X11_thinks_49  (z : St)  : Option (St) :=
  some z
theorem b_X11_thinks_49 {p : Program} {l : Launch} {e : Env} {s : State} {m : MethodId} {args : Array Value} {below : List Frame} {meth : Method} {c : Code} {g : Ga} {A : Nat → Prop} (C : Cx l g A p s m args c cX11_thinks 2 RX11 (rm_X11_thinks) (0, 0)) (hr : meth.sig.returnType = none) (hk : meth.locks = false)   (z : St)   {res : St} (hf : f_X11_thinks_49  z  = some res) : Zj p l e (rm_X11_thinks) s m args below meth c g A 2 (0, 0) (QV g A below args s res) z 49 [] [] := by
  unfold f_X11_thinks_49 at hf
  cases hf
  exact z_vret C hr hk dX11_thinks_49
def f_X11_thinks_2  : Nat → St → Nat → Int32 → Option (St)
  | 0, _, _, _ => none
  | n + 1, z, o0, x1 => if (z.1 o0 5) ≤ x1 then f_X11_thinks_49 z else f_X11_thinks_10 (f_X11_thinks_2 n) z o0 x1
theorem b_X11_thinks_2 {p : Program} {l : Launch} {e : Env} {s : State} {m : MethodId} {args : Array Value} {below : List Frame} {meth : Method} {c : Code} {g : Ga} {A : Nat → Prop} (C : Cx l g A p s m args c cX11_thinks 2 RX11 (rm_X11_thinks) (0, 0)) (hr : meth.sig.returnType = none) (hk : meth.locks = false)   : ∀ (n : Nat) (z : St) (o0 : Nat) (x1 : Int32) (_ : kd o0 = 11) {res : St} (_ : f_X11_thinks_2  n z o0 x1 = some res), Zj p l e (rm_X11_thinks) s m args below meth c g A 2 (0, 0) (QV g A below args s res) z 2 [(0, .ref (g.1 o0)), (1, .int x1)] [] := by
  intro n
  induction n with
  | zero =>
    intro z o0 x1 ho0 res hf
    cases hf
  | succ n ih =>
    intro z o0 x1 ho0 res hf
    rw [f_X11_thinks_2] at hf
    refine z_iload_n C dX11_thinks_2 rfl 1 rfl ?_
    refine z_aload_n C dX11_thinks_3 rfl 0 rfl ?_
    refine gf_X11_111 C dX11_thinks_4 ho0 ?_
    exact z_icmp_ge C dX11_thinks_7 (by decide) (fun h => z_sub [] rfl (b_X11_thinks_49 C hr hk z (q_t hf h))) (fun h => z_sub [0, 1] rfl (b_X11_thinks_10 C hr hk ih z o0 x1 ho0 (q_f hf h)))
def f_X11_thinks_0  (z : St) (o0 : Nat) : Option (St) :=
  f_X11_thinks_2 FU z o0 0
theorem b_X11_thinks_0 {p : Program} {l : Launch} {e : Env} {s : State} {m : MethodId} {args : Array Value} {below : List Frame} {meth : Method} {c : Code} {g : Ga} {A : Nat → Prop} (C : Cx l g A p s m args c cX11_thinks 2 RX11 (rm_X11_thinks) (0, 0)) (hr : meth.sig.returnType = none) (hk : meth.locks = false)   (z : St) (o0 : Nat) (ho0 : kd o0 = 11) {res : St} (hf : f_X11_thinks_0  z o0 = some res) : Zj p l e (rm_X11_thinks) s m args below meth c g A 2 (0, 0) (QV g A below args s res) z 0 [(0, .ref (g.1 o0))] [] := by
  unfold f_X11_thinks_0 at hf
  refine z_iconst C dX11_thinks_0 (v := 0) (by decide) ?_
  refine z_istore_n C (lv2 := [(1, .int 0), (0, .ref (g.1 o0))]) dX11_thinks_1 rfl (by decide) rfl ?_
  exact z_sub [1, 0] rfl (b_X11_thinks_2 C hr hk FU z o0 0 ho0 hf)
def f_X11_thinks (z : St) (o0 : Nat) : Option (St) := f_X11_thinks_0 z o0
theorem c_X11_thinks {l : Launch} {g : Ga} {A : Nat → Prop} {z : St} {o0 : Nat} (ho0 : kd o0 = 11) {res : St} (hf : f_X11_thinks z o0 = some res) : CV l g A yX11_thinks cX11_thinks 2 none rm_X11_thinks [.ref (g.1 o0)] z res :=
  e_CV (by decide) (Nat.le_of_ble_eq_true rfl) rfl (fun p e s m args below meth c C hr hk => z_sub [0] rfl (b_X11_thinks_0 C hr hk z o0 ho0 hf))
abbrev rm_X11_isAhead : Room := { frames := 0, cells := 0, slots := 0, locals := 0 }
def f_X11_isAhead_35  (z : St) (s0 : Int32) : Option (St × Int32) :=
  if zb s0 = true then some (z, s0) else none
theorem b_X11_isAhead_35 {p : Program} {l : Launch} {e : Env} {s : State} {m : MethodId} {args : Array Value} {below : List Frame} {meth : Method} {c : Code} {g : Ga} {A : Nat → Prop} (C : Cx l g A p s m args c cX11_isAhead 3 RX11 (rm_X11_isAhead) (0, 0)) (hr : meth.sig.returnType = (some .boolean)) (hk : meth.locks = false)   (z : St) (s0 : Int32)  {res : St × Int32} (hf : f_X11_isAhead_35  z s0 = some res) : Zj p l e (rm_X11_isAhead) s m args below meth c g A 3 (0, 0) (QI g A below args s res) z 35 [] [.int s0] := by
  unfold f_X11_isAhead_35 at hf
  obtain ⟨h1, hf⟩ := q_ck hf
  cases hf
  exact z_zret C hr hk h1 dX11_isAhead_35
def f_X11_isAhead_30  (z : St)  : Option (St × Int32) :=
  f_X11_isAhead_35 z 1
theorem b_X11_isAhead_30 {p : Program} {l : Launch} {e : Env} {s : State} {m : MethodId} {args : Array Value} {below : List Frame} {meth : Method} {c : Code} {g : Ga} {A : Nat → Prop} (C : Cx l g A p s m args c cX11_isAhead 3 RX11 (rm_X11_isAhead) (0, 0)) (hr : meth.sig.returnType = (some .boolean)) (hk : meth.locks = false)   (z : St)   {res : St × Int32} (hf : f_X11_isAhead_30  z  = some res) : Zj p l e (rm_X11_isAhead) s m args below meth c g A 3 (0, 0) (QI g A below args s res) z 30 [] [] := by
  unfold f_X11_isAhead_30 at hf
  refine z_iconst C dX11_isAhead_30 (v := 1) (by decide) ?_
  exact z_goto C dX11_isAhead_31 (by decide) (z_sub [] rfl (b_X11_isAhead_35 C hr hk z 1 hf))
def f_X11_isAhead_34  (z : St)  : Option (St × Int32) :=
  f_X11_isAhead_35 z 0
theorem b_X11_isAhead_34 {p : Program} {l : Launch} {e : Env} {s : State} {m : MethodId} {args : Array Value} {below : List Frame} {meth : Method} {c : Code} {g : Ga} {A : Nat → Prop} (C : Cx l g A p s m args c cX11_isAhead 3 RX11 (rm_X11_isAhead) (0, 0)) (hr : meth.sig.returnType = (some .boolean)) (hk : meth.locks = false)   (z : St)   {res : St × Int32} (hf : f_X11_isAhead_34  z  = some res) : Zj p l e (rm_X11_isAhead) s m args below meth c g A 3 (0, 0) (QI g A below args s res) z 34 [] [] := by
  unfold f_X11_isAhead_34 at hf
  refine z_iconst C dX11_isAhead_34 (v := 0) (by decide) ?_
  exact z_sub [] rfl (b_X11_isAhead_35 C hr hk z 0 hf)
def f_X11_isAhead_15  (z : St) (o0 : Nat) (x1 : Int32) (x2 : Int32) : Option (St × Int32) :=
  if inb x1 8 = true then (if inb x2 8 = true then (if (z.1 (rf o0 15) (Int32.toNatClampNeg x1)) ≤ (z.1 (rf o0 15) (Int32.toNatClampNeg x2)) then f_X11_isAhead_34 z else f_X11_isAhead_30 z) else none) else none
theorem b_X11_isAhead_15 {p : Program} {l : Launch} {e : Env} {s : State} {m : MethodId} {args : Array Value} {below : List Frame} {meth : Method} {c : Code} {g : Ga} {A : Nat → Prop} (C : Cx l g A p s m args c cX11_isAhead 3 RX11 (rm_X11_isAhead) (0, 0)) (hr : meth.sig.returnType = (some .boolean)) (hk : meth.locks = false)   (z : St) (o0 : Nat) (x1 : Int32) (x2 : Int32) (ho0 : kd o0 = 11) {res : St × Int32} (hf : f_X11_isAhead_15  z o0 x1 x2 = some res) : Zj p l e (rm_X11_isAhead) s m args below meth c g A 3 (0, 0) (QI g A below args s res) z 15 [(0, .ref (g.1 o0)), (1, .int x1), (2, .int x2)] [] := by
  unfold f_X11_isAhead_15 at hf
  refine z_aload_n C dX11_isAhead_15 rfl 0 rfl ?_
  refine gf_X11_34 C dX11_isAhead_16 ho0 ?_
  refine z_iload_n C dX11_isAhead_19 rfl 1 rfl ?_
  obtain ⟨h1, hf⟩ := q_ck hf
  refine z_iald C (n := 8) dX11_isAhead_20 (rt_11_15 _ (kd_lt ho0 (by decide)) ho0) (by decide) h1 ?_
  refine z_aload_n C dX11_isAhead_21 rfl 0 rfl ?_
  refine gf_X11_34 C dX11_isAhead_22 ho0 ?_
  refine z_iload_n C dX11_isAhead_25 rfl 2 rfl ?_
  obtain ⟨h2, hf⟩ := q_ck hf
  refine z_iald C (n := 8) dX11_isAhead_26 (rt_11_15 _ (kd_lt ho0 (by decide)) ho0) (by decide) h2 ?_
  exact z_icmp_le C dX11_isAhead_27 (by decide) (fun h => z_sub [] rfl (b_X11_isAhead_34 C hr hk z (q_t hf h))) (fun h => z_sub [] rfl (b_X11_isAhead_30 C hr hk z (q_f hf h)))
def f_X11_isAhead_84  (z : St) (s0 : Int32) : Option (St × Int32) :=
  if zb s0 = true then some (z, s0) else none
theorem b_X11_isAhead_84 {p : Program} {l : Launch} {e : Env} {s : State} {m : MethodId} {args : Array Value} {below : List Frame} {meth : Method} {c : Code} {g : Ga} {A : Nat → Prop} (C : Cx l g A p s m args c cX11_isAhead 3 RX11 (rm_X11_isAhead) (0, 0)) (hr : meth.sig.returnType = (some .boolean)) (hk : meth.locks = false)   (z : St) (s0 : Int32)  {res : St × Int32} (hf : f_X11_isAhead_84  z s0 = some res) : Zj p l e (rm_X11_isAhead) s m args below meth c g A 3 (0, 0) (QI g A below args s res) z 84 [] [.int s0] := by
  unfold f_X11_isAhead_84 at hf
  obtain ⟨h1, hf⟩ := q_ck hf
  cases hf
  exact z_zret C hr hk h1 dX11_isAhead_84
def f_X11_isAhead_66  (z : St)  : Option (St × Int32) :=
  f_X11_isAhead_84 z 1
theorem b_X11_isAhead_66 {p : Program} {l : Launch} {e : Env} {s : State} {m : MethodId} {args : Array Value} {below : List Frame} {meth : Method} {c : Code} {g : Ga} {A : Nat → Prop} (C : Cx l g A p s m args c cX11_isAhead 3 RX11 (rm_X11_isAhead) (0, 0)) (hr : meth.sig.returnType = (some .boolean)) (hk : meth.locks = false)   (z : St)   {res : St × Int32} (hf : f_X11_isAhead_66  z  = some res) : Zj p l e (rm_X11_isAhead) s m args below meth c g A 3 (0, 0) (QI g A below args s res) z 66 [] [] := by
  unfold f_X11_isAhead_66 at hf
  refine z_iconst C dX11_isAhead_66 (v := 1) (by decide) ?_
  exact z_goto C dX11_isAhead_67 (by decide) (z_sub [] rfl (b_X11_isAhead_84 C hr hk z 1 hf))
def f_X11_isAhead_70  (z : St)  : Option (St × Int32) :=
  f_X11_isAhead_84 z 0
theorem b_X11_isAhead_70 {p : Program} {l : Launch} {e : Env} {s : State} {m : MethodId} {args : Array Value} {below : List Frame} {meth : Method} {c : Code} {g : Ga} {A : Nat → Prop} (C : Cx l g A p s m args c cX11_isAhead 3 RX11 (rm_X11_isAhead) (0, 0)) (hr : meth.sig.returnType = (some .boolean)) (hk : meth.locks = false)   (z : St)   {res : St × Int32} (hf : f_X11_isAhead_70  z  = some res) : Zj p l e (rm_X11_isAhead) s m args below meth c g A 3 (0, 0) (QI g A below args s res) z 70 [] [] := by
  unfold f_X11_isAhead_70 at hf
  refine z_iconst C dX11_isAhead_70 (v := 0) (by decide) ?_
  exact z_goto C dX11_isAhead_71 (by decide) (z_sub [] rfl (b_X11_isAhead_84 C hr hk z 0 hf))
def f_X11_isAhead_51  (z : St) (o0 : Nat) (x1 : Int32) (x2 : Int32) : Option (St × Int32) :=
  if inb x1 8 = true then (if inb x2 8 = true then (if (z.1 (rf o0 14) (Int32.toNatClampNeg x1)) ≤ (z.1 (rf o0 14) (Int32.toNatClampNeg x2)) then f_X11_isAhead_70 z else f_X11_isAhead_66 z) else none) else none
theorem b_X11_isAhead_51 {p : Program} {l : Launch} {e : Env} {s : State} {m : MethodId} {args : Array Value} {below : List Frame} {meth : Method} {c : Code} {g : Ga} {A : Nat → Prop} (C : Cx l g A p s m args c cX11_isAhead 3 RX11 (rm_X11_isAhead) (0, 0)) (hr : meth.sig.returnType = (some .boolean)) (hk : meth.locks = false)   (z : St) (o0 : Nat) (x1 : Int32) (x2 : Int32) (ho0 : kd o0 = 11) {res : St × Int32} (hf : f_X11_isAhead_51  z o0 x1 x2 = some res) : Zj p l e (rm_X11_isAhead) s m args below meth c g A 3 (0, 0) (QI g A below args s res) z 51 [(0, .ref (g.1 o0)), (1, .int x1), (2, .int x2)] [] := by
  unfold f_X11_isAhead_51 at hf
  refine z_aload_n C dX11_isAhead_51 rfl 0 rfl ?_
  refine gf_X11_31 C dX11_isAhead_52 ho0 ?_
  refine z_iload_n C dX11_isAhead_55 rfl 1 rfl ?_
  obtain ⟨h1, hf⟩ := q_ck hf
  refine z_iald C (n := 8) dX11_isAhead_56 (rt_11_14 _ (kd_lt ho0 (by decide)) ho0) (by decide) h1 ?_
  refine z_aload_n C dX11_isAhead_57 rfl 0 rfl ?_
  refine gf_X11_31 C dX11_isAhead_58 ho0 ?_
  refine z_iload_n C dX11_isAhead_61 rfl 2 rfl ?_
  obtain ⟨h2, hf⟩ := q_ck hf
  refine z_iald C (n := 8) dX11_isAhead_62 (rt_11_14 _ (kd_lt ho0 (by decide)) ho0) (by decide) h2 ?_
  exact z_icmp_le C dX11_isAhead_63 (by decide) (fun h => z_sub [] rfl (b_X11_isAhead_70 C hr hk z (q_t hf h))) (fun h => z_sub [] rfl (b_X11_isAhead_66 C hr hk z (q_f hf h)))
def f_X11_isAhead_79  (z : St)  : Option (St × Int32) :=
  f_X11_isAhead_84 z 1
theorem b_X11_isAhead_79 {p : Program} {l : Launch} {e : Env} {s : State} {m : MethodId} {args : Array Value} {below : List Frame} {meth : Method} {c : Code} {g : Ga} {A : Nat → Prop} (C : Cx l g A p s m args c cX11_isAhead 3 RX11 (rm_X11_isAhead) (0, 0)) (hr : meth.sig.returnType = (some .boolean)) (hk : meth.locks = false)   (z : St)   {res : St × Int32} (hf : f_X11_isAhead_79  z  = some res) : Zj p l e (rm_X11_isAhead) s m args below meth c g A 3 (0, 0) (QI g A below args s res) z 79 [] [] := by
  unfold f_X11_isAhead_79 at hf
  refine z_iconst C dX11_isAhead_79 (v := 1) (by decide) ?_
  exact z_goto C dX11_isAhead_80 (by decide) (z_sub [] rfl (b_X11_isAhead_84 C hr hk z 1 hf))
def f_X11_isAhead_83  (z : St)  : Option (St × Int32) :=
  f_X11_isAhead_84 z 0
theorem b_X11_isAhead_83 {p : Program} {l : Launch} {e : Env} {s : State} {m : MethodId} {args : Array Value} {below : List Frame} {meth : Method} {c : Code} {g : Ga} {A : Nat → Prop} (C : Cx l g A p s m args c cX11_isAhead 3 RX11 (rm_X11_isAhead) (0, 0)) (hr : meth.sig.returnType = (some .boolean)) (hk : meth.locks = false)   (z : St)   {res : St × Int32} (hf : f_X11_isAhead_83  z  = some res) : Zj p l e (rm_X11_isAhead) s m args below meth c g A 3 (0, 0) (QI g A below args s res) z 83 [] [] := by
  unfold f_X11_isAhead_83 at hf
  refine z_iconst C dX11_isAhead_83 (v := 0) (by decide) ?_
  exact z_sub [] rfl (b_X11_isAhead_84 C hr hk z 0 hf)
def f_X11_isAhead_74  (z : St) (x1 : Int32) (x2 : Int32) : Option (St × Int32) :=
  if x2 ≤ x1 then f_X11_isAhead_83 z else f_X11_isAhead_79 z
theorem b_X11_isAhead_74 {p : Program} {l : Launch} {e : Env} {s : State} {m : MethodId} {args : Array Value} {below : List Frame} {meth : Method} {c : Code} {g : Ga} {A : Nat → Prop} (C : Cx l g A p s m args c cX11_isAhead 3 RX11 (rm_X11_isAhead) (0, 0)) (hr : meth.sig.returnType = (some .boolean)) (hk : meth.locks = false)   (z : St) (x1 : Int32) (x2 : Int32)  {res : St × Int32} (hf : f_X11_isAhead_74  z x1 x2 = some res) : Zj p l e (rm_X11_isAhead) s m args below meth c g A 3 (0, 0) (QI g A below args s res) z 74 [(1, .int x1), (2, .int x2)] [] := by
  unfold f_X11_isAhead_74 at hf
  refine z_iload_n C dX11_isAhead_74 rfl 0 rfl ?_
  refine z_iload_n C dX11_isAhead_75 rfl 1 rfl ?_
  exact z_icmp_ge C dX11_isAhead_76 (by decide) (fun h => z_sub [] rfl (b_X11_isAhead_83 C hr hk z (q_t hf h))) (fun h => z_sub [] rfl (b_X11_isAhead_79 C hr hk z (q_f hf h)))
def f_X11_isAhead_36  (z : St) (o0 : Nat) (x1 : Int32) (x2 : Int32) : Option (St × Int32) :=
  if inb x1 8 = true then (if inb x2 8 = true then (if (z.1 (rf o0 14) (Int32.toNatClampNeg x1)) = (z.1 (rf o0 14) (Int32.toNatClampNeg x2)) then f_X11_isAhead_74 z x1 x2 else f_X11_isAhead_51 z o0 x1 x2) else none) else none
theorem b_X11_isAhead_36 {p : Program} {l : Launch} {e : Env} {s : State} {m : MethodId} {args : Array Value} {below : List Frame} {meth : Method} {c : Code} {g : Ga} {A : Nat → Prop} (C : Cx l g A p s m args c cX11_isAhead 3 RX11 (rm_X11_isAhead) (0, 0)) (hr : meth.sig.returnType = (some .boolean)) (hk : meth.locks = false)   (z : St) (o0 : Nat) (x1 : Int32) (x2 : Int32) (ho0 : kd o0 = 11) {res : St × Int32} (hf : f_X11_isAhead_36  z o0 x1 x2 = some res) : Zj p l e (rm_X11_isAhead) s m args below meth c g A 3 (0, 0) (QI g A below args s res) z 36 [(0, .ref (g.1 o0)), (1, .int x1), (2, .int x2)] [] := by
  unfold f_X11_isAhead_36 at hf
  refine z_aload_n C dX11_isAhead_36 rfl 0 rfl ?_
  refine gf_X11_31 C dX11_isAhead_37 ho0 ?_
  refine z_iload_n C dX11_isAhead_40 rfl 1 rfl ?_
  obtain ⟨h1, hf⟩ := q_ck hf
  refine z_iald C (n := 8) dX11_isAhead_41 (rt_11_14 _ (kd_lt ho0 (by decide)) ho0) (by decide) h1 ?_
  refine z_aload_n C dX11_isAhead_42 rfl 0 rfl ?_
  refine gf_X11_31 C dX11_isAhead_43 ho0 ?_
  refine z_iload_n C dX11_isAhead_46 rfl 2 rfl ?_
  obtain ⟨h2, hf⟩ := q_ck hf
  refine z_iald C (n := 8) dX11_isAhead_47 (rt_11_14 _ (kd_lt ho0 (by decide)) ho0) (by decide) h2 ?_
  exact z_icmp_eq C dX11_isAhead_48 (by decide) (fun h => z_sub [1, 2] rfl (b_X11_isAhead_74 C hr hk z x1 x2 (q_t hf h))) (fun h => z_sub [0, 1, 2] rfl (b_X11_isAhead_51 C hr hk z o0 x1 x2 ho0 (q_f hf h)))
def f_X11_isAhead_0  (z : St) (o0 : Nat) (x1 : Int32) (x2 : Int32) : Option (St × Int32) :=
  if inb x1 8 = true then (if inb x2 8 = true then (if (z.1 (rf o0 15) (Int32.toNatClampNeg x1)) = (z.1 (rf o0 15) (Int32.toNatClampNeg x2)) then f_X11_isAhead_36 z o0 x1 x2 else f_X11_isAhead_15 z o0 x1 x2) else none) else none
theorem b_X11_isAhead_0 {p : Program} {l : Launch} {e : Env} {s : State} {m : MethodId} {args : Array Value} {below : List Frame} {meth : Method} {c : Code} {g : Ga} {A : Nat → Prop} (C : Cx l g A p s m args c cX11_isAhead 3 RX11 (rm_X11_isAhead) (0, 0)) (hr : meth.sig.returnType = (some .boolean)) (hk : meth.locks = false)   (z : St) (o0 : Nat) (x1 : Int32) (x2 : Int32) (ho0 : kd o0 = 11) {res : St × Int32} (hf : f_X11_isAhead_0  z o0 x1 x2 = some res) : Zj p l e (rm_X11_isAhead) s m args below meth c g A 3 (0, 0) (QI g A below args s res) z 0 [(0, .ref (g.1 o0)), (1, .int x1), (2, .int x2)] [] := by
  unfold f_X11_isAhead_0 at hf
  refine z_aload_n C dX11_isAhead_0 rfl 0 rfl ?_
  refine gf_X11_34 C dX11_isAhead_1 ho0 ?_
  refine z_iload_n C dX11_isAhead_4 rfl 1 rfl ?_
  obtain ⟨h1, hf⟩ := q_ck hf
  refine z_iald C (n := 8) dX11_isAhead_5 (rt_11_15 _ (kd_lt ho0 (by decide)) ho0) (by decide) h1 ?_
  refine z_aload_n C dX11_isAhead_6 rfl 0 rfl ?_
  refine gf_X11_34 C dX11_isAhead_7 ho0 ?_
  refine z_iload_n C dX11_isAhead_10 rfl 2 rfl ?_
  obtain ⟨h2, hf⟩ := q_ck hf
  refine z_iald C (n := 8) dX11_isAhead_11 (rt_11_15 _ (kd_lt ho0 (by decide)) ho0) (by decide) h2 ?_
  exact z_icmp_eq C dX11_isAhead_12 (by decide) (fun h => z_sub [0, 1, 2] rfl (b_X11_isAhead_36 C hr hk z o0 x1 x2 ho0 (q_t hf h))) (fun h => z_sub [0, 1, 2] rfl (b_X11_isAhead_15 C hr hk z o0 x1 x2 ho0 (q_f hf h)))
def f_X11_isAhead (z : St) (o0 : Nat) (x1 : Int32) (x2 : Int32) : Option (St × Int32) := f_X11_isAhead_0 z o0 x1 x2
theorem c_X11_isAhead {l : Launch} {g : Ga} {A : Nat → Prop} {z : St} {o0 : Nat} {x1 : Int32} {x2 : Int32} (ho0 : kd o0 = 11) {res : St × Int32} (hf : f_X11_isAhead z o0 x1 x2 = some res) : CI l g A yX11_isAhead cX11_isAhead 3 (some .boolean) rm_X11_isAhead [.ref (g.1 o0), .int x1, .int x2] z res :=
  e_CI (by decide) (Nat.le_of_ble_eq_true rfl) rfl (fun p e s m args below meth c C hr hk => z_sub [0, 1, 2] rfl (b_X11_isAhead_0 C hr hk z o0 x1 x2 ho0 hf))
