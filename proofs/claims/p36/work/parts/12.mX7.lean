abbrev rm_X7_isMissing : Room := { frames := 0, cells := 0, slots := 0, locals := 0 }
def f_X7_isMissing_13  (z : St) (s0 : Int32) : Option (St × Int32) :=
  if zb s0 = true then some (z, s0) else none
theorem b_X7_isMissing_13 {p : Program} {l : Launch} {e : Env} {s : State} {m : MethodId} {args : Array Value} {below : List Frame} {meth : Method} {c : Code} {g : Ga} {A : Nat → Prop} (C : Cx l g A p s m args c cX7_isMissing 1 RX7 (rm_X7_isMissing) (0, 0)) (hr : meth.sig.returnType = (some .boolean)) (hk : meth.locks = false)   (z : St) (s0 : Int32)  {res : St × Int32} (hf : f_X7_isMissing_13  z s0 = some res) : Zj p l e (rm_X7_isMissing) s m args below meth c g A 1 (0, 0) (QI g A below args s res) z 13 [] [.int s0] := by
  unfold f_X7_isMissing_13 at hf
  obtain ⟨h1, hf⟩ := q_ck hf
  cases hf
  exact z_zret C hr hk h1 dX7_isMissing_13
def f_X7_isMissing_8  (z : St)  : Option (St × Int32) :=
  f_X7_isMissing_13 z 1
theorem b_X7_isMissing_8 {p : Program} {l : Launch} {e : Env} {s : State} {m : MethodId} {args : Array Value} {below : List Frame} {meth : Method} {c : Code} {g : Ga} {A : Nat → Prop} (C : Cx l g A p s m args c cX7_isMissing 1 RX7 (rm_X7_isMissing) (0, 0)) (hr : meth.sig.returnType = (some .boolean)) (hk : meth.locks = false)   (z : St)   {res : St × Int32} (hf : f_X7_isMissing_8  z  = some res) : Zj p l e (rm_X7_isMissing) s m args below meth c g A 1 (0, 0) (QI g A below args s res) z 8 [] [] := by
  unfold f_X7_isMissing_8 at hf
  refine z_iconst C dX7_isMissing_8 (v := 1) (by decide) ?_
  exact z_goto C dX7_isMissing_9 (by decide) (z_sub [] rfl (b_X7_isMissing_13 C hr hk z 1 hf))
def f_X7_isMissing_12  (z : St)  : Option (St × Int32) :=
  f_X7_isMissing_13 z 0
theorem b_X7_isMissing_12 {p : Program} {l : Launch} {e : Env} {s : State} {m : MethodId} {args : Array Value} {below : List Frame} {meth : Method} {c : Code} {g : Ga} {A : Nat → Prop} (C : Cx l g A p s m args c cX7_isMissing 1 RX7 (rm_X7_isMissing) (0, 0)) (hr : meth.sig.returnType = (some .boolean)) (hk : meth.locks = false)   (z : St)   {res : St × Int32} (hf : f_X7_isMissing_12  z  = some res) : Zj p l e (rm_X7_isMissing) s m args below meth c g A 1 (0, 0) (QI g A below args s res) z 12 [] [] := by
  unfold f_X7_isMissing_12 at hf
  refine z_iconst C dX7_isMissing_12 (v := 0) (by decide) ?_
  exact z_sub [] rfl (b_X7_isMissing_13 C hr hk z 0 hf)
def f_X7_isMissing_0  (z : St) (o0 : Nat) : Option (St × Int32) :=
  if (z.1 o0 1) = ((-1)) then f_X7_isMissing_8 z else f_X7_isMissing_12 z
theorem b_X7_isMissing_0 {p : Program} {l : Launch} {e : Env} {s : State} {m : MethodId} {args : Array Value} {below : List Frame} {meth : Method} {c : Code} {g : Ga} {A : Nat → Prop} (C : Cx l g A p s m args c cX7_isMissing 1 RX7 (rm_X7_isMissing) (0, 0)) (hr : meth.sig.returnType = (some .boolean)) (hk : meth.locks = false)   (z : St) (o0 : Nat) (ho0 : kd o0 = 7) {res : St × Int32} (hf : f_X7_isMissing_0  z o0 = some res) : Zj p l e (rm_X7_isMissing) s m args below meth c g A 1 (0, 0) (QI g A below args s res) z 0 [(0, .ref (g.1 o0))] [] := by
  unfold f_X7_isMissing_0 at hf
  refine z_aload_n C dX7_isMissing_0 rfl 0 rfl ?_
  refine gf_X7_15 C dX7_isMissing_1 ho0 ?_
  refine z_iconst C dX7_isMissing_4 (v := (-1)) (by decide) ?_
  exact z_icmp_ne C dX7_isMissing_5 (by decide) (fun h => z_sub [] rfl (b_X7_isMissing_12 C hr hk z (q_f hf h))) (fun h => z_sub [] rfl (b_X7_isMissing_8 C hr hk z (q_t hf h)))
def f_X7_isMissing (z : St) (o0 : Nat) : Option (St × Int32) := f_X7_isMissing_0 z o0
theorem c_X7_isMissing {l : Launch} {g : Ga} {A : Nat → Prop} {z : St} {o0 : Nat} (ho0 : kd o0 = 7) {res : St × Int32} (hf : f_X7_isMissing z o0 = some res) : CI l g A yX7_isMissing cX7_isMissing 1 (some .boolean) rm_X7_isMissing [.ref (g.1 o0)] z res :=
  e_CI (by decide) (Nat.le_of_ble_eq_true rfl) rfl (fun p e s m args below meth c C hr hk => z_sub [0] rfl (b_X7_isMissing_0 C hr hk z o0 ho0 hf))
abbrev rm_X7_become : Room := { frames := 1, cells := 0, slots := 0, locals := 24 }
def f_X7_become_0  (z : St) (o0 : Nat) (x1 : Int32) (x2 : Int32) : Option (St) :=
  ((f_J7_fill_d0a16 (zI (zI z o0 1 x1) o0 2 (imax 0 (imin x2 40))) (rf o0 0) 0).bind fun r1 => some r1)
theorem b_X7_become_0 {p : Program} {l : Launch} {e : Env} {s : State} {m : MethodId} {args : Array Value} {below : List Frame} {meth : Method} {c : Code} {g : Ga} {A : Nat → Prop} (C : Cx l g A p s m args c cX7_become 3 RX7 (rm_X7_become) (0, 0)) (hr : meth.sig.returnType = none) (hk : meth.locks = false)   (z : St) (o0 : Nat) (x1 : Int32) (x2 : Int32) (ho0 : kd o0 = 7) {res : St} (hf : f_X7_become_0  z o0 x1 x2 = some res) : Zj p l e (rm_X7_become) s m args below meth c g A 3 (0, 0) (QV g A below args s res) z 0 [(0, .ref (g.1 o0)), (1, .int x1), (2, .int x2)] [] := by
  unfold f_X7_become_0 at hf
  refine z_aload_n C dX7_become_0 rfl 0 rfl ?_
  refine z_iload_n C dX7_become_1 rfl 1 rfl ?_
  refine pf_X7_15 C dX7_become_2 ho0 ?_
  refine z_aload_n C dX7_become_5 rfl 0 rfl ?_
  refine z_iconst C dX7_become_6 (v := 0) (by decide) ?_
  refine z_iload_n C dX7_become_7 rfl 2 rfl ?_
  refine z_aload_n C dX7_become_8 rfl 0 rfl ?_
  refine gf_X7_9 C dX7_become_9 ho0 ?_
  refine z_alenJ C (n := 40) (v := 40) dX7_become_12 (rt_7_0 _ (kd_lt ho0 (by decide)) ho0) (by decide) rfl ?_
  refine z_mmin C (st := [.int 0, .ref (g.1 o0)]) dX7_become_13 ml_X7_19 mm_min.1 mm_i mm_min.2 ⟨Nat.le_of_ble_eq_true rfl, Nat.le_of_ble_eq_true rfl⟩ (Nat.le_of_ble_eq_true rfl) ?_
  refine z_mmax C (st := [.ref (g.1 o0)]) dX7_become_16 ml_X7_25 mm_max.1 mm_i mm_max.2 ⟨Nat.le_of_ble_eq_true rfl, Nat.le_of_ble_eq_true rfl⟩ (Nat.le_of_ble_eq_true rfl) ?_
  refine pf_X7_28 C dX7_become_19 ho0 ?_
  refine z_aload_n C dX7_become_22 rfl 0 rfl ?_
  refine gf_X7_9 C dX7_become_23 ho0 ?_
  refine z_lconst C dX7_become_26 (v := 0) (by decide) ?_
  obtain ⟨r1, hc2, hf⟩ := q_bd hf
  refine z_cSv C (st := []) (c_J7_fill_d0a16 (rt_7_0 _ (kd_lt ho0 (by decide)) ho0) hc2) mw_J7_fill_d0a16 ml_X7_31 dX7_become_27 rfl rfl rfl ⟨Nat.le_of_ble_eq_true rfl, Nat.le_of_ble_eq_true rfl⟩ rfl (Nat.le_of_ble_eq_true rfl) ?_
  cases hf
  exact z_vret C hr hk dX7_become_30
def f_X7_become (z : St) (o0 : Nat) (x1 : Int32) (x2 : Int32) : Option (St) := f_X7_become_0 z o0 x1 x2
theorem c_X7_become {l : Launch} {g : Ga} {A : Nat → Prop} {z : St} {o0 : Nat} {x1 : Int32} {x2 : Int32} (ho0 : kd o0 = 7) {res : St} (hf : f_X7_become z o0 x1 x2 = some res) : CV l g A yX7_become cX7_become 3 none rm_X7_become [.ref (g.1 o0), .int x1, .int x2] z res :=
  e_CV (by decide) (Nat.le_of_ble_eq_true rfl) rfl (fun p e s m args below meth c C hr hk => z_sub [0, 1, 2] rfl (b_X7_become_0 C hr hk z o0 x1 x2 ho0 hf))
abbrev rm_X7_holds : Room := { frames := 0, cells := 0, slots := 0, locals := 0 }
def f_X7_holds_26  (z : St) (s0 : Int32) : Option (St × Int32) :=
  if zb s0 = true then some (z, s0) else none
theorem b_X7_holds_26 {p : Program} {l : Launch} {e : Env} {s : State} {m : MethodId} {args : Array Value} {below : List Frame} {meth : Method} {c : Code} {g : Ga} {A : Nat → Prop} (C : Cx l g A p s m args c cX7_holds 2 RX7 (rm_X7_holds) (0, 0)) (hr : meth.sig.returnType = (some .boolean)) (hk : meth.locks = false)   (z : St) (s0 : Int32)  {res : St × Int32} (hf : f_X7_holds_26  z s0 = some res) : Zj p l e (rm_X7_holds) s m args below meth c g A 2 (0, 0) (QI g A below args s res) z 26 [] [.int s0] := by
  unfold f_X7_holds_26 at hf
  obtain ⟨h1, hf⟩ := q_ck hf
  cases hf
  exact z_zret C hr hk h1 dX7_holds_26
def f_X7_holds_21  (z : St)  : Option (St × Int32) :=
  f_X7_holds_26 z 1
theorem b_X7_holds_21 {p : Program} {l : Launch} {e : Env} {s : State} {m : MethodId} {args : Array Value} {below : List Frame} {meth : Method} {c : Code} {g : Ga} {A : Nat → Prop} (C : Cx l g A p s m args c cX7_holds 2 RX7 (rm_X7_holds) (0, 0)) (hr : meth.sig.returnType = (some .boolean)) (hk : meth.locks = false)   (z : St)   {res : St × Int32} (hf : f_X7_holds_21  z  = some res) : Zj p l e (rm_X7_holds) s m args below meth c g A 2 (0, 0) (QI g A below args s res) z 21 [] [] := by
  unfold f_X7_holds_21 at hf
  refine z_iconst C dX7_holds_21 (v := 1) (by decide) ?_
  exact z_goto C dX7_holds_22 (by decide) (z_sub [] rfl (b_X7_holds_26 C hr hk z 1 hf))
def f_X7_holds_25  (z : St)  : Option (St × Int32) :=
  f_X7_holds_26 z 0
theorem b_X7_holds_25 {p : Program} {l : Launch} {e : Env} {s : State} {m : MethodId} {args : Array Value} {below : List Frame} {meth : Method} {c : Code} {g : Ga} {A : Nat → Prop} (C : Cx l g A p s m args c cX7_holds 2 RX7 (rm_X7_holds) (0, 0)) (hr : meth.sig.returnType = (some .boolean)) (hk : meth.locks = false)   (z : St)   {res : St × Int32} (hf : f_X7_holds_25  z  = some res) : Zj p l e (rm_X7_holds) s m args below meth c g A 2 (0, 0) (QI g A below args s res) z 25 [] [] := by
  unfold f_X7_holds_25 at hf
  refine z_iconst C dX7_holds_25 (v := 0) (by decide) ?_
  exact z_sub [] rfl (b_X7_holds_26 C hr hk z 0 hf)
def f_X7_holds_12  (z : St) (o0 : Nat) (x1 : Int32) : Option (St × Int32) :=
  if 40 ≤ x1 then f_X7_holds_25 z else f_X7_holds_21 z
theorem b_X7_holds_12 {p : Program} {l : Launch} {e : Env} {s : State} {m : MethodId} {args : Array Value} {below : List Frame} {meth : Method} {c : Code} {g : Ga} {A : Nat → Prop} (C : Cx l g A p s m args c cX7_holds 2 RX7 (rm_X7_holds) (0, 0)) (hr : meth.sig.returnType = (some .boolean)) (hk : meth.locks = false)   (z : St) (o0 : Nat) (x1 : Int32) (ho0 : kd o0 = 7) {res : St × Int32} (hf : f_X7_holds_12  z o0 x1 = some res) : Zj p l e (rm_X7_holds) s m args below meth c g A 2 (0, 0) (QI g A below args s res) z 12 [(0, .ref (g.1 o0)), (1, .int x1)] [] := by
  unfold f_X7_holds_12 at hf
  refine z_iload_n C dX7_holds_12 rfl 1 rfl ?_
  refine z_aload_n C dX7_holds_13 rfl 0 rfl ?_
  refine gf_X7_9 C dX7_holds_14 ho0 ?_
  refine z_alenJ C (n := 40) (v := 40) dX7_holds_17 (rt_7_0 _ (kd_lt ho0 (by decide)) ho0) (by decide) rfl ?_
  exact z_icmp_ge C dX7_holds_18 (by decide) (fun h => z_sub [] rfl (b_X7_holds_25 C hr hk z (q_t hf h))) (fun h => z_sub [] rfl (b_X7_holds_21 C hr hk z (q_f hf h)))
def f_X7_holds_4  (z : St) (o0 : Nat) (x1 : Int32) : Option (St × Int32) :=
  if (z.1 o0 2) ≤ x1 then f_X7_holds_25 z else f_X7_holds_12 z o0 x1
theorem b_X7_holds_4 {p : Program} {l : Launch} {e : Env} {s : State} {m : MethodId} {args : Array Value} {below : List Frame} {meth : Method} {c : Code} {g : Ga} {A : Nat → Prop} (C : Cx l g A p s m args c cX7_holds 2 RX7 (rm_X7_holds) (0, 0)) (hr : meth.sig.returnType = (some .boolean)) (hk : meth.locks = false)   (z : St) (o0 : Nat) (x1 : Int32) (ho0 : kd o0 = 7) {res : St × Int32} (hf : f_X7_holds_4  z o0 x1 = some res) : Zj p l e (rm_X7_holds) s m args below meth c g A 2 (0, 0) (QI g A below args s res) z 4 [(0, .ref (g.1 o0)), (1, .int x1)] [] := by
  unfold f_X7_holds_4 at hf
  refine z_iload_n C dX7_holds_4 rfl 1 rfl ?_
  refine z_aload_n C dX7_holds_5 rfl 0 rfl ?_
  refine gf_X7_28 C dX7_holds_6 ho0 ?_
  exact z_icmp_ge C dX7_holds_9 (by decide) (fun h => z_sub [] rfl (b_X7_holds_25 C hr hk z (q_t hf h))) (fun h => z_sub [0, 1] rfl (b_X7_holds_12 C hr hk z o0 x1 ho0 (q_f hf h)))
def f_X7_holds_0  (z : St) (o0 : Nat) (x1 : Int32) : Option (St × Int32) :=
  if x1 < 0 then f_X7_holds_25 z else f_X7_holds_4 z o0 x1
theorem b_X7_holds_0 {p : Program} {l : Launch} {e : Env} {s : State} {m : MethodId} {args : Array Value} {below : List Frame} {meth : Method} {c : Code} {g : Ga} {A : Nat → Prop} (C : Cx l g A p s m args c cX7_holds 2 RX7 (rm_X7_holds) (0, 0)) (hr : meth.sig.returnType = (some .boolean)) (hk : meth.locks = false)   (z : St) (o0 : Nat) (x1 : Int32) (ho0 : kd o0 = 7) {res : St × Int32} (hf : f_X7_holds_0  z o0 x1 = some res) : Zj p l e (rm_X7_holds) s m args below meth c g A 2 (0, 0) (QI g A below args s res) z 0 [(0, .ref (g.1 o0)), (1, .int x1)] [] := by
  unfold f_X7_holds_0 at hf
  refine z_iload_n C dX7_holds_0 rfl 1 rfl ?_
  exact z_if_lt C dX7_holds_1 (by decide) (fun h => z_sub [] rfl (b_X7_holds_25 C hr hk z (q_t hf h))) (fun h => z_sub [0, 1] rfl (b_X7_holds_4 C hr hk z o0 x1 ho0 (q_f hf h)))
def f_X7_holds (z : St) (o0 : Nat) (x1 : Int32) : Option (St × Int32) := f_X7_holds_0 z o0 x1
theorem c_X7_holds {l : Launch} {g : Ga} {A : Nat → Prop} {z : St} {o0 : Nat} {x1 : Int32} (ho0 : kd o0 = 7) {res : St × Int32} (hf : f_X7_holds z o0 x1 = some res) : CI l g A yX7_holds cX7_holds 2 (some .boolean) rm_X7_holds [.ref (g.1 o0), .int x1] z res :=
  e_CI (by decide) (Nat.le_of_ble_eq_true rfl) rfl (fun p e s m args below meth c C hr hk => z_sub [0, 1] rfl (b_X7_holds_0 C hr hk z o0 x1 ho0 hf))
abbrev rm_X7_read : Room := { frames := 1, cells := 0, slots := 0, locals := 21 }
def f_X7_read_20  (z : St) (s0 : Int64) : Option (St × Int64) :=
  some (z, s0)
theorem b_X7_read_20 {p : Program} {l : Launch} {e : Env} {s : State} {m : MethodId} {args : Array Value} {below : List Frame} {meth : Method} {c : Code} {g : Ga} {A : Nat → Prop} (C : Cx l g A p s m args c cX7_read 2 RX7 (rm_X7_read) (0, 0)) (hr : meth.sig.returnType = (some .long)) (hk : meth.locks = false)   (z : St) (s0 : Int64)  {res : St × Int64} (hf : f_X7_read_20  z s0 = some res) : Zj p l e (rm_X7_read) s m args below meth c g A 2 (0, 0) (QJ g A below args s res) z 20 [] [.long s0] := by
  unfold f_X7_read_20 at hf
  cases hf
  exact z_lret C hr hk dX7_read_20
def f_X7_read_8  (z : St) (o0 : Nat) (x1 : Int32) : Option (St × Int64) :=
  if inb x1 40 = true then (f_X7_read_20 z (z.2 (rf o0 0) (Int32.toNatClampNeg x1))) else none
theorem b_X7_read_8 {p : Program} {l : Launch} {e : Env} {s : State} {m : MethodId} {args : Array Value} {below : List Frame} {meth : Method} {c : Code} {g : Ga} {A : Nat → Prop} (C : Cx l g A p s m args c cX7_read 2 RX7 (rm_X7_read) (0, 0)) (hr : meth.sig.returnType = (some .long)) (hk : meth.locks = false)   (z : St) (o0 : Nat) (x1 : Int32) (ho0 : kd o0 = 7) {res : St × Int64} (hf : f_X7_read_8  z o0 x1 = some res) : Zj p l e (rm_X7_read) s m args below meth c g A 2 (0, 0) (QJ g A below args s res) z 8 [(0, .ref (g.1 o0)), (1, .int x1)] [] := by
  unfold f_X7_read_8 at hf
  refine z_aload_n C dX7_read_8 rfl 0 rfl ?_
  refine gf_X7_9 C dX7_read_9 ho0 ?_
  refine z_iload_n C dX7_read_12 rfl 1 rfl ?_
  obtain ⟨h1, hf⟩ := q_ck hf
  refine z_lald C (n := 40) dX7_read_13 (rt_7_0 _ (kd_lt ho0 (by decide)) ho0) (by decide) h1 ?_
  exact z_goto C dX7_read_14 (by decide) (z_sub [] rfl (b_X7_read_20 C hr hk z (z.2 (rf o0 0) (Int32.toNatClampNeg x1)) hf))
def f_X7_read_17  (z : St)  : Option (St × Int64) :=
  f_X7_read_20 z ((-4611686018427387904))
theorem b_X7_read_17 {p : Program} {l : Launch} {e : Env} {s : State} {m : MethodId} {args : Array Value} {below : List Frame} {meth : Method} {c : Code} {g : Ga} {A : Nat → Prop} (C : Cx l g A p s m args c cX7_read 2 RX7 (rm_X7_read) (0, 0)) (hr : meth.sig.returnType = (some .long)) (hk : meth.locks = false)   (z : St)   {res : St × Int64} (hf : f_X7_read_17  z  = some res) : Zj p l e (rm_X7_read) s m args below meth c g A 2 (0, 0) (QJ g A below args s res) z 17 [] [] := by
  unfold f_X7_read_17 at hf
  refine z_ldc2 C dX7_read_17 kc_X7_41 ?_
  exact z_sub [] rfl (b_X7_read_20 C hr hk z ((-4611686018427387904)) hf)
def f_X7_read_0  (z : St) (o0 : Nat) (x1 : Int32) : Option (St × Int64) :=
  ((f_X7_holds z o0 x1).bind fun r1 => if r1.2 = 0 then f_X7_read_17 r1.1 else f_X7_read_8 r1.1 o0 x1)
theorem b_X7_read_0 {p : Program} {l : Launch} {e : Env} {s : State} {m : MethodId} {args : Array Value} {below : List Frame} {meth : Method} {c : Code} {g : Ga} {A : Nat → Prop} (C : Cx l g A p s m args c cX7_read 2 RX7 (rm_X7_read) (0, 0)) (hr : meth.sig.returnType = (some .long)) (hk : meth.locks = false)   (z : St) (o0 : Nat) (x1 : Int32) (ho0 : kd o0 = 7) {res : St × Int64} (hf : f_X7_read_0  z o0 x1 = some res) : Zj p l e (rm_X7_read) s m args below meth c g A 2 (0, 0) (QJ g A below args s res) z 0 [(0, .ref (g.1 o0)), (1, .int x1)] [] := by
  unfold f_X7_read_0 at hf
  refine z_aload_n C dX7_read_0 rfl 0 rfl ?_
  refine z_iload_n C dX7_read_1 rfl 1 rfl ?_
  obtain ⟨r1, hc2, hf⟩ := q_bd hf
  refine z_cVi C (st := []) (c_X7_holds ho0 hc2) mw_X7_holds ml_X7_37 ho0 (by decide) rfl dX7_read_2 rfl rfl rfl ⟨Nat.le_of_ble_eq_true rfl, Nat.le_of_ble_eq_true rfl⟩ rfl (Nat.le_of_ble_eq_true rfl) ?_
  exact z_if_eq C dX7_read_5 (by decide) (fun h => z_sub [] rfl (b_X7_read_17 C hr hk r1.1 (q_t hf h))) (fun h => z_sub [0, 1] rfl (b_X7_read_8 C hr hk r1.1 o0 x1 ho0 (q_f hf h)))
def f_X7_read (z : St) (o0 : Nat) (x1 : Int32) : Option (St × Int64) := f_X7_read_0 z o0 x1
theorem c_X7_read {l : Launch} {g : Ga} {A : Nat → Prop} {z : St} {o0 : Nat} {x1 : Int32} (ho0 : kd o0 = 7) {res : St × Int64} (hf : f_X7_read z o0 x1 = some res) : CJ l g A yX7_read cX7_read 2 (some .long) rm_X7_read [.ref (g.1 o0), .int x1] z res :=
  e_CJ (by decide) (Nat.le_of_ble_eq_true rfl) rfl (fun p e s m args below meth c C hr hk => z_sub [0, 1] rfl (b_X7_read_0 C hr hk z o0 x1 ho0 hf))
abbrev rm_X7_write : Room := { frames := 1, cells := 0, slots := 0, locals := 21 }
def f_X7_write_29  (z : St)  : Option (St) :=
  some z
theorem b_X7_write_29 {p : Program} {l : Launch} {e : Env} {s : State} {m : MethodId} {args : Array Value} {below : List Frame} {meth : Method} {c : Code} {g : Ga} {A : Nat → Prop} (C : Cx l g A p s m args c cX7_write 4 RX7 (rm_X7_write) (0, 0)) (hr : meth.sig.returnType = none) (hk : meth.locks = false)   (z : St)   {res : St} (hf : f_X7_write_29  z  = some res) : Zj p l e (rm_X7_write) s m args below meth c g A 4 (0, 0) (QV g A below args s res) z 29 [] [] := by
  unfold f_X7_write_29 at hf
  cases hf
  exact z_vret C hr hk dX7_write_29
def f_X7_write_28  (z : St) (s0 : Nat) (s1 : Int32) (s2 : Int64) : Option (St) :=
  if inb s1 40 = true then (f_X7_write_29 (zL z s0 (Int32.toNatClampNeg s1) s2)) else none
theorem b_X7_write_28 {p : Program} {l : Launch} {e : Env} {s : State} {m : MethodId} {args : Array Value} {below : List Frame} {meth : Method} {c : Code} {g : Ga} {A : Nat → Prop} (C : Cx l g A p s m args c cX7_write 4 RX7 (rm_X7_write) (0, 0)) (hr : meth.sig.returnType = none) (hk : meth.locks = false)   (z : St) (s0 : Nat) (s1 : Int32) (s2 : Int64) (hs0 : kd s0 = 100040) {res : St} (hf : f_X7_write_28  z s0 s1 s2 = some res) : Zj p l e (rm_X7_write) s m args below meth c g A 4 (0, 0) (QV g A below args s res) z 28 [] [.long s2, .int s1, .ref (g.1 s0)] := by
  unfold f_X7_write_28 at hf
  obtain ⟨h1, hf⟩ := q_ck hf
  refine z_last C (n := 40) dX7_write_28 hs0 (by decide) h1 ?_
  exact z_sub [] rfl (b_X7_write_29 C hr hk (zL z s0 (Int32.toNatClampNeg s1) s2) hf)
def f_X7_write_21  (z : St) (y2 : Int64) (s0 : Nat) (s1 : Int32) : Option (St) :=
  f_X7_write_28 z s0 s1 (Int32.toInt64 (Int64.toInt32 y2))
theorem b_X7_write_21 {p : Program} {l : Launch} {e : Env} {s : State} {m : MethodId} {args : Array Value} {below : List Frame} {meth : Method} {c : Code} {g : Ga} {A : Nat → Prop} (C : Cx l g A p s m args c cX7_write 4 RX7 (rm_X7_write) (0, 0)) (hr : meth.sig.returnType = none) (hk : meth.locks = false)   (z : St) (y2 : Int64) (s0 : Nat) (s1 : Int32) (hs0 : kd s0 = 100040) {res : St} (hf : f_X7_write_21  z y2 s0 s1 = some res) : Zj p l e (rm_X7_write) s m args below meth c g A 4 (0, 0) (QV g A below args s res) z 21 [(2, .long y2)] [.int s1, .ref (g.1 s0)] := by
  unfold f_X7_write_21 at hf
  refine z_lload_n C dX7_write_21 rfl 0 rfl ?_
  refine z_l2i C dX7_write_22 ?_
  refine z_i2l C dX7_write_23 ?_
  exact z_goto C dX7_write_24 (by decide) (z_sub [] rfl (b_X7_write_28 C hr hk z s0 s1 (Int32.toInt64 (Int64.toInt32 y2)) hs0 hf))
def f_X7_write_27  (z : St) (y2 : Int64) (s0 : Nat) (s1 : Int32) : Option (St) :=
  f_X7_write_28 z s0 s1 y2
theorem b_X7_write_27 {p : Program} {l : Launch} {e : Env} {s : State} {m : MethodId} {args : Array Value} {below : List Frame} {meth : Method} {c : Code} {g : Ga} {A : Nat → Prop} (C : Cx l g A p s m args c cX7_write 4 RX7 (rm_X7_write) (0, 0)) (hr : meth.sig.returnType = none) (hk : meth.locks = false)   (z : St) (y2 : Int64) (s0 : Nat) (s1 : Int32) (hs0 : kd s0 = 100040) {res : St} (hf : f_X7_write_27  z y2 s0 s1 = some res) : Zj p l e (rm_X7_write) s m args below meth c g A 4 (0, 0) (QV g A below args s res) z 27 [(2, .long y2)] [.int s1, .ref (g.1 s0)] := by
  unfold f_X7_write_27 at hf
  refine z_lload_n C dX7_write_27 rfl 0 rfl ?_
  exact z_sub [] rfl (b_X7_write_28 C hr hk z s0 s1 y2 hs0 hf)
def f_X7_write_8  (z : St) (o0 : Nat) (x1 : Int32) (y2 : Int64) : Option (St) :=
  if (z.1 o0 1) = 1 then f_X7_write_21 z y2 (rf o0 0) x1 else f_X7_write_27 z y2 (rf o0 0) x1
theorem b_X7_write_8 {p : Program} {l : Launch} {e : Env} {s : State} {m : MethodId} {args : Array Value} {below : List Frame} {meth : Method} {c : Code} {g : Ga} {A : Nat → Prop} (C : Cx l g A p s m args c cX7_write 4 RX7 (rm_X7_write) (0, 0)) (hr : meth.sig.returnType = none) (hk : meth.locks = false)   (z : St) (o0 : Nat) (x1 : Int32) (y2 : Int64) (ho0 : kd o0 = 7) {res : St} (hf : f_X7_write_8  z o0 x1 y2 = some res) : Zj p l e (rm_X7_write) s m args below meth c g A 4 (0, 0) (QV g A below args s res) z 8 [(0, .ref (g.1 o0)), (1, .int x1), (2, .long y2)] [] := by
  unfold f_X7_write_8 at hf
  refine z_aload_n C dX7_write_8 rfl 0 rfl ?_
  refine gf_X7_9 C dX7_write_9 ho0 ?_
  refine z_iload_n C dX7_write_12 rfl 1 rfl ?_
  refine z_aload_n C dX7_write_13 rfl 0 rfl ?_
  refine gf_X7_15 C dX7_write_14 ho0 ?_
  refine z_iconst C dX7_write_17 (v := 1) (by decide) ?_
  exact z_icmp_ne C dX7_write_18 (by decide) (fun h => z_sub [2] rfl (b_X7_write_27 C hr hk z y2 (rf o0 0) x1 (rt_7_0 _ (kd_lt ho0 (by decide)) ho0) (q_f hf h))) (fun h => z_sub [2] rfl (b_X7_write_21 C hr hk z y2 (rf o0 0) x1 (rt_7_0 _ (kd_lt ho0 (by decide)) ho0) (q_t hf h)))
def f_X7_write_0  (z : St) (o0 : Nat) (x1 : Int32) (y2 : Int64) : Option (St) :=
  ((f_X7_holds z o0 x1).bind fun r1 => if r1.2 = 0 then f_X7_write_29 r1.1 else f_X7_write_8 r1.1 o0 x1 y2)
theorem b_X7_write_0 {p : Program} {l : Launch} {e : Env} {s : State} {m : MethodId} {args : Array Value} {below : List Frame} {meth : Method} {c : Code} {g : Ga} {A : Nat → Prop} (C : Cx l g A p s m args c cX7_write 4 RX7 (rm_X7_write) (0, 0)) (hr : meth.sig.returnType = none) (hk : meth.locks = false)   (z : St) (o0 : Nat) (x1 : Int32) (y2 : Int64) (ho0 : kd o0 = 7) {res : St} (hf : f_X7_write_0  z o0 x1 y2 = some res) : Zj p l e (rm_X7_write) s m args below meth c g A 4 (0, 0) (QV g A below args s res) z 0 [(0, .ref (g.1 o0)), (1, .int x1), (2, .long y2)] [] := by
  unfold f_X7_write_0 at hf
  refine z_aload_n C dX7_write_0 rfl 0 rfl ?_
  refine z_iload_n C dX7_write_1 rfl 1 rfl ?_
  obtain ⟨r1, hc2, hf⟩ := q_bd hf
  refine z_cVi C (st := []) (c_X7_holds ho0 hc2) mw_X7_holds ml_X7_37 ho0 (by decide) rfl dX7_write_2 rfl rfl rfl ⟨Nat.le_of_ble_eq_true rfl, Nat.le_of_ble_eq_true rfl⟩ rfl (Nat.le_of_ble_eq_true rfl) ?_
  exact z_if_eq C dX7_write_5 (by decide) (fun h => z_sub [] rfl (b_X7_write_29 C hr hk r1.1 (q_t hf h))) (fun h => z_sub [0, 1, 2] rfl (b_X7_write_8 C hr hk r1.1 o0 x1 y2 ho0 (q_f hf h)))
def f_X7_write (z : St) (o0 : Nat) (x1 : Int32) (y2 : Int64) : Option (St) := f_X7_write_0 z o0 x1 y2
theorem c_X7_write {l : Launch} {g : Ga} {A : Nat → Prop} {z : St} {o0 : Nat} {x1 : Int32} {y2 : Int64} (ho0 : kd o0 = 7) {res : St} (hf : f_X7_write z o0 x1 y2 = some res) : CV l g A yX7_write cX7_write 4 none rm_X7_write [.ref (g.1 o0), .int x1, .long y2] z res :=
  e_CV (by decide) (Nat.le_of_ble_eq_true rfl) rfl (fun p e s m args below meth c C hr hk => z_sub [0, 1, 2] rfl (b_X7_write_0 C hr hk z o0 x1 y2 ho0 hf))
