abbrev rm_X10_isByte : Room := { frames := 0, cells := 0, slots := 0, locals := 0 }
def f_X10_isByte_16  (z : St) (s0 : Int32) : Option (St × Int32) :=
  if zb s0 = true then some (z, s0) else none
theorem b_X10_isByte_16 {p : Program} {l : Launch} {e : Env} {s : State} {m : MethodId} {args : Array Value} {below : List Frame} {meth : Method} {c : Code} {g : Ga} {A : Nat → Prop} (C : Cx l g A p s m args c cX10_isByte 1 RX10 (rm_X10_isByte) (0, 0)) (hr : meth.sig.returnType = (some .boolean)) (hk : meth.locks = false)   (z : St) (s0 : Int32)  {res : St × Int32} (hf : f_X10_isByte_16  z s0 = some res) : Zj p l e (rm_X10_isByte) s m args below meth c g A 1 (0, 0) (QI g A below args s res) z 16 [] [.int s0] := by
  unfold f_X10_isByte_16 at hf
  obtain ⟨h1, hf⟩ := q_ck hf
  cases hf
  exact z_zret C hr hk h1 dX10_isByte_16
def f_X10_isByte_11  (z : St)  : Option (St × Int32) :=
  f_X10_isByte_16 z 1
theorem b_X10_isByte_11 {p : Program} {l : Launch} {e : Env} {s : State} {m : MethodId} {args : Array Value} {below : List Frame} {meth : Method} {c : Code} {g : Ga} {A : Nat → Prop} (C : Cx l g A p s m args c cX10_isByte 1 RX10 (rm_X10_isByte) (0, 0)) (hr : meth.sig.returnType = (some .boolean)) (hk : meth.locks = false)   (z : St)   {res : St × Int32} (hf : f_X10_isByte_11  z  = some res) : Zj p l e (rm_X10_isByte) s m args below meth c g A 1 (0, 0) (QI g A below args s res) z 11 [] [] := by
  unfold f_X10_isByte_11 at hf
  refine z_iconst C dX10_isByte_11 (v := 1) (by decide) ?_
  exact z_goto C dX10_isByte_12 (by decide) (z_sub [] rfl (b_X10_isByte_16 C hr hk z 1 hf))
def f_X10_isByte_15  (z : St)  : Option (St × Int32) :=
  f_X10_isByte_16 z 0
theorem b_X10_isByte_15 {p : Program} {l : Launch} {e : Env} {s : State} {m : MethodId} {args : Array Value} {below : List Frame} {meth : Method} {c : Code} {g : Ga} {A : Nat → Prop} (C : Cx l g A p s m args c cX10_isByte 1 RX10 (rm_X10_isByte) (0, 0)) (hr : meth.sig.returnType = (some .boolean)) (hk : meth.locks = false)   (z : St)   {res : St × Int32} (hf : f_X10_isByte_15  z  = some res) : Zj p l e (rm_X10_isByte) s m args below meth c g A 1 (0, 0) (QI g A below args s res) z 15 [] [] := by
  unfold f_X10_isByte_15 at hf
  refine z_iconst C dX10_isByte_15 (v := 0) (by decide) ?_
  exact z_sub [] rfl (b_X10_isByte_16 C hr hk z 0 hf)
def f_X10_isByte_4  (z : St) (x0 : Int32) : Option (St × Int32) :=
  if 255 < x0 then f_X10_isByte_15 z else f_X10_isByte_11 z
theorem b_X10_isByte_4 {p : Program} {l : Launch} {e : Env} {s : State} {m : MethodId} {args : Array Value} {below : List Frame} {meth : Method} {c : Code} {g : Ga} {A : Nat → Prop} (C : Cx l g A p s m args c cX10_isByte 1 RX10 (rm_X10_isByte) (0, 0)) (hr : meth.sig.returnType = (some .boolean)) (hk : meth.locks = false)   (z : St) (x0 : Int32)  {res : St × Int32} (hf : f_X10_isByte_4  z x0 = some res) : Zj p l e (rm_X10_isByte) s m args below meth c g A 1 (0, 0) (QI g A below args s res) z 4 [(0, .int x0)] [] := by
  unfold f_X10_isByte_4 at hf
  refine z_iload_n C dX10_isByte_4 rfl 0 rfl ?_
  refine z_sipush C dX10_isByte_5 (v := 255) (by decide) ?_
  exact z_icmp_gt C dX10_isByte_8 (by decide) (fun h => z_sub [] rfl (b_X10_isByte_15 C hr hk z (q_t hf h))) (fun h => z_sub [] rfl (b_X10_isByte_11 C hr hk z (q_f hf h)))
def f_X10_isByte_0  (z : St) (x0 : Int32) : Option (St × Int32) :=
  if x0 < 0 then f_X10_isByte_15 z else f_X10_isByte_4 z x0
theorem b_X10_isByte_0 {p : Program} {l : Launch} {e : Env} {s : State} {m : MethodId} {args : Array Value} {below : List Frame} {meth : Method} {c : Code} {g : Ga} {A : Nat → Prop} (C : Cx l g A p s m args c cX10_isByte 1 RX10 (rm_X10_isByte) (0, 0)) (hr : meth.sig.returnType = (some .boolean)) (hk : meth.locks = false)   (z : St) (x0 : Int32)  {res : St × Int32} (hf : f_X10_isByte_0  z x0 = some res) : Zj p l e (rm_X10_isByte) s m args below meth c g A 1 (0, 0) (QI g A below args s res) z 0 [(0, .int x0)] [] := by
  unfold f_X10_isByte_0 at hf
  refine z_iload_n C dX10_isByte_0 rfl 0 rfl ?_
  exact z_if_lt C dX10_isByte_1 (by decide) (fun h => z_sub [] rfl (b_X10_isByte_15 C hr hk z (q_t hf h))) (fun h => z_sub [0] rfl (b_X10_isByte_4 C hr hk z x0 (q_f hf h)))
def f_X10_isByte (z : St) (x0 : Int32) : Option (St × Int32) := f_X10_isByte_0 z x0
theorem c_X10_isByte {l : Launch} {g : Ga} {A : Nat → Prop} {z : St} {x0 : Int32}  {res : St × Int32} (hf : f_X10_isByte z x0 = some res) : CI l g A yX10_isByte cX10_isByte 1 (some .boolean) rm_X10_isByte [.int x0] z res :=
  e_CI (by decide) (Nat.le_of_ble_eq_true rfl) rfl (fun p e s m args below meth c C hr hk => z_sub [0] rfl (b_X10_isByte_0 C hr hk z x0  hf))
abbrev rm_X10_feed : Room := { frames := 1, cells := 0, slots := 0, locals := 21 }
def f_X10_feed_48  (z : St)  : Option (St × Int32) :=
  some (z, (-2))
theorem b_X10_feed_48 {p : Program} {l : Launch} {e : Env} {s : State} {m : MethodId} {args : Array Value} {below : List Frame} {meth : Method} {c : Code} {g : Ga} {A : Nat → Prop} (C : Cx l g A p s m args c cX10_feed 7 RX10 (rm_X10_feed) (0, 0)) (hr : meth.sig.returnType = (some .int)) (hk : meth.locks = false)   (z : St)   {res : St × Int32} (hf : f_X10_feed_48  z  = some res) : Zj p l e (rm_X10_feed) s m args below meth c g A 7 (0, 0) (QI g A below args s res) z 48 [] [] := by
  unfold f_X10_feed_48 at hf
  refine z_bipush C dX10_feed_48 (v := (-2)) (by decide) ?_
  cases hf
  exact z_iret C hr hk dX10_feed_50
def f_X10_feed_62  (z : St)  : Option (St × Int32) :=
  some (z, (-4))
theorem b_X10_feed_62 {p : Program} {l : Launch} {e : Env} {s : State} {m : MethodId} {args : Array Value} {below : List Frame} {meth : Method} {c : Code} {g : Ga} {A : Nat → Prop} (C : Cx l g A p s m args c cX10_feed 7 RX10 (rm_X10_feed) (0, 0)) (hr : meth.sig.returnType = (some .int)) (hk : meth.locks = false)   (z : St)   {res : St × Int32} (hf : f_X10_feed_62  z  = some res) : Zj p l e (rm_X10_feed) s m args below meth c g A 7 (0, 0) (QI g A below args s res) z 62 [] [] := by
  unfold f_X10_feed_62 at hf
  refine z_bipush C dX10_feed_62 (v := (-4)) (by decide) ?_
  cases hf
  exact z_iret C hr hk dX10_feed_64
def f_X10_feed_128  (z : St) (o0 : Nat) : Option (St × Int32) :=
  some (z, z.1 (rf o0 3) 1)
theorem b_X10_feed_128 {p : Program} {l : Launch} {e : Env} {s : State} {m : MethodId} {args : Array Value} {below : List Frame} {meth : Method} {c : Code} {g : Ga} {A : Nat → Prop} (C : Cx l g A p s m args c cX10_feed 7 RX10 (rm_X10_feed) (0, 0)) (hr : meth.sig.returnType = (some .int)) (hk : meth.locks = false)   (z : St) (o0 : Nat) (ho0 : kd o0 = 10) {res : St × Int32} (hf : f_X10_feed_128  z o0 = some res) : Zj p l e (rm_X10_feed) s m args below meth c g A 7 (0, 0) (QI g A below args s res) z 128 [(0, .ref (g.1 o0))] [] := by
  unfold f_X10_feed_128 at hf
  refine z_aload_n C dX10_feed_128 rfl 0 rfl ?_
  refine gf_X10_25 C dX10_feed_129 ho0 ?_
  refine gf_X10_102 C dX10_feed_132 (rt_10_3 _ (kd_lt ho0 (by decide)) ho0) ?_
  cases hf
  exact z_iret C hr hk dX10_feed_135
def f_X10_feed_119  (z : St) (o0 : Nat) (x6 : Int32) : Option (St × Int32) :=
  ((f_X8_add z (rf o0 3) x6).bind fun r1 => f_X10_feed_128 r1 o0)
theorem b_X10_feed_119 {p : Program} {l : Launch} {e : Env} {s : State} {m : MethodId} {args : Array Value} {below : List Frame} {meth : Method} {c : Code} {g : Ga} {A : Nat → Prop} (C : Cx l g A p s m args c cX10_feed 7 RX10 (rm_X10_feed) (0, 0)) (hr : meth.sig.returnType = (some .int)) (hk : meth.locks = false)   (z : St) (o0 : Nat) (x6 : Int32) (ho0 : kd o0 = 10) {res : St × Int32} (hf : f_X10_feed_119  z o0 x6 = some res) : Zj p l e (rm_X10_feed) s m args below meth c g A 7 (0, 0) (QI g A below args s res) z 119 [(0, .ref (g.1 o0)), (6, .int x6)] [] := by
  unfold f_X10_feed_119 at hf
  refine z_aload_n C dX10_feed_119 rfl 0 rfl ?_
  refine gf_X10_25 C dX10_feed_120 ho0 ?_
  refine z_iload C dX10_feed_123 1 rfl ?_
  obtain ⟨r1, hc2, hf⟩ := q_bd hf
  refine z_cVv C (st := []) (c_X8_add (rt_10_3 _ (kd_lt ho0 (by decide)) ho0) hc2) mw_X8_add ml_X10_98 (rt_10_3 _ (kd_lt ho0 (by decide)) ho0) (by decide) rfl dX10_feed_125 rfl rfl rfl ⟨Nat.le_of_ble_eq_true rfl, Nat.le_of_ble_eq_true rfl⟩ rfl (Nat.le_of_ble_eq_true rfl) ?_
  exact z_sub [0] rfl (b_X10_feed_128 C hr hk r1 o0 ho0 hf)
def f_X10_feed_114  (z : St) (o0 : Nat) (x1 : Int32) (x6 : Int32) : Option (St × Int32) :=
  if x1 ≤ 4 then f_X10_feed_128 z o0 else f_X10_feed_119 z o0 x6
theorem b_X10_feed_114 {p : Program} {l : Launch} {e : Env} {s : State} {m : MethodId} {args : Array Value} {below : List Frame} {meth : Method} {c : Code} {g : Ga} {A : Nat → Prop} (C : Cx l g A p s m args c cX10_feed 7 RX10 (rm_X10_feed) (0, 0)) (hr : meth.sig.returnType = (some .int)) (hk : meth.locks = false)   (z : St) (o0 : Nat) (x1 : Int32) (x6 : Int32) (ho0 : kd o0 = 10) {res : St × Int32} (hf : f_X10_feed_114  z o0 x1 x6 = some res) : Zj p l e (rm_X10_feed) s m args below meth c g A 7 (0, 0) (QI g A below args s res) z 114 [(0, .ref (g.1 o0)), (1, .int x1), (6, .int x6)] [] := by
  unfold f_X10_feed_114 at hf
  refine z_iload_n C dX10_feed_114 rfl 1 rfl ?_
  refine z_iconst C dX10_feed_115 (v := 4) (by decide) ?_
  exact z_icmp_le C dX10_feed_116 (by decide) (fun h => z_sub [0] rfl (b_X10_feed_128 C hr hk z o0 ho0 (q_t hf h))) (fun h => z_sub [0, 2] rfl (b_X10_feed_119 C hr hk z o0 x6 ho0 (q_f hf h)))
def f_X10_feed_105  (z : St) (o0 : Nat) (x1 : Int32) (x5 : Int32) (x6 : Int32) : Option (St × Int32) :=
  ((f_X8_add z (rf o0 3) x5).bind fun r1 => f_X10_feed_114 r1 o0 x1 x6)
theorem b_X10_feed_105 {p : Program} {l : Launch} {e : Env} {s : State} {m : MethodId} {args : Array Value} {below : List Frame} {meth : Method} {c : Code} {g : Ga} {A : Nat → Prop} (C : Cx l g A p s m args c cX10_feed 7 RX10 (rm_X10_feed) (0, 0)) (hr : meth.sig.returnType = (some .int)) (hk : meth.locks = false)   (z : St) (o0 : Nat) (x1 : Int32) (x5 : Int32) (x6 : Int32) (ho0 : kd o0 = 10) {res : St × Int32} (hf : f_X10_feed_105  z o0 x1 x5 x6 = some res) : Zj p l e (rm_X10_feed) s m args below meth c g A 7 (0, 0) (QI g A below args s res) z 105 [(0, .ref (g.1 o0)), (1, .int x1), (5, .int x5), (6, .int x6)] [] := by
  unfold f_X10_feed_105 at hf
  refine z_aload_n C dX10_feed_105 rfl 0 rfl ?_
  refine gf_X10_25 C dX10_feed_106 ho0 ?_
  refine z_iload C dX10_feed_109 2 rfl ?_
  obtain ⟨r1, hc2, hf⟩ := q_bd hf
  refine z_cVv C (st := []) (c_X8_add (rt_10_3 _ (kd_lt ho0 (by decide)) ho0) hc2) mw_X8_add ml_X10_98 (rt_10_3 _ (kd_lt ho0 (by decide)) ho0) (by decide) rfl dX10_feed_111 rfl rfl rfl ⟨Nat.le_of_ble_eq_true rfl, Nat.le_of_ble_eq_true rfl⟩ rfl (Nat.le_of_ble_eq_true rfl) ?_
  exact z_sub [0, 1, 3] rfl (b_X10_feed_114 C hr hk r1 o0 x1 x6 ho0 hf)
def f_X10_feed_100  (z : St) (o0 : Nat) (x1 : Int32) (x5 : Int32) (x6 : Int32) : Option (St × Int32) :=
  if x1 ≤ 3 then f_X10_feed_114 z o0 x1 x6 else f_X10_feed_105 z o0 x1 x5 x6
theorem b_X10_feed_100 {p : Program} {l : Launch} {e : Env} {s : State} {m : MethodId} {args : Array Value} {below : List Frame} {meth : Method} {c : Code} {g : Ga} {A : Nat → Prop} (C : Cx l g A p s m args c cX10_feed 7 RX10 (rm_X10_feed) (0, 0)) (hr : meth.sig.returnType = (some .int)) (hk : meth.locks = false)   (z : St) (o0 : Nat) (x1 : Int32) (x5 : Int32) (x6 : Int32) (ho0 : kd o0 = 10) {res : St × Int32} (hf : f_X10_feed_100  z o0 x1 x5 x6 = some res) : Zj p l e (rm_X10_feed) s m args below meth c g A 7 (0, 0) (QI g A below args s res) z 100 [(0, .ref (g.1 o0)), (1, .int x1), (5, .int x5), (6, .int x6)] [] := by
  unfold f_X10_feed_100 at hf
  refine z_iload_n C dX10_feed_100 rfl 1 rfl ?_
  refine z_iconst C dX10_feed_101 (v := 3) (by decide) ?_
  exact z_icmp_le C dX10_feed_102 (by decide) (fun h => z_sub [0, 1, 3] rfl (b_X10_feed_114 C hr hk z o0 x1 x6 ho0 (q_t hf h))) (fun h => z_sub [0, 1, 2, 3] rfl (b_X10_feed_105 C hr hk z o0 x1 x5 x6 ho0 (q_f hf h)))
def f_X10_feed_91  (z : St) (o0 : Nat) (x1 : Int32) (x4 : Int32) (x5 : Int32) (x6 : Int32) : Option (St × Int32) :=
  ((f_X8_add z (rf o0 3) x4).bind fun r1 => f_X10_feed_100 r1 o0 x1 x5 x6)
theorem b_X10_feed_91 {p : Program} {l : Launch} {e : Env} {s : State} {m : MethodId} {args : Array Value} {below : List Frame} {meth : Method} {c : Code} {g : Ga} {A : Nat → Prop} (C : Cx l g A p s m args c cX10_feed 7 RX10 (rm_X10_feed) (0, 0)) (hr : meth.sig.returnType = (some .int)) (hk : meth.locks = false)   (z : St) (o0 : Nat) (x1 : Int32) (x4 : Int32) (x5 : Int32) (x6 : Int32) (ho0 : kd o0 = 10) {res : St × Int32} (hf : f_X10_feed_91  z o0 x1 x4 x5 x6 = some res) : Zj p l e (rm_X10_feed) s m args below meth c g A 7 (0, 0) (QI g A below args s res) z 91 [(0, .ref (g.1 o0)), (1, .int x1), (4, .int x4), (5, .int x5), (6, .int x6)] [] := by
  unfold f_X10_feed_91 at hf
  refine z_aload_n C dX10_feed_91 rfl 0 rfl ?_
  refine gf_X10_25 C dX10_feed_92 ho0 ?_
  refine z_iload C dX10_feed_95 2 rfl ?_
  obtain ⟨r1, hc2, hf⟩ := q_bd hf
  refine z_cVv C (st := []) (c_X8_add (rt_10_3 _ (kd_lt ho0 (by decide)) ho0) hc2) mw_X8_add ml_X10_98 (rt_10_3 _ (kd_lt ho0 (by decide)) ho0) (by decide) rfl dX10_feed_97 rfl rfl rfl ⟨Nat.le_of_ble_eq_true rfl, Nat.le_of_ble_eq_true rfl⟩ rfl (Nat.le_of_ble_eq_true rfl) ?_
  exact z_sub [0, 1, 3, 4] rfl (b_X10_feed_100 C hr hk r1 o0 x1 x5 x6 ho0 hf)
def f_X10_feed_86  (z : St) (o0 : Nat) (x1 : Int32) (x4 : Int32) (x5 : Int32) (x6 : Int32) : Option (St × Int32) :=
  if x1 ≤ 2 then f_X10_feed_100 z o0 x1 x5 x6 else f_X10_feed_91 z o0 x1 x4 x5 x6
theorem b_X10_feed_86 {p : Program} {l : Launch} {e : Env} {s : State} {m : MethodId} {args : Array Value} {below : List Frame} {meth : Method} {c : Code} {g : Ga} {A : Nat → Prop} (C : Cx l g A p s m args c cX10_feed 7 RX10 (rm_X10_feed) (0, 0)) (hr : meth.sig.returnType = (some .int)) (hk : meth.locks = false)   (z : St) (o0 : Nat) (x1 : Int32) (x4 : Int32) (x5 : Int32) (x6 : Int32) (ho0 : kd o0 = 10) {res : St × Int32} (hf : f_X10_feed_86  z o0 x1 x4 x5 x6 = some res) : Zj p l e (rm_X10_feed) s m args below meth c g A 7 (0, 0) (QI g A below args s res) z 86 [(0, .ref (g.1 o0)), (1, .int x1), (4, .int x4), (5, .int x5), (6, .int x6)] [] := by
  unfold f_X10_feed_86 at hf
  refine z_iload_n C dX10_feed_86 rfl 1 rfl ?_
  refine z_iconst C dX10_feed_87 (v := 2) (by decide) ?_
  exact z_icmp_le C dX10_feed_88 (by decide) (fun h => z_sub [0, 1, 3, 4] rfl (b_X10_feed_100 C hr hk z o0 x1 x5 x6 ho0 (q_t hf h))) (fun h => z_sub [0, 1, 2, 3, 4] rfl (b_X10_feed_91 C hr hk z o0 x1 x4 x5 x6 ho0 (q_f hf h)))
def f_X10_feed_78  (z : St) (o0 : Nat) (x1 : Int32) (x3 : Int32) (x4 : Int32) (x5 : Int32) (x6 : Int32) : Option (St × Int32) :=
  ((f_X8_add z (rf o0 3) x3).bind fun r1 => f_X10_feed_86 r1 o0 x1 x4 x5 x6)
theorem b_X10_feed_78 {p : Program} {l : Launch} {e : Env} {s : State} {m : MethodId} {args : Array Value} {below : List Frame} {meth : Method} {c : Code} {g : Ga} {A : Nat → Prop} (C : Cx l g A p s m args c cX10_feed 7 RX10 (rm_X10_feed) (0, 0)) (hr : meth.sig.returnType = (some .int)) (hk : meth.locks = false)   (z : St) (o0 : Nat) (x1 : Int32) (x3 : Int32) (x4 : Int32) (x5 : Int32) (x6 : Int32) (ho0 : kd o0 = 10) {res : St × Int32} (hf : f_X10_feed_78  z o0 x1 x3 x4 x5 x6 = some res) : Zj p l e (rm_X10_feed) s m args below meth c g A 7 (0, 0) (QI g A below args s res) z 78 [(0, .ref (g.1 o0)), (1, .int x1), (3, .int x3), (4, .int x4), (5, .int x5), (6, .int x6)] [] := by
  unfold f_X10_feed_78 at hf
  refine z_aload_n C dX10_feed_78 rfl 0 rfl ?_
  refine gf_X10_25 C dX10_feed_79 ho0 ?_
  refine z_iload_n C dX10_feed_82 rfl 2 rfl ?_
  obtain ⟨r1, hc2, hf⟩ := q_bd hf
  refine z_cVv C (st := []) (c_X8_add (rt_10_3 _ (kd_lt ho0 (by decide)) ho0) hc2) mw_X8_add ml_X10_98 (rt_10_3 _ (kd_lt ho0 (by decide)) ho0) (by decide) rfl dX10_feed_83 rfl rfl rfl ⟨Nat.le_of_ble_eq_true rfl, Nat.le_of_ble_eq_true rfl⟩ rfl (Nat.le_of_ble_eq_true rfl) ?_
  exact z_sub [0, 1, 3, 4, 5] rfl (b_X10_feed_86 C hr hk r1 o0 x1 x4 x5 x6 ho0 hf)
def f_X10_feed_65  (z : St) (o0 : Nat) (x1 : Int32) (x2 : Int32) (x3 : Int32) (x4 : Int32) (x5 : Int32) (x6 : Int32) : Option (St × Int32) :=
  ((f_X8_add z (rf o0 3) x2).bind fun r1 => if x1 ≤ 1 then f_X10_feed_86 r1 o0 x1 x4 x5 x6 else f_X10_feed_78 r1 o0 x1 x3 x4 x5 x6)
theorem b_X10_feed_65 {p : Program} {l : Launch} {e : Env} {s : State} {m : MethodId} {args : Array Value} {below : List Frame} {meth : Method} {c : Code} {g : Ga} {A : Nat → Prop} (C : Cx l g A p s m args c cX10_feed 7 RX10 (rm_X10_feed) (0, 0)) (hr : meth.sig.returnType = (some .int)) (hk : meth.locks = false)   (z : St) (o0 : Nat) (x1 : Int32) (x2 : Int32) (x3 : Int32) (x4 : Int32) (x5 : Int32) (x6 : Int32) (ho0 : kd o0 = 10) {res : St × Int32} (hf : f_X10_feed_65  z o0 x1 x2 x3 x4 x5 x6 = some res) : Zj p l e (rm_X10_feed) s m args below meth c g A 7 (0, 0) (QI g A below args s res) z 65 [(0, .ref (g.1 o0)), (1, .int x1), (2, .int x2), (3, .int x3), (4, .int x4), (5, .int x5), (6, .int x6)] [] := by
  unfold f_X10_feed_65 at hf
  refine z_aload_n C dX10_feed_65 rfl 0 rfl ?_
  refine gf_X10_25 C dX10_feed_66 ho0 ?_
  refine z_iload_n C dX10_feed_69 rfl 2 rfl ?_
  obtain ⟨r1, hc2, hf⟩ := q_bd hf
  refine z_cVv C (st := []) (c_X8_add (rt_10_3 _ (kd_lt ho0 (by decide)) ho0) hc2) mw_X8_add ml_X10_98 (rt_10_3 _ (kd_lt ho0 (by decide)) ho0) (by decide) rfl dX10_feed_70 rfl rfl rfl ⟨Nat.le_of_ble_eq_true rfl, Nat.le_of_ble_eq_true rfl⟩ rfl (Nat.le_of_ble_eq_true rfl) ?_
  refine z_iload_n C dX10_feed_73 rfl 1 rfl ?_
  refine z_iconst C dX10_feed_74 (v := 1) (by decide) ?_
  exact z_icmp_le C dX10_feed_75 (by decide) (fun h => z_sub [0, 1, 4, 5, 6] rfl (b_X10_feed_86 C hr hk r1 o0 x1 x4 x5 x6 ho0 (q_t hf h))) (fun h => z_sub [0, 1, 3, 4, 5, 6] rfl (b_X10_feed_78 C hr hk r1 o0 x1 x3 x4 x5 x6 ho0 (q_f hf h)))
def f_X10_feed_51  (z : St) (o0 : Nat) (x1 : Int32) (x2 : Int32) (x3 : Int32) (x4 : Int32) (x5 : Int32) (x6 : Int32) : Option (St × Int32) :=
  ((f_X8_hasRoom z (rf o0 3) x1).bind fun r1 => if r1.2 = 0 then f_X10_feed_62 r1.1 else f_X10_feed_65 r1.1 o0 x1 x2 x3 x4 x5 x6)
theorem b_X10_feed_51 {p : Program} {l : Launch} {e : Env} {s : State} {m : MethodId} {args : Array Value} {below : List Frame} {meth : Method} {c : Code} {g : Ga} {A : Nat → Prop} (C : Cx l g A p s m args c cX10_feed 7 RX10 (rm_X10_feed) (0, 0)) (hr : meth.sig.returnType = (some .int)) (hk : meth.locks = false)   (z : St) (o0 : Nat) (x1 : Int32) (x2 : Int32) (x3 : Int32) (x4 : Int32) (x5 : Int32) (x6 : Int32) (ho0 : kd o0 = 10) {res : St × Int32} (hf : f_X10_feed_51  z o0 x1 x2 x3 x4 x5 x6 = some res) : Zj p l e (rm_X10_feed) s m args below meth c g A 7 (0, 0) (QI g A below args s res) z 51 [(0, .ref (g.1 o0)), (1, .int x1), (2, .int x2), (3, .int x3), (4, .int x4), (5, .int x5), (6, .int x6)] [] := by
  unfold f_X10_feed_51 at hf
  refine z_aload_n C dX10_feed_51 rfl 0 rfl ?_
  refine gf_X10_25 C dX10_feed_52 ho0 ?_
  refine z_iload_n C dX10_feed_55 rfl 1 rfl ?_
  obtain ⟨r1, hc2, hf⟩ := q_bd hf
  refine z_cVi C (st := []) (c_X8_hasRoom (rt_10_3 _ (kd_lt ho0 (by decide)) ho0) hc2) mw_X8_hasRoom ml_X10_95 (rt_10_3 _ (kd_lt ho0 (by decide)) ho0) (by decide) rfl dX10_feed_56 rfl rfl rfl ⟨Nat.le_of_ble_eq_true rfl, Nat.le_of_ble_eq_true rfl⟩ rfl (Nat.le_of_ble_eq_true rfl) ?_
  exact z_if_ne C dX10_feed_59 (by decide) (fun h => z_sub [0, 1, 2, 3, 4, 5, 6] rfl (b_X10_feed_65 C hr hk r1.1 o0 x1 x2 x3 x4 x5 x6 ho0 (q_f hf h))) (fun h => z_sub [] rfl (b_X10_feed_62 C hr hk r1.1 (q_t hf h)))
def f_X10_feed_40  (z : St) (o0 : Nat) (x1 : Int32) (x2 : Int32) (x3 : Int32) (x4 : Int32) (x5 : Int32) (x6 : Int32) : Option (St × Int32) :=
  ((f_X10_isByte z x6).bind fun r1 => if r1.2 = 0 then f_X10_feed_48 r1.1 else f_X10_feed_51 r1.1 o0 x1 x2 x3 x4 x5 x6)
theorem b_X10_feed_40 {p : Program} {l : Launch} {e : Env} {s : State} {m : MethodId} {args : Array Value} {below : List Frame} {meth : Method} {c : Code} {g : Ga} {A : Nat → Prop} (C : Cx l g A p s m args c cX10_feed 7 RX10 (rm_X10_feed) (0, 0)) (hr : meth.sig.returnType = (some .int)) (hk : meth.locks = false)   (z : St) (o0 : Nat) (x1 : Int32) (x2 : Int32) (x3 : Int32) (x4 : Int32) (x5 : Int32) (x6 : Int32) (ho0 : kd o0 = 10) {res : St × Int32} (hf : f_X10_feed_40  z o0 x1 x2 x3 x4 x5 x6 = some res) : Zj p l e (rm_X10_feed) s m args below meth c g A 7 (0, 0) (QI g A below args s res) z 40 [(0, .ref (g.1 o0)), (1, .int x1), (2, .int x2), (3, .int x3), (4, .int x4), (5, .int x5), (6, .int x6)] [] := by
  unfold f_X10_feed_40 at hf
  refine z_iload C dX10_feed_40 6 rfl ?_
  obtain ⟨r1, hc2, hf⟩ := q_bd hf
  refine z_cSi C (st := []) (c_X10_isByte  hc2) mw_X10_isByte ml_X10_91 dX10_feed_42 rfl rfl rfl ⟨Nat.le_of_ble_eq_true rfl, Nat.le_of_ble_eq_true rfl⟩ rfl (Nat.le_of_ble_eq_true rfl) ?_
  exact z_if_ne C dX10_feed_45 (by decide) (fun h => z_sub [0, 1, 2, 3, 4, 5, 6] rfl (b_X10_feed_51 C hr hk r1.1 o0 x1 x2 x3 x4 x5 x6 ho0 (q_f hf h))) (fun h => z_sub [] rfl (b_X10_feed_48 C hr hk r1.1 (q_t hf h)))
def f_X10_feed_32  (z : St) (o0 : Nat) (x1 : Int32) (x2 : Int32) (x3 : Int32) (x4 : Int32) (x5 : Int32) (x6 : Int32) : Option (St × Int32) :=
  ((f_X10_isByte z x5).bind fun r1 => if r1.2 = 0 then f_X10_feed_48 r1.1 else f_X10_feed_40 r1.1 o0 x1 x2 x3 x4 x5 x6)
theorem b_X10_feed_32 {p : Program} {l : Launch} {e : Env} {s : State} {m : MethodId} {args : Array Value} {below : List Frame} {meth : Method} {c : Code} {g : Ga} {A : Nat → Prop} (C : Cx l g A p s m args c cX10_feed 7 RX10 (rm_X10_feed) (0, 0)) (hr : meth.sig.returnType = (some .int)) (hk : meth.locks = false)   (z : St) (o0 : Nat) (x1 : Int32) (x2 : Int32) (x3 : Int32) (x4 : Int32) (x5 : Int32) (x6 : Int32) (ho0 : kd o0 = 10) {res : St × Int32} (hf : f_X10_feed_32  z o0 x1 x2 x3 x4 x5 x6 = some res) : Zj p l e (rm_X10_feed) s m args below meth c g A 7 (0, 0) (QI g A below args s res) z 32 [(0, .ref (g.1 o0)), (1, .int x1), (2, .int x2), (3, .int x3), (4, .int x4), (5, .int x5), (6, .int x6)] [] := by
  unfold f_X10_feed_32 at hf
  refine z_iload C dX10_feed_32 5 rfl ?_
  obtain ⟨r1, hc2, hf⟩ := q_bd hf
  refine z_cSi C (st := []) (c_X10_isByte  hc2) mw_X10_isByte ml_X10_91 dX10_feed_34 rfl rfl rfl ⟨Nat.le_of_ble_eq_true rfl, Nat.le_of_ble_eq_true rfl⟩ rfl (Nat.le_of_ble_eq_true rfl) ?_
  exact z_if_eq C dX10_feed_37 (by decide) (fun h => z_sub [] rfl (b_X10_feed_48 C hr hk r1.1 (q_t hf h))) (fun h => z_sub [0, 1, 2, 3, 4, 5, 6] rfl (b_X10_feed_40 C hr hk r1.1 o0 x1 x2 x3 x4 x5 x6 ho0 (q_f hf h)))
def f_X10_feed_24  (z : St) (o0 : Nat) (x1 : Int32) (x2 : Int32) (x3 : Int32) (x4 : Int32) (x5 : Int32) (x6 : Int32) : Option (St × Int32) :=
  ((f_X10_isByte z x4).bind fun r1 => if r1.2 = 0 then f_X10_feed_48 r1.1 else f_X10_feed_32 r1.1 o0 x1 x2 x3 x4 x5 x6)
theorem b_X10_feed_24 {p : Program} {l : Launch} {e : Env} {s : State} {m : MethodId} {args : Array Value} {below : List Frame} {meth : Method} {c : Code} {g : Ga} {A : Nat → Prop} (C : Cx l g A p s m args c cX10_feed 7 RX10 (rm_X10_feed) (0, 0)) (hr : meth.sig.returnType = (some .int)) (hk : meth.locks = false)   (z : St) (o0 : Nat) (x1 : Int32) (x2 : Int32) (x3 : Int32) (x4 : Int32) (x5 : Int32) (x6 : Int32) (ho0 : kd o0 = 10) {res : St × Int32} (hf : f_X10_feed_24  z o0 x1 x2 x3 x4 x5 x6 = some res) : Zj p l e (rm_X10_feed) s m args below meth c g A 7 (0, 0) (QI g A below args s res) z 24 [(0, .ref (g.1 o0)), (1, .int x1), (2, .int x2), (3, .int x3), (4, .int x4), (5, .int x5), (6, .int x6)] [] := by
  unfold f_X10_feed_24 at hf
  refine z_iload C dX10_feed_24 4 rfl ?_
  obtain ⟨r1, hc2, hf⟩ := q_bd hf
  refine z_cSi C (st := []) (c_X10_isByte  hc2) mw_X10_isByte ml_X10_91 dX10_feed_26 rfl rfl rfl ⟨Nat.le_of_ble_eq_true rfl, Nat.le_of_ble_eq_true rfl⟩ rfl (Nat.le_of_ble_eq_true rfl) ?_
  exact z_if_eq C dX10_feed_29 (by decide) (fun h => z_sub [] rfl (b_X10_feed_48 C hr hk r1.1 (q_t hf h))) (fun h => z_sub [0, 1, 2, 3, 4, 5, 6] rfl (b_X10_feed_32 C hr hk r1.1 o0 x1 x2 x3 x4 x5 x6 ho0 (q_f hf h)))
def f_X10_feed_17  (z : St) (o0 : Nat) (x1 : Int32) (x2 : Int32) (x3 : Int32) (x4 : Int32) (x5 : Int32) (x6 : Int32) : Option (St × Int32) :=
  ((f_X10_isByte z x3).bind fun r1 => if r1.2 = 0 then f_X10_feed_48 r1.1 else f_X10_feed_24 r1.1 o0 x1 x2 x3 x4 x5 x6)
theorem b_X10_feed_17 {p : Program} {l : Launch} {e : Env} {s : State} {m : MethodId} {args : Array Value} {below : List Frame} {meth : Method} {c : Code} {g : Ga} {A : Nat → Prop} (C : Cx l g A p s m args c cX10_feed 7 RX10 (rm_X10_feed) (0, 0)) (hr : meth.sig.returnType = (some .int)) (hk : meth.locks = false)   (z : St) (o0 : Nat) (x1 : Int32) (x2 : Int32) (x3 : Int32) (x4 : Int32) (x5 : Int32) (x6 : Int32) (ho0 : kd o0 = 10) {res : St × Int32} (hf : f_X10_feed_17  z o0 x1 x2 x3 x4 x5 x6 = some res) : Zj p l e (rm_X10_feed) s m args below meth c g A 7 (0, 0) (QI g A below args s res) z 17 [(0, .ref (g.1 o0)), (1, .int x1), (2, .int x2), (3, .int x3), (4, .int x4), (5, .int x5), (6, .int x6)] [] := by
  unfold f_X10_feed_17 at hf
  refine z_iload_n C dX10_feed_17 rfl 3 rfl ?_
  obtain ⟨r1, hc2, hf⟩ := q_bd hf
  refine z_cSi C (st := []) (c_X10_isByte  hc2) mw_X10_isByte ml_X10_91 dX10_feed_18 rfl rfl rfl ⟨Nat.le_of_ble_eq_true rfl, Nat.le_of_ble_eq_true rfl⟩ rfl (Nat.le_of_ble_eq_true rfl) ?_
  exact z_if_eq C dX10_feed_21 (by decide) (fun h => z_sub [] rfl (b_X10_feed_48 C hr hk r1.1 (q_t hf h))) (fun h => z_sub [0, 1, 2, 3, 4, 5, 6] rfl (b_X10_feed_24 C hr hk r1.1 o0 x1 x2 x3 x4 x5 x6 ho0 (q_f hf h)))
def f_X10_feed_10  (z : St) (o0 : Nat) (x1 : Int32) (x2 : Int32) (x3 : Int32) (x4 : Int32) (x5 : Int32) (x6 : Int32) : Option (St × Int32) :=
  ((f_X10_isByte z x2).bind fun r1 => if r1.2 = 0 then f_X10_feed_48 r1.1 else f_X10_feed_17 r1.1 o0 x1 x2 x3 x4 x5 x6)
theorem b_X10_feed_10 {p : Program} {l : Launch} {e : Env} {s : State} {m : MethodId} {args : Array Value} {below : List Frame} {meth : Method} {c : Code} {g : Ga} {A : Nat → Prop} (C : Cx l g A p s m args c cX10_feed 7 RX10 (rm_X10_feed) (0, 0)) (hr : meth.sig.returnType = (some .int)) (hk : meth.locks = false)   (z : St) (o0 : Nat) (x1 : Int32) (x2 : Int32) (x3 : Int32) (x4 : Int32) (x5 : Int32) (x6 : Int32) (ho0 : kd o0 = 10) {res : St × Int32} (hf : f_X10_feed_10  z o0 x1 x2 x3 x4 x5 x6 = some res) : Zj p l e (rm_X10_feed) s m args below meth c g A 7 (0, 0) (QI g A below args s res) z 10 [(0, .ref (g.1 o0)), (1, .int x1), (2, .int x2), (3, .int x3), (4, .int x4), (5, .int x5), (6, .int x6)] [] := by
  unfold f_X10_feed_10 at hf
  refine z_iload_n C dX10_feed_10 rfl 2 rfl ?_
  obtain ⟨r1, hc2, hf⟩ := q_bd hf
  refine z_cSi C (st := []) (c_X10_isByte  hc2) mw_X10_isByte ml_X10_91 dX10_feed_11 rfl rfl rfl ⟨Nat.le_of_ble_eq_true rfl, Nat.le_of_ble_eq_true rfl⟩ rfl (Nat.le_of_ble_eq_true rfl) ?_
  exact z_if_eq C dX10_feed_14 (by decide) (fun h => z_sub [] rfl (b_X10_feed_48 C hr hk r1.1 (q_t hf h))) (fun h => z_sub [0, 1, 2, 3, 4, 5, 6] rfl (b_X10_feed_17 C hr hk r1.1 o0 x1 x2 x3 x4 x5 x6 ho0 (q_f hf h)))
def f_X10_feed_5  (z : St) (o0 : Nat) (x1 : Int32) (x2 : Int32) (x3 : Int32) (x4 : Int32) (x5 : Int32) (x6 : Int32) : Option (St × Int32) :=
  if 5 < x1 then f_X10_feed_48 z else f_X10_feed_10 z o0 x1 x2 x3 x4 x5 x6
theorem b_X10_feed_5 {p : Program} {l : Launch} {e : Env} {s : State} {m : MethodId} {args : Array Value} {below : List Frame} {meth : Method} {c : Code} {g : Ga} {A : Nat → Prop} (C : Cx l g A p s m args c cX10_feed 7 RX10 (rm_X10_feed) (0, 0)) (hr : meth.sig.returnType = (some .int)) (hk : meth.locks = false)   (z : St) (o0 : Nat) (x1 : Int32) (x2 : Int32) (x3 : Int32) (x4 : Int32) (x5 : Int32) (x6 : Int32) (ho0 : kd o0 = 10) {res : St × Int32} (hf : f_X10_feed_5  z o0 x1 x2 x3 x4 x5 x6 = some res) : Zj p l e (rm_X10_feed) s m args below meth c g A 7 (0, 0) (QI g A below args s res) z 5 [(0, .ref (g.1 o0)), (1, .int x1), (2, .int x2), (3, .int x3), (4, .int x4), (5, .int x5), (6, .int x6)] [] := by
  unfold f_X10_feed_5 at hf
  refine z_iload_n C dX10_feed_5 rfl 1 rfl ?_
  refine z_iconst C dX10_feed_6 (v := 5) (by decide) ?_
  exact z_icmp_gt C dX10_feed_7 (by decide) (fun h => z_sub [] rfl (b_X10_feed_48 C hr hk z (q_t hf h))) (fun h => z_sub [0, 1, 2, 3, 4, 5, 6] rfl (b_X10_feed_10 C hr hk z o0 x1 x2 x3 x4 x5 x6 ho0 (q_f hf h)))
def f_X10_feed_0  (z : St) (o0 : Nat) (x1 : Int32) (x2 : Int32) (x3 : Int32) (x4 : Int32) (x5 : Int32) (x6 : Int32) : Option (St × Int32) :=
  if x1 < 1 then f_X10_feed_48 z else f_X10_feed_5 z o0 x1 x2 x3 x4 x5 x6
theorem b_X10_feed_0 {p : Program} {l : Launch} {e : Env} {s : State} {m : MethodId} {args : Array Value} {below : List Frame} {meth : Method} {c : Code} {g : Ga} {A : Nat → Prop} (C : Cx l g A p s m args c cX10_feed 7 RX10 (rm_X10_feed) (0, 0)) (hr : meth.sig.returnType = (some .int)) (hk : meth.locks = false)   (z : St) (o0 : Nat) (x1 : Int32) (x2 : Int32) (x3 : Int32) (x4 : Int32) (x5 : Int32) (x6 : Int32) (ho0 : kd o0 = 10) {res : St × Int32} (hf : f_X10_feed_0  z o0 x1 x2 x3 x4 x5 x6 = some res) : Zj p l e (rm_X10_feed) s m args below meth c g A 7 (0, 0) (QI g A below args s res) z 0 [(0, .ref (g.1 o0)), (1, .int x1), (2, .int x2), (3, .int x3), (4, .int x4), (5, .int x5), (6, .int x6)] [] := by
  unfold f_X10_feed_0 at hf
  refine z_iload_n C dX10_feed_0 rfl 1 rfl ?_
  refine z_iconst C dX10_feed_1 (v := 1) (by decide) ?_
  exact z_icmp_lt C dX10_feed_2 (by decide) (fun h => z_sub [] rfl (b_X10_feed_48 C hr hk z (q_t hf h))) (fun h => z_sub [0, 1, 2, 3, 4, 5, 6] rfl (b_X10_feed_5 C hr hk z o0 x1 x2 x3 x4 x5 x6 ho0 (q_f hf h)))
def f_X10_feed (z : St) (o0 : Nat) (x1 : Int32) (x2 : Int32) (x3 : Int32) (x4 : Int32) (x5 : Int32) (x6 : Int32) : Option (St × Int32) := f_X10_feed_0 z o0 x1 x2 x3 x4 x5 x6
theorem c_X10_feed {l : Launch} {g : Ga} {A : Nat → Prop} {z : St} {o0 : Nat} {x1 : Int32} {x2 : Int32} {x3 : Int32} {x4 : Int32} {x5 : Int32} {x6 : Int32} (ho0 : kd o0 = 10) {res : St × Int32} (hf : f_X10_feed z o0 x1 x2 x3 x4 x5 x6 = some res) : CI l g A yX10_feed cX10_feed 7 (some .int) rm_X10_feed [.ref (g.1 o0), .int x1, .int x2, .int x3, .int x4, .int x5, .int x6] z res :=
  e_CI (by decide) (Nat.le_of_ble_eq_true rfl) rfl (fun p e s m args below meth c C hr hk => z_sub [0, 1, 2, 3, 4, 5, 6] rfl (b_X10_feed_0 C hr hk z o0 x1 x2 x3 x4 x5 x6 ho0 hf))
abbrev rm_X10_tellAnew : Room := { frames := 5, cells := 0, slots := 0, locals := 112 }
def f_X10_tellAnew_0  (z : St) (o0 : Nat) : Option (St) :=
  ((f_X4_readFrom z (rf o0 4) (rf o0 0)).bind fun r1 => ((f_X9_beginAnew r1 (rf o0 12)).bind fun r3 => some (zI r3 o0 15 0)))
theorem b_X10_tellAnew_0 {p : Program} {l : Launch} {e : Env} {s : State} {m : MethodId} {args : Array Value} {below : List Frame} {meth : Method} {c : Code} {g : Ga} {A : Nat → Prop} (C : Cx l g A p s m args c cX10_tellAnew 1 RX10 (rm_X10_tellAnew) (0, 0)) (hr : meth.sig.returnType = none) (hk : meth.locks = false)   (z : St) (o0 : Nat) (ho0 : kd o0 = 10) {res : St} (hf : f_X10_tellAnew_0  z o0 = some res) : Zj p l e (rm_X10_tellAnew) s m args below meth c g A 1 (0, 0) (QV g A below args s res) z 0 [(0, .ref (g.1 o0))] [] := by
  unfold f_X10_tellAnew_0 at hf
  refine z_aload_n C dX10_tellAnew_0 rfl 0 rfl ?_
  refine gf_X10_32 C dX10_tellAnew_1 ho0 ?_
  refine z_aload_n C dX10_tellAnew_4 rfl 0 rfl ?_
  refine gf_X10_10 C dX10_tellAnew_5 ho0 ?_
  obtain ⟨r1, hc2, hf⟩ := q_bd hf
  refine z_cVv C (st := []) (c_X4_readFrom (rt_10_4 _ (kd_lt ho0 (by decide)) ho0) (rt_10_0 _ (kd_lt ho0 (by decide)) ho0) hc2) mw_X4_readFrom ml_X10_331 (rt_10_4 _ (kd_lt ho0 (by decide)) ho0) (by decide) rfl dX10_tellAnew_8 rfl rfl rfl ⟨Nat.le_of_ble_eq_true rfl, Nat.le_of_ble_eq_true rfl⟩ rfl (Nat.le_of_ble_eq_true rfl) ?_
  refine z_aload_n C dX10_tellAnew_11 rfl 0 rfl ?_
  refine gf_X10_80 C dX10_tellAnew_12 ho0 ?_
  obtain ⟨r3, hc4, hf⟩ := q_bd hf
  refine z_cVv C (st := []) (c_X9_beginAnew (rt_10_12 _ (kd_lt ho0 (by decide)) ho0) hc4) mw_X9_beginAnew ml_X10_334 (rt_10_12 _ (kd_lt ho0 (by decide)) ho0) (by decide) rfl dX10_tellAnew_15 rfl rfl rfl ⟨Nat.le_of_ble_eq_true rfl, Nat.le_of_ble_eq_true rfl⟩ rfl (Nat.le_of_ble_eq_true rfl) ?_
  refine z_aload_n C dX10_tellAnew_18 rfl 0 rfl ?_
  refine z_iconst C dX10_tellAnew_19 (v := 0) (by decide) ?_
  refine pf_X10_337 C dX10_tellAnew_20 ho0 rfl rfl ?_
  cases hf
  exact z_vret C hr hk dX10_tellAnew_23
def f_X10_tellAnew (z : St) (o0 : Nat) : Option (St) := f_X10_tellAnew_0 z o0
theorem c_X10_tellAnew {l : Launch} {g : Ga} {A : Nat → Prop} {z : St} {o0 : Nat} (ho0 : kd o0 = 10) {res : St} (hf : f_X10_tellAnew z o0 = some res) : CV l g A yX10_tellAnew cX10_tellAnew 1 none rm_X10_tellAnew [.ref (g.1 o0)] z res :=
  e_CV (by decide) (Nat.le_of_ble_eq_true rfl) rfl (fun p e s m args below meth c C hr hk => z_sub [0] rfl (b_X10_tellAnew_0 C hr hk z o0 ho0 hf))
abbrev rm_X10_text : Room := { frames := 6, cells := 0, slots := 0, locals := 132 }
def f_X10_text_24  (z : St) (x1 : Int32) : Option (St × Int32) :=
  some (z, ((-100)) - x1)
theorem b_X10_text_24 {p : Program} {l : Launch} {e : Env} {s : State} {m : MethodId} {args : Array Value} {below : List Frame} {meth : Method} {c : Code} {g : Ga} {A : Nat → Prop} (C : Cx l g A p s m args c cX10_text 2 RX10 (rm_X10_text) (0, 0)) (hr : meth.sig.returnType = (some .int)) (hk : meth.locks = false)   (z : St) (x1 : Int32)  {res : St × Int32} (hf : f_X10_text_24  z x1 = some res) : Zj p l e (rm_X10_text) s m args below meth c g A 2 (0, 0) (QI g A below args s res) z 24 [(1, .int x1)] [] := by
  unfold f_X10_text_24 at hf
  refine z_bipush C dX10_text_24 (v := (-100)) (by decide) ?_
  refine z_iload_n C dX10_text_26 rfl 0 rfl ?_
  refine z_isub C dX10_text_27 ?_
  cases hf
  exact z_iret C hr hk dX10_text_28
def f_X10_text_46  (z : St)  : Option (St × Int32) :=
  some (z, (-4))
theorem b_X10_text_46 {p : Program} {l : Launch} {e : Env} {s : State} {m : MethodId} {args : Array Value} {below : List Frame} {meth : Method} {c : Code} {g : Ga} {A : Nat → Prop} (C : Cx l g A p s m args c cX10_text 2 RX10 (rm_X10_text) (0, 0)) (hr : meth.sig.returnType = (some .int)) (hk : meth.locks = false)   (z : St)   {res : St × Int32} (hf : f_X10_text_46  z  = some res) : Zj p l e (rm_X10_text) s m args below meth c g A 2 (0, 0) (QI g A below args s res) z 46 [] [] := by
  unfold f_X10_text_46 at hf
  refine z_bipush C dX10_text_46 (v := (-4)) (by decide) ?_
  cases hf
  exact z_iret C hr hk dX10_text_48
def f_X10_text_49  (z : St) (o0 : Nat) : Option (St × Int32) :=
  ((f_X2_addAll z (rf o0 0) (rf o0 2)).bind fun r1 => ((f_X10_tellAnew r1 o0).bind fun r3 => some (r3, r3.1 (rf o0 0) 1)))
theorem b_X10_text_49 {p : Program} {l : Launch} {e : Env} {s : State} {m : MethodId} {args : Array Value} {below : List Frame} {meth : Method} {c : Code} {g : Ga} {A : Nat → Prop} (C : Cx l g A p s m args c cX10_text 2 RX10 (rm_X10_text) (0, 0)) (hr : meth.sig.returnType = (some .int)) (hk : meth.locks = false)   (z : St) (o0 : Nat) (ho0 : kd o0 = 10) {res : St × Int32} (hf : f_X10_text_49  z o0 = some res) : Zj p l e (rm_X10_text) s m args below meth c g A 2 (0, 0) (QI g A below args s res) z 49 [(0, .ref (g.1 o0))] [] := by
  unfold f_X10_text_49 at hf
  refine z_aload_n C dX10_text_49 rfl 0 rfl ?_
  refine gf_X10_10 C dX10_text_50 ho0 ?_
  refine z_aload_n C dX10_text_53 rfl 0 rfl ?_
  refine gf_X10_19 C dX10_text_54 ho0 ?_
  obtain ⟨r1, hc2, hf⟩ := q_bd hf
  refine z_cVv C (st := []) (c_X2_addAll (rt_10_0 _ (kd_lt ho0 (by decide)) ho0) (rt_10_2 _ (kd_lt ho0 (by decide)) ho0) hc2) mw_X2_addAll ml_X10_115 (rt_10_0 _ (kd_lt ho0 (by decide)) ho0) (by decide) rfl dX10_text_57 rfl rfl rfl ⟨Nat.le_of_ble_eq_true rfl, Nat.le_of_ble_eq_true rfl⟩ rfl (Nat.le_of_ble_eq_true rfl) ?_
  refine z_aload_n C dX10_text_60 rfl 0 rfl ?_
  obtain ⟨r3, hc4, hf⟩ := q_bd hf
  refine z_cVv C (st := []) (c_X10_tellAnew ho0 hc4) mw_X10_tellAnew ml_X10_119 ho0 (by decide) rfl dX10_text_61 rfl rfl rfl ⟨Nat.le_of_ble_eq_true rfl, Nat.le_of_ble_eq_true rfl⟩ rfl (Nat.le_of_ble_eq_true rfl) ?_
  refine z_aload_n C dX10_text_64 rfl 0 rfl ?_
  refine gf_X10_10 C dX10_text_65 ho0 ?_
  refine gf_X10_113 C dX10_text_68 (rt_10_0 _ (kd_lt ho0 (by decide)) ho0) ?_
  cases hf
  exact z_iret C hr hk dX10_text_71
def f_X10_text_29  (z : St) (o0 : Nat) : Option (St × Int32) :=
  ((f_X2_hasRoom z (rf o0 0) (z.1 (rf o0 2) 1)).bind fun r1 => if r1.2 = 0 then f_X10_text_46 r1.1 else f_X10_text_49 r1.1 o0)
theorem b_X10_text_29 {p : Program} {l : Launch} {e : Env} {s : State} {m : MethodId} {args : Array Value} {below : List Frame} {meth : Method} {c : Code} {g : Ga} {A : Nat → Prop} (C : Cx l g A p s m args c cX10_text 2 RX10 (rm_X10_text) (0, 0)) (hr : meth.sig.returnType = (some .int)) (hk : meth.locks = false)   (z : St) (o0 : Nat) (ho0 : kd o0 = 10) {res : St × Int32} (hf : f_X10_text_29  z o0 = some res) : Zj p l e (rm_X10_text) s m args below meth c g A 2 (0, 0) (QI g A below args s res) z 29 [(0, .ref (g.1 o0))] [] := by
  unfold f_X10_text_29 at hf
  refine z_aload_n C dX10_text_29 rfl 0 rfl ?_
  refine gf_X10_10 C dX10_text_30 ho0 ?_
  refine z_aload_n C dX10_text_33 rfl 0 rfl ?_
  refine gf_X10_19 C dX10_text_34 ho0 ?_
  refine gf_X10_113 C dX10_text_37 (rt_10_2 _ (kd_lt ho0 (by decide)) ho0) ?_
  obtain ⟨r1, hc2, hf⟩ := q_bd hf
  refine z_cVi C (st := []) (c_X2_hasRoom (rt_10_0 _ (kd_lt ho0 (by decide)) ho0) hc2) mw_X2_hasRoom ml_X10_114 (rt_10_0 _ (kd_lt ho0 (by decide)) ho0) (by decide) rfl dX10_text_40 rfl rfl rfl ⟨Nat.le_of_ble_eq_true rfl, Nat.le_of_ble_eq_true rfl⟩ rfl (Nat.le_of_ble_eq_true rfl) ?_
  exact z_if_ne C dX10_text_43 (by decide) (fun h => z_sub [0] rfl (b_X10_text_49 C hr hk r1.1 o0 ho0 (q_f hf h))) (fun h => z_sub [] rfl (b_X10_text_46 C hr hk r1.1 (q_t hf h)))
def f_X10_text_0  (z : St) (o0 : Nat) : Option (St × Int32) :=
  ((f_X8_readItems z (rf o0 3) (rf o0 2)).bind fun r1 => ((f_X8_clear r1.1 (rf o0 3)).bind fun r3 => if r1.2 = ((-1)) then f_X10_text_29 r3 o0 else f_X10_text_24 r3 r1.2))
theorem b_X10_text_0 {p : Program} {l : Launch} {e : Env} {s : State} {m : MethodId} {args : Array Value} {below : List Frame} {meth : Method} {c : Code} {g : Ga} {A : Nat → Prop} (C : Cx l g A p s m args c cX10_text 2 RX10 (rm_X10_text) (0, 0)) (hr : meth.sig.returnType = (some .int)) (hk : meth.locks = false)   (z : St) (o0 : Nat) (ho0 : kd o0 = 10) {res : St × Int32} (hf : f_X10_text_0  z o0 = some res) : Zj p l e (rm_X10_text) s m args below meth c g A 2 (0, 0) (QI g A below args s res) z 0 [(0, .ref (g.1 o0))] [] := by
  unfold f_X10_text_0 at hf
  refine z_aload_n C dX10_text_0 rfl 0 rfl ?_
  refine gf_X10_25 C dX10_text_1 ho0 ?_
  refine z_aload_n C dX10_text_4 rfl 0 rfl ?_
  refine gf_X10_19 C dX10_text_5 ho0 ?_
  obtain ⟨r1, hc2, hf⟩ := q_bd hf
  refine z_cVi C (st := []) (c_X8_readItems (rt_10_3 _ (kd_lt ho0 (by decide)) ho0) (rt_10_2 _ (kd_lt ho0 (by decide)) ho0) hc2) mw_X8_readItems ml_X10_106 (rt_10_3 _ (kd_lt ho0 (by decide)) ho0) (by decide) rfl dX10_text_8 rfl rfl rfl ⟨Nat.le_of_ble_eq_true rfl, Nat.le_of_ble_eq_true rfl⟩ rfl (Nat.le_of_ble_eq_true rfl) ?_
  refine z_istore_n C (lv2 := [(1, .int r1.2), (0, .ref (g.1 o0))]) dX10_text_11 rfl (by decide) rfl ?_
  refine z_aload_n C dX10_text_12 rfl 1 rfl ?_
  refine gf_X10_25 C dX10_text_13 ho0 ?_
  obtain ⟨r3, hc4, hf⟩ := q_bd hf
  refine z_cVv C (st := []) (c_X8_clear (rt_10_3 _ (kd_lt ho0 (by decide)) ho0) hc4) mw_X8_clear ml_X10_110 (rt_10_3 _ (kd_lt ho0 (by decide)) ho0) (by decide) rfl dX10_text_16 rfl rfl rfl ⟨Nat.le_of_ble_eq_true rfl, Nat.le_of_ble_eq_true rfl⟩ rfl (Nat.le_of_ble_eq_true rfl) ?_
  refine z_iload_n C dX10_text_19 rfl 0 rfl ?_
  refine z_iconst C dX10_text_20 (v := (-1)) (by decide) ?_
  exact z_icmp_eq C dX10_text_21 (by decide) (fun h => z_sub [1] rfl (b_X10_text_29 C hr hk r3 o0 ho0 (q_t hf h))) (fun h => z_sub [0] rfl (b_X10_text_24 C hr hk r3 r1.2 (q_f hf h)))
def f_X10_text (z : St) (o0 : Nat) : Option (St × Int32) := f_X10_text_0 z o0
theorem c_X10_text {l : Launch} {g : Ga} {A : Nat → Prop} {z : St} {o0 : Nat} (ho0 : kd o0 = 10) {res : St × Int32} (hf : f_X10_text z o0 = some res) : CI l g A yX10_text cX10_text 2 (some .int) rm_X10_text [.ref (g.1 o0)] z res :=
  e_CI (by decide) (Nat.le_of_ble_eq_true rfl) rfl (fun p e s m args below meth c C hr hk => z_sub [0] rfl (b_X10_text_0 C hr hk z o0 ho0 hf))
abbrev rm_X10_job : Room := { frames := 6, cells := 0, slots := 0, locals := 132 }
def f_X10_job_33  (z : St)  : Option (St × Int32) :=
  some (z, (-2))
theorem b_X10_job_33 {p : Program} {l : Launch} {e : Env} {s : State} {m : MethodId} {args : Array Value} {below : List Frame} {meth : Method} {c : Code} {g : Ga} {A : Nat → Prop} (C : Cx l g A p s m args c cX10_job 5 RX10 (rm_X10_job) (0, 0)) (hr : meth.sig.returnType = (some .int)) (hk : meth.locks = false)   (z : St)   {res : St × Int32} (hf : f_X10_job_33  z  = some res) : Zj p l e (rm_X10_job) s m args below meth c g A 5 (0, 0) (QI g A below args s res) z 33 [] [] := by
  unfold f_X10_job_33 at hf
  refine z_bipush C dX10_job_33 (v := (-2)) (by decide) ?_
  cases hf
  exact z_iret C hr hk dX10_job_35
def f_X10_job_47  (z : St)  : Option (St × Int32) :=
  some (z, (-4))
theorem b_X10_job_47 {p : Program} {l : Launch} {e : Env} {s : State} {m : MethodId} {args : Array Value} {below : List Frame} {meth : Method} {c : Code} {g : Ga} {A : Nat → Prop} (C : Cx l g A p s m args c cX10_job 5 RX10 (rm_X10_job) (0, 0)) (hr : meth.sig.returnType = (some .int)) (hk : meth.locks = false)   (z : St)   {res : St × Int32} (hf : f_X10_job_47  z  = some res) : Zj p l e (rm_X10_job) s m args below meth c g A 5 (0, 0) (QI g A below args s res) z 47 [] [] := by
  unfold f_X10_job_47 at hf
  refine z_bipush C dX10_job_47 (v := (-4)) (by decide) ?_
  cases hf
  exact z_iret C hr hk dX10_job_49
def f_X10_job_50  (z : St) (o0 : Nat) (x1 : Int32) (x2 : Int32) (x3 : Int32) (x4 : Int32) : Option (St × Int32) :=
  ((f_X2_add z (rf o0 0) x1 x2 x3 x4).bind fun r1 => ((f_X10_tellAnew r1 o0).bind fun r3 => some (r3, (r3.1 (rf o0 0) 1) - 1)))
theorem b_X10_job_50 {p : Program} {l : Launch} {e : Env} {s : State} {m : MethodId} {args : Array Value} {below : List Frame} {meth : Method} {c : Code} {g : Ga} {A : Nat → Prop} (C : Cx l g A p s m args c cX10_job 5 RX10 (rm_X10_job) (0, 0)) (hr : meth.sig.returnType = (some .int)) (hk : meth.locks = false)   (z : St) (o0 : Nat) (x1 : Int32) (x2 : Int32) (x3 : Int32) (x4 : Int32) (ho0 : kd o0 = 10) {res : St × Int32} (hf : f_X10_job_50  z o0 x1 x2 x3 x4 = some res) : Zj p l e (rm_X10_job) s m args below meth c g A 5 (0, 0) (QI g A below args s res) z 50 [(0, .ref (g.1 o0)), (1, .int x1), (2, .int x2), (3, .int x3), (4, .int x4)] [] := by
  unfold f_X10_job_50 at hf
  refine z_aload_n C dX10_job_50 rfl 0 rfl ?_
  refine gf_X10_10 C dX10_job_51 ho0 ?_
  refine z_iload_n C dX10_job_54 rfl 1 rfl ?_
  refine z_iload_n C dX10_job_55 rfl 2 rfl ?_
  refine z_iload_n C dX10_job_56 rfl 3 rfl ?_
  refine z_iload C dX10_job_57 4 rfl ?_
  obtain ⟨r1, hc2, hf⟩ := q_bd hf
  refine z_cVv C (st := []) (c_X2_add (rt_10_0 _ (kd_lt ho0 (by decide)) ho0) hc2) mw_X2_add ml_X10_126 (rt_10_0 _ (kd_lt ho0 (by decide)) ho0) (by decide) rfl dX10_job_59 rfl rfl rfl ⟨Nat.le_of_ble_eq_true rfl, Nat.le_of_ble_eq_true rfl⟩ rfl (Nat.le_of_ble_eq_true rfl) ?_
  refine z_aload_n C dX10_job_62 rfl 0 rfl ?_
  obtain ⟨r3, hc4, hf⟩ := q_bd hf
  refine z_cVv C (st := []) (c_X10_tellAnew ho0 hc4) mw_X10_tellAnew ml_X10_119 ho0 (by decide) rfl dX10_job_63 rfl rfl rfl ⟨Nat.le_of_ble_eq_true rfl, Nat.le_of_ble_eq_true rfl⟩ rfl (Nat.le_of_ble_eq_true rfl) ?_
  refine z_aload_n C dX10_job_66 rfl 0 rfl ?_
  refine gf_X10_10 C dX10_job_67 ho0 ?_
  refine gf_X10_113 C dX10_job_70 (rt_10_0 _ (kd_lt ho0 (by decide)) ho0) ?_
  refine z_iconst C dX10_job_73 (v := 1) (by decide) ?_
  refine z_isub C dX10_job_74 ?_
  cases hf
  exact z_iret C hr hk dX10_job_75
def f_X10_job_36  (z : St) (o0 : Nat) (x1 : Int32) (x2 : Int32) (x3 : Int32) (x4 : Int32) : Option (St × Int32) :=
  ((f_X2_hasRoom z (rf o0 0) 1).bind fun r1 => if r1.2 = 0 then f_X10_job_47 r1.1 else f_X10_job_50 r1.1 o0 x1 x2 x3 x4)
theorem b_X10_job_36 {p : Program} {l : Launch} {e : Env} {s : State} {m : MethodId} {args : Array Value} {below : List Frame} {meth : Method} {c : Code} {g : Ga} {A : Nat → Prop} (C : Cx l g A p s m args c cX10_job 5 RX10 (rm_X10_job) (0, 0)) (hr : meth.sig.returnType = (some .int)) (hk : meth.locks = false)   (z : St) (o0 : Nat) (x1 : Int32) (x2 : Int32) (x3 : Int32) (x4 : Int32) (ho0 : kd o0 = 10) {res : St × Int32} (hf : f_X10_job_36  z o0 x1 x2 x3 x4 = some res) : Zj p l e (rm_X10_job) s m args below meth c g A 5 (0, 0) (QI g A below args s res) z 36 [(0, .ref (g.1 o0)), (1, .int x1), (2, .int x2), (3, .int x3), (4, .int x4)] [] := by
  unfold f_X10_job_36 at hf
  refine z_aload_n C dX10_job_36 rfl 0 rfl ?_
  refine gf_X10_10 C dX10_job_37 ho0 ?_
  refine z_iconst C dX10_job_40 (v := 1) (by decide) ?_
  obtain ⟨r1, hc2, hf⟩ := q_bd hf
  refine z_cVi C (st := []) (c_X2_hasRoom (rt_10_0 _ (kd_lt ho0 (by decide)) ho0) hc2) mw_X2_hasRoom ml_X10_114 (rt_10_0 _ (kd_lt ho0 (by decide)) ho0) (by decide) rfl dX10_job_41 rfl rfl rfl ⟨Nat.le_of_ble_eq_true rfl, Nat.le_of_ble_eq_true rfl⟩ rfl (Nat.le_of_ble_eq_true rfl) ?_
  exact z_if_ne C dX10_job_44 (by decide) (fun h => z_sub [0, 1, 2, 3, 4] rfl (b_X10_job_50 C hr hk r1.1 o0 x1 x2 x3 x4 ho0 (q_f hf h))) (fun h => z_sub [] rfl (b_X10_job_47 C hr hk r1.1 (q_t hf h)))
def f_X10_job_24  (z : St) (o0 : Nat) (x1 : Int32) (x2 : Int32) (x3 : Int32) (x4 : Int32) : Option (St × Int32) :=
  ((f_X2_mayBe z 3 x4).bind fun r1 => if r1.2 = 0 then f_X10_job_33 r1.1 else f_X10_job_36 r1.1 o0 x1 x2 x3 x4)
theorem b_X10_job_24 {p : Program} {l : Launch} {e : Env} {s : State} {m : MethodId} {args : Array Value} {below : List Frame} {meth : Method} {c : Code} {g : Ga} {A : Nat → Prop} (C : Cx l g A p s m args c cX10_job 5 RX10 (rm_X10_job) (0, 0)) (hr : meth.sig.returnType = (some .int)) (hk : meth.locks = false)   (z : St) (o0 : Nat) (x1 : Int32) (x2 : Int32) (x3 : Int32) (x4 : Int32) (ho0 : kd o0 = 10) {res : St × Int32} (hf : f_X10_job_24  z o0 x1 x2 x3 x4 = some res) : Zj p l e (rm_X10_job) s m args below meth c g A 5 (0, 0) (QI g A below args s res) z 24 [(0, .ref (g.1 o0)), (1, .int x1), (2, .int x2), (3, .int x3), (4, .int x4)] [] := by
  unfold f_X10_job_24 at hf
  refine z_iconst C dX10_job_24 (v := 3) (by decide) ?_
  refine z_iload C dX10_job_25 4 rfl ?_
  obtain ⟨r1, hc2, hf⟩ := q_bd hf
  refine z_cSi C (st := []) (c_X2_mayBe  hc2) mw_X2_mayBe ml_X10_122 dX10_job_27 rfl rfl rfl ⟨Nat.le_of_ble_eq_true rfl, Nat.le_of_ble_eq_true rfl⟩ rfl (Nat.le_of_ble_eq_true rfl) ?_
  exact z_if_ne C dX10_job_30 (by decide) (fun h => z_sub [0, 1, 2, 3, 4] rfl (b_X10_job_36 C hr hk r1.1 o0 x1 x2 x3 x4 ho0 (q_f hf h))) (fun h => z_sub [] rfl (b_X10_job_33 C hr hk r1.1 (q_t hf h)))
def f_X10_job_16  (z : St) (o0 : Nat) (x1 : Int32) (x2 : Int32) (x3 : Int32) (x4 : Int32) : Option (St × Int32) :=
  ((f_X2_mayBe z 2 x3).bind fun r1 => if r1.2 = 0 then f_X10_job_33 r1.1 else f_X10_job_24 r1.1 o0 x1 x2 x3 x4)
theorem b_X10_job_16 {p : Program} {l : Launch} {e : Env} {s : State} {m : MethodId} {args : Array Value} {below : List Frame} {meth : Method} {c : Code} {g : Ga} {A : Nat → Prop} (C : Cx l g A p s m args c cX10_job 5 RX10 (rm_X10_job) (0, 0)) (hr : meth.sig.returnType = (some .int)) (hk : meth.locks = false)   (z : St) (o0 : Nat) (x1 : Int32) (x2 : Int32) (x3 : Int32) (x4 : Int32) (ho0 : kd o0 = 10) {res : St × Int32} (hf : f_X10_job_16  z o0 x1 x2 x3 x4 = some res) : Zj p l e (rm_X10_job) s m args below meth c g A 5 (0, 0) (QI g A below args s res) z 16 [(0, .ref (g.1 o0)), (1, .int x1), (2, .int x2), (3, .int x3), (4, .int x4)] [] := by
  unfold f_X10_job_16 at hf
  refine z_iconst C dX10_job_16 (v := 2) (by decide) ?_
  refine z_iload_n C dX10_job_17 rfl 3 rfl ?_
  obtain ⟨r1, hc2, hf⟩ := q_bd hf
  refine z_cSi C (st := []) (c_X2_mayBe  hc2) mw_X2_mayBe ml_X10_122 dX10_job_18 rfl rfl rfl ⟨Nat.le_of_ble_eq_true rfl, Nat.le_of_ble_eq_true rfl⟩ rfl (Nat.le_of_ble_eq_true rfl) ?_
  exact z_if_eq C dX10_job_21 (by decide) (fun h => z_sub [] rfl (b_X10_job_33 C hr hk r1.1 (q_t hf h))) (fun h => z_sub [0, 1, 2, 3, 4] rfl (b_X10_job_24 C hr hk r1.1 o0 x1 x2 x3 x4 ho0 (q_f hf h)))
def f_X10_job_8  (z : St) (o0 : Nat) (x1 : Int32) (x2 : Int32) (x3 : Int32) (x4 : Int32) : Option (St × Int32) :=
  ((f_X2_mayBe z 1 x2).bind fun r1 => if r1.2 = 0 then f_X10_job_33 r1.1 else f_X10_job_16 r1.1 o0 x1 x2 x3 x4)
theorem b_X10_job_8 {p : Program} {l : Launch} {e : Env} {s : State} {m : MethodId} {args : Array Value} {below : List Frame} {meth : Method} {c : Code} {g : Ga} {A : Nat → Prop} (C : Cx l g A p s m args c cX10_job 5 RX10 (rm_X10_job) (0, 0)) (hr : meth.sig.returnType = (some .int)) (hk : meth.locks = false)   (z : St) (o0 : Nat) (x1 : Int32) (x2 : Int32) (x3 : Int32) (x4 : Int32) (ho0 : kd o0 = 10) {res : St × Int32} (hf : f_X10_job_8  z o0 x1 x2 x3 x4 = some res) : Zj p l e (rm_X10_job) s m args below meth c g A 5 (0, 0) (QI g A below args s res) z 8 [(0, .ref (g.1 o0)), (1, .int x1), (2, .int x2), (3, .int x3), (4, .int x4)] [] := by
  unfold f_X10_job_8 at hf
  refine z_iconst C dX10_job_8 (v := 1) (by decide) ?_
  refine z_iload_n C dX10_job_9 rfl 2 rfl ?_
  obtain ⟨r1, hc2, hf⟩ := q_bd hf
  refine z_cSi C (st := []) (c_X2_mayBe  hc2) mw_X2_mayBe ml_X10_122 dX10_job_10 rfl rfl rfl ⟨Nat.le_of_ble_eq_true rfl, Nat.le_of_ble_eq_true rfl⟩ rfl (Nat.le_of_ble_eq_true rfl) ?_
  exact z_if_eq C dX10_job_13 (by decide) (fun h => z_sub [] rfl (b_X10_job_33 C hr hk r1.1 (q_t hf h))) (fun h => z_sub [0, 1, 2, 3, 4] rfl (b_X10_job_16 C hr hk r1.1 o0 x1 x2 x3 x4 ho0 (q_f hf h)))
def f_X10_job_0  (z : St) (o0 : Nat) (x1 : Int32) (x2 : Int32) (x3 : Int32) (x4 : Int32) : Option (St × Int32) :=
  ((f_X2_mayBe z 0 x1).bind fun r1 => if r1.2 = 0 then f_X10_job_33 r1.1 else f_X10_job_8 r1.1 o0 x1 x2 x3 x4)
theorem b_X10_job_0 {p : Program} {l : Launch} {e : Env} {s : State} {m : MethodId} {args : Array Value} {below : List Frame} {meth : Method} {c : Code} {g : Ga} {A : Nat → Prop} (C : Cx l g A p s m args c cX10_job 5 RX10 (rm_X10_job) (0, 0)) (hr : meth.sig.returnType = (some .int)) (hk : meth.locks = false)   (z : St) (o0 : Nat) (x1 : Int32) (x2 : Int32) (x3 : Int32) (x4 : Int32) (ho0 : kd o0 = 10) {res : St × Int32} (hf : f_X10_job_0  z o0 x1 x2 x3 x4 = some res) : Zj p l e (rm_X10_job) s m args below meth c g A 5 (0, 0) (QI g A below args s res) z 0 [(0, .ref (g.1 o0)), (1, .int x1), (2, .int x2), (3, .int x3), (4, .int x4)] [] := by
  unfold f_X10_job_0 at hf
  refine z_iconst C dX10_job_0 (v := 0) (by decide) ?_
  refine z_iload_n C dX10_job_1 rfl 1 rfl ?_
  obtain ⟨r1, hc2, hf⟩ := q_bd hf
  refine z_cSi C (st := []) (c_X2_mayBe  hc2) mw_X2_mayBe ml_X10_122 dX10_job_2 rfl rfl rfl ⟨Nat.le_of_ble_eq_true rfl, Nat.le_of_ble_eq_true rfl⟩ rfl (Nat.le_of_ble_eq_true rfl) ?_
  exact z_if_eq C dX10_job_5 (by decide) (fun h => z_sub [] rfl (b_X10_job_33 C hr hk r1.1 (q_t hf h))) (fun h => z_sub [0, 1, 2, 3, 4] rfl (b_X10_job_8 C hr hk r1.1 o0 x1 x2 x3 x4 ho0 (q_f hf h)))
def f_X10_job (z : St) (o0 : Nat) (x1 : Int32) (x2 : Int32) (x3 : Int32) (x4 : Int32) : Option (St × Int32) := f_X10_job_0 z o0 x1 x2 x3 x4
theorem c_X10_job {l : Launch} {g : Ga} {A : Nat → Prop} {z : St} {o0 : Nat} {x1 : Int32} {x2 : Int32} {x3 : Int32} {x4 : Int32} (ho0 : kd o0 = 10) {res : St × Int32} (hf : f_X10_job z o0 x1 x2 x3 x4 = some res) : CI l g A yX10_job cX10_job 5 (some .int) rm_X10_job [.ref (g.1 o0), .int x1, .int x2, .int x3, .int x4] z res :=
  e_CI (by decide) (Nat.le_of_ble_eq_true rfl) rfl (fun p e s m args below meth c C hr hk => z_sub [0, 1, 2, 3, 4] rfl (b_X10_job_0 C hr hk z o0 x1 x2 x3 x4 ho0 hf))
abbrev rm_X10_set : Room := { frames := 6, cells := 0, slots := 0, locals := 132 }
def f_X10_set_19  (z : St)  : Option (St × Int32) :=
  some (z, (-2))
theorem b_X10_set_19 {p : Program} {l : Launch} {e : Env} {s : State} {m : MethodId} {args : Array Value} {below : List Frame} {meth : Method} {c : Code} {g : Ga} {A : Nat → Prop} (C : Cx l g A p s m args c cX10_set 5 RX10 (rm_X10_set) (0, 0)) (hr : meth.sig.returnType = (some .int)) (hk : meth.locks = false)   (z : St)   {res : St × Int32} (hf : f_X10_set_19  z  = some res) : Zj p l e (rm_X10_set) s m args below meth c g A 5 (0, 0) (QI g A below args s res) z 19 [] [] := by
  unfold f_X10_set_19 at hf
  refine z_bipush C dX10_set_19 (v := (-2)) (by decide) ?_
  cases hf
  exact z_iret C hr hk dX10_set_21
def f_X10_set_22  (z : St) (o0 : Nat) (x1 : Int32) (x2 : Int32) (x3 : Int32) : Option (St × Int32) :=
  ((f_X2_value z (rf o0 0) x2 x1).bind fun r1 => ((f_X2_change r1.1 (rf o0 0) x2 x1 x3).bind fun r3 => ((f_X10_tellAnew r3 o0).bind fun r5 => some (r5, r1.2))))
theorem b_X10_set_22 {p : Program} {l : Launch} {e : Env} {s : State} {m : MethodId} {args : Array Value} {below : List Frame} {meth : Method} {c : Code} {g : Ga} {A : Nat → Prop} (C : Cx l g A p s m args c cX10_set 5 RX10 (rm_X10_set) (0, 0)) (hr : meth.sig.returnType = (some .int)) (hk : meth.locks = false)   (z : St) (o0 : Nat) (x1 : Int32) (x2 : Int32) (x3 : Int32) (ho0 : kd o0 = 10) {res : St × Int32} (hf : f_X10_set_22  z o0 x1 x2 x3 = some res) : Zj p l e (rm_X10_set) s m args below meth c g A 5 (0, 0) (QI g A below args s res) z 22 [(0, .ref (g.1 o0)), (1, .int x1), (2, .int x2), (3, .int x3)] [] := by
  unfold f_X10_set_22 at hf
  refine z_aload_n C dX10_set_22 rfl 0 rfl ?_
  refine gf_X10_10 C dX10_set_23 ho0 ?_
  refine z_iload_n C dX10_set_26 rfl 2 rfl ?_
  refine z_iload_n C dX10_set_27 rfl 1 rfl ?_
  obtain ⟨r1, hc2, hf⟩ := q_bd hf
  refine z_cVi C (st := []) (c_X2_value (rt_10_0 _ (kd_lt ho0 (by decide)) ho0) hc2) mw_X2_value ml_X10_132 (rt_10_0 _ (kd_lt ho0 (by decide)) ho0) (by decide) rfl dX10_set_28 rfl rfl rfl ⟨Nat.le_of_ble_eq_true rfl, Nat.le_of_ble_eq_true rfl⟩ rfl (Nat.le_of_ble_eq_true rfl) ?_
  refine z_istore C (lv2 := [(4, .int r1.2), (0, .ref (g.1 o0)), (1, .int x1), (2, .int x2), (3, .int x3)]) dX10_set_31 (by decide) rfl ?_
  refine z_aload_n C dX10_set_33 rfl 1 rfl ?_
  refine gf_X10_10 C dX10_set_34 ho0 ?_
  refine z_iload_n C dX10_set_37 rfl 3 rfl ?_
  refine z_iload_n C dX10_set_38 rfl 2 rfl ?_
  refine z_iload_n C dX10_set_39 rfl 4 rfl ?_
  obtain ⟨r3, hc4, hf⟩ := q_bd hf
  refine z_cVv C (st := []) (c_X2_change (rt_10_0 _ (kd_lt ho0 (by decide)) ho0) hc4) mw_X2_change ml_X10_136 (rt_10_0 _ (kd_lt ho0 (by decide)) ho0) (by decide) rfl dX10_set_40 rfl rfl rfl ⟨Nat.le_of_ble_eq_true rfl, Nat.le_of_ble_eq_true rfl⟩ rfl (Nat.le_of_ble_eq_true rfl) ?_
  refine z_aload_n C dX10_set_43 rfl 1 rfl ?_
  obtain ⟨r5, hc6, hf⟩ := q_bd hf
  refine z_cVv C (st := []) (c_X10_tellAnew ho0 hc6) mw_X10_tellAnew ml_X10_119 ho0 (by decide) rfl dX10_set_44 rfl rfl rfl ⟨Nat.le_of_ble_eq_true rfl, Nat.le_of_ble_eq_true rfl⟩ rfl (Nat.le_of_ble_eq_true rfl) ?_
  refine z_iload C dX10_set_47 0 rfl ?_
  cases hf
  exact z_iret C hr hk dX10_set_49
def f_X10_set_11  (z : St) (o0 : Nat) (x1 : Int32) (x2 : Int32) (x3 : Int32) : Option (St × Int32) :=
  ((f_X2_mayBe z x2 x3).bind fun r1 => if r1.2 = 0 then f_X10_set_19 r1.1 else f_X10_set_22 r1.1 o0 x1 x2 x3)
theorem b_X10_set_11 {p : Program} {l : Launch} {e : Env} {s : State} {m : MethodId} {args : Array Value} {below : List Frame} {meth : Method} {c : Code} {g : Ga} {A : Nat → Prop} (C : Cx l g A p s m args c cX10_set 5 RX10 (rm_X10_set) (0, 0)) (hr : meth.sig.returnType = (some .int)) (hk : meth.locks = false)   (z : St) (o0 : Nat) (x1 : Int32) (x2 : Int32) (x3 : Int32) (ho0 : kd o0 = 10) {res : St × Int32} (hf : f_X10_set_11  z o0 x1 x2 x3 = some res) : Zj p l e (rm_X10_set) s m args below meth c g A 5 (0, 0) (QI g A below args s res) z 11 [(0, .ref (g.1 o0)), (1, .int x1), (2, .int x2), (3, .int x3)] [] := by
  unfold f_X10_set_11 at hf
  refine z_iload_n C dX10_set_11 rfl 2 rfl ?_
  refine z_iload_n C dX10_set_12 rfl 3 rfl ?_
  obtain ⟨r1, hc2, hf⟩ := q_bd hf
  refine z_cSi C (st := []) (c_X2_mayBe  hc2) mw_X2_mayBe ml_X10_122 dX10_set_13 rfl rfl rfl ⟨Nat.le_of_ble_eq_true rfl, Nat.le_of_ble_eq_true rfl⟩ rfl (Nat.le_of_ble_eq_true rfl) ?_
  exact z_if_ne C dX10_set_16 (by decide) (fun h => z_sub [0, 1, 2, 3] rfl (b_X10_set_22 C hr hk r1.1 o0 x1 x2 x3 ho0 (q_f hf h))) (fun h => z_sub [] rfl (b_X10_set_19 C hr hk r1.1 (q_t hf h)))
def f_X10_set_0  (z : St) (o0 : Nat) (x1 : Int32) (x2 : Int32) (x3 : Int32) : Option (St × Int32) :=
  ((f_X2_holds z (rf o0 0) x1).bind fun r1 => if r1.2 = 0 then f_X10_set_19 r1.1 else f_X10_set_11 r1.1 o0 x1 x2 x3)
theorem b_X10_set_0 {p : Program} {l : Launch} {e : Env} {s : State} {m : MethodId} {args : Array Value} {below : List Frame} {meth : Method} {c : Code} {g : Ga} {A : Nat → Prop} (C : Cx l g A p s m args c cX10_set 5 RX10 (rm_X10_set) (0, 0)) (hr : meth.sig.returnType = (some .int)) (hk : meth.locks = false)   (z : St) (o0 : Nat) (x1 : Int32) (x2 : Int32) (x3 : Int32) (ho0 : kd o0 = 10) {res : St × Int32} (hf : f_X10_set_0  z o0 x1 x2 x3 = some res) : Zj p l e (rm_X10_set) s m args below meth c g A 5 (0, 0) (QI g A below args s res) z 0 [(0, .ref (g.1 o0)), (1, .int x1), (2, .int x2), (3, .int x3)] [] := by
  unfold f_X10_set_0 at hf
  refine z_aload_n C dX10_set_0 rfl 0 rfl ?_
  refine gf_X10_10 C dX10_set_1 ho0 ?_
  refine z_iload_n C dX10_set_4 rfl 1 rfl ?_
  obtain ⟨r1, hc2, hf⟩ := q_bd hf
  refine z_cVi C (st := []) (c_X2_holds (rt_10_0 _ (kd_lt ho0 (by decide)) ho0) hc2) mw_X2_holds ml_X10_129 (rt_10_0 _ (kd_lt ho0 (by decide)) ho0) (by decide) rfl dX10_set_5 rfl rfl rfl ⟨Nat.le_of_ble_eq_true rfl, Nat.le_of_ble_eq_true rfl⟩ rfl (Nat.le_of_ble_eq_true rfl) ?_
  exact z_if_eq C dX10_set_8 (by decide) (fun h => z_sub [] rfl (b_X10_set_19 C hr hk r1.1 (q_t hf h))) (fun h => z_sub [0, 1, 2, 3] rfl (b_X10_set_11 C hr hk r1.1 o0 x1 x2 x3 ho0 (q_f hf h)))
def f_X10_set (z : St) (o0 : Nat) (x1 : Int32) (x2 : Int32) (x3 : Int32) : Option (St × Int32) := f_X10_set_0 z o0 x1 x2 x3
theorem c_X10_set {l : Launch} {g : Ga} {A : Nat → Prop} {z : St} {o0 : Nat} {x1 : Int32} {x2 : Int32} {x3 : Int32} (ho0 : kd o0 = 10) {res : St × Int32} (hf : f_X10_set z o0 x1 x2 x3 = some res) : CI l g A yX10_set cX10_set 5 (some .int) rm_X10_set [.ref (g.1 o0), .int x1, .int x2, .int x3] z res :=
  e_CI (by decide) (Nat.le_of_ble_eq_true rfl) rfl (fun p e s m args below meth c C hr hk => z_sub [0, 1, 2, 3] rfl (b_X10_set_0 C hr hk z o0 x1 x2 x3 ho0 hf))
abbrev rm_X10_told : Room := { frames := 4, cells := 0, slots := 0, locals := 90 }
def f_X10_told_21  (z : St)  : Option (St × Int32) :=
  some (z, (-2))
theorem b_X10_told_21 {p : Program} {l : Launch} {e : Env} {s : State} {m : MethodId} {args : Array Value} {below : List Frame} {meth : Method} {c : Code} {g : Ga} {A : Nat → Prop} (C : Cx l g A p s m args c cX10_told 3 RX10 (rm_X10_told) (0, 0)) (hr : meth.sig.returnType = (some .int)) (hk : meth.locks = false)   (z : St)   {res : St × Int32} (hf : f_X10_told_21  z  = some res) : Zj p l e (rm_X10_told) s m args below meth c g A 3 (0, 0) (QI g A below args s res) z 21 [] [] := by
  unfold f_X10_told_21 at hf
  refine z_bipush C dX10_told_21 (v := (-2)) (by decide) ?_
  cases hf
  exact z_iret C hr hk dX10_told_23
def f_X10_told_52  (z : St) (o0 : Nat) (x1 : Int32) : Option (St × Int32) :=
  ((f_X2_comesOf z (rf o0 0) x1).bind fun r1 => some (r1.1, r1.2))
theorem b_X10_told_52 {p : Program} {l : Launch} {e : Env} {s : State} {m : MethodId} {args : Array Value} {below : List Frame} {meth : Method} {c : Code} {g : Ga} {A : Nat → Prop} (C : Cx l g A p s m args c cX10_told 3 RX10 (rm_X10_told) (0, 0)) (hr : meth.sig.returnType = (some .int)) (hk : meth.locks = false)   (z : St) (o0 : Nat) (x1 : Int32) (ho0 : kd o0 = 10) {res : St × Int32} (hf : f_X10_told_52  z o0 x1 = some res) : Zj p l e (rm_X10_told) s m args below meth c g A 3 (0, 0) (QI g A below args s res) z 52 [(0, .ref (g.1 o0)), (1, .int x1)] [] := by
  unfold f_X10_told_52 at hf
  refine z_aload_n C dX10_told_52 rfl 0 rfl ?_
  refine gf_X10_10 C dX10_told_53 ho0 ?_
  refine z_iload_n C dX10_told_56 rfl 1 rfl ?_
  obtain ⟨r1, hc2, hf⟩ := q_bd hf
  refine z_cVi C (st := []) (c_X2_comesOf (rt_10_0 _ (kd_lt ho0 (by decide)) ho0) hc2) mw_X2_comesOf ml_X10_140 (rt_10_0 _ (kd_lt ho0 (by decide)) ho0) (by decide) rfl dX10_told_57 rfl rfl rfl ⟨Nat.le_of_ble_eq_true rfl, Nat.le_of_ble_eq_true rfl⟩ rfl (Nat.le_of_ble_eq_true rfl) ?_
  cases hf
  exact z_iret C hr hk dX10_told_60
def f_X10_told_61  (z : St) (o0 : Nat) (x1 : Int32) : Option (St × Int32) :=
  ((f_X2_takesOf z (rf o0 0) x1).bind fun r1 => some (r1.1, r1.2))
theorem b_X10_told_61 {p : Program} {l : Launch} {e : Env} {s : State} {m : MethodId} {args : Array Value} {below : List Frame} {meth : Method} {c : Code} {g : Ga} {A : Nat → Prop} (C : Cx l g A p s m args c cX10_told 3 RX10 (rm_X10_told) (0, 0)) (hr : meth.sig.returnType = (some .int)) (hk : meth.locks = false)   (z : St) (o0 : Nat) (x1 : Int32) (ho0 : kd o0 = 10) {res : St × Int32} (hf : f_X10_told_61  z o0 x1 = some res) : Zj p l e (rm_X10_told) s m args below meth c g A 3 (0, 0) (QI g A below args s res) z 61 [(0, .ref (g.1 o0)), (1, .int x1)] [] := by
  unfold f_X10_told_61 at hf
  refine z_aload_n C dX10_told_61 rfl 0 rfl ?_
  refine gf_X10_10 C dX10_told_62 ho0 ?_
  refine z_iload_n C dX10_told_65 rfl 1 rfl ?_
  obtain ⟨r1, hc2, hf⟩ := q_bd hf
  refine z_cVi C (st := []) (c_X2_takesOf (rt_10_0 _ (kd_lt ho0 (by decide)) ho0) hc2) mw_X2_takesOf ml_X10_144 (rt_10_0 _ (kd_lt ho0 (by decide)) ho0) (by decide) rfl dX10_told_66 rfl rfl rfl ⟨Nat.le_of_ble_eq_true rfl, Nat.le_of_ble_eq_true rfl⟩ rfl (Nat.le_of_ble_eq_true rfl) ?_
  cases hf
  exact z_iret C hr hk dX10_told_69
def f_X10_told_70  (z : St) (o0 : Nat) (x1 : Int32) : Option (St × Int32) :=
  ((f_X2_coolsOf z (rf o0 0) x1).bind fun r1 => some (r1.1, r1.2))
theorem b_X10_told_70 {p : Program} {l : Launch} {e : Env} {s : State} {m : MethodId} {args : Array Value} {below : List Frame} {meth : Method} {c : Code} {g : Ga} {A : Nat → Prop} (C : Cx l g A p s m args c cX10_told 3 RX10 (rm_X10_told) (0, 0)) (hr : meth.sig.returnType = (some .int)) (hk : meth.locks = false)   (z : St) (o0 : Nat) (x1 : Int32) (ho0 : kd o0 = 10) {res : St × Int32} (hf : f_X10_told_70  z o0 x1 = some res) : Zj p l e (rm_X10_told) s m args below meth c g A 3 (0, 0) (QI g A below args s res) z 70 [(0, .ref (g.1 o0)), (1, .int x1)] [] := by
  unfold f_X10_told_70 at hf
  refine z_aload_n C dX10_told_70 rfl 0 rfl ?_
  refine gf_X10_10 C dX10_told_71 ho0 ?_
  refine z_iload_n C dX10_told_74 rfl 1 rfl ?_
  obtain ⟨r1, hc2, hf⟩ := q_bd hf
  refine z_cVi C (st := []) (c_X2_coolsOf (rt_10_0 _ (kd_lt ho0 (by decide)) ho0) hc2) mw_X2_coolsOf ml_X10_147 (rt_10_0 _ (kd_lt ho0 (by decide)) ho0) (by decide) rfl dX10_told_75 rfl rfl rfl ⟨Nat.le_of_ble_eq_true rfl, Nat.le_of_ble_eq_true rfl⟩ rfl (Nat.le_of_ble_eq_true rfl) ?_
  cases hf
  exact z_iret C hr hk dX10_told_78
def f_X10_told_79  (z : St) (o0 : Nat) (x1 : Int32) (x2 : Int32) : Option (St × Int32) :=
  ((f_X2_value z (rf o0 0) x2 x1).bind fun r1 => some (r1.1, r1.2))
theorem b_X10_told_79 {p : Program} {l : Launch} {e : Env} {s : State} {m : MethodId} {args : Array Value} {below : List Frame} {meth : Method} {c : Code} {g : Ga} {A : Nat → Prop} (C : Cx l g A p s m args c cX10_told 3 RX10 (rm_X10_told) (0, 0)) (hr : meth.sig.returnType = (some .int)) (hk : meth.locks = false)   (z : St) (o0 : Nat) (x1 : Int32) (x2 : Int32) (ho0 : kd o0 = 10) {res : St × Int32} (hf : f_X10_told_79  z o0 x1 x2 = some res) : Zj p l e (rm_X10_told) s m args below meth c g A 3 (0, 0) (QI g A below args s res) z 79 [(0, .ref (g.1 o0)), (1, .int x1), (2, .int x2)] [] := by
  unfold f_X10_told_79 at hf
  refine z_aload_n C dX10_told_79 rfl 0 rfl ?_
  refine gf_X10_10 C dX10_told_80 ho0 ?_
  refine z_iload_n C dX10_told_83 rfl 2 rfl ?_
  refine z_iload_n C dX10_told_84 rfl 1 rfl ?_
  obtain ⟨r1, hc2, hf⟩ := q_bd hf
  refine z_cVi C (st := []) (c_X2_value (rt_10_0 _ (kd_lt ho0 (by decide)) ho0) hc2) mw_X2_value ml_X10_132 (rt_10_0 _ (kd_lt ho0 (by decide)) ho0) (by decide) rfl dX10_told_85 rfl rfl rfl ⟨Nat.le_of_ble_eq_true rfl, Nat.le_of_ble_eq_true rfl⟩ rfl (Nat.le_of_ble_eq_true rfl) ?_
  cases hf
  exact z_iret C hr hk dX10_told_88
def f_X10_told_24  (z : St) (o0 : Nat) (x1 : Int32) (x2 : Int32) : Option (St × Int32) :=
  if x2 = 4 then f_X10_told_52 z o0 x1 else if x2 = 5 then f_X10_told_61 z o0 x1 else if x2 = 6 then f_X10_told_70 z o0 x1 else f_X10_told_79 z o0 x1 x2
theorem b_X10_told_24 {p : Program} {l : Launch} {e : Env} {s : State} {m : MethodId} {args : Array Value} {below : List Frame} {meth : Method} {c : Code} {g : Ga} {A : Nat → Prop} (C : Cx l g A p s m args c cX10_told 3 RX10 (rm_X10_told) (0, 0)) (hr : meth.sig.returnType = (some .int)) (hk : meth.locks = false)   (z : St) (o0 : Nat) (x1 : Int32) (x2 : Int32) (ho0 : kd o0 = 10) {res : St × Int32} (hf : f_X10_told_24  z o0 x1 x2 = some res) : Zj p l e (rm_X10_told) s m args below meth c g A 3 (0, 0) (QI g A below args s res) z 24 [(0, .ref (g.1 o0)), (1, .int x1), (2, .int x2)] [] := by
  unfold f_X10_told_24 at hf
  refine z_iload_n C dX10_told_24 rfl 2 rfl ?_
  by_cases h1 : x2 = 4
  · exact z_tblK C dX10_told_25 (k := 4) h1 (by decide) (by decide) (off := 27) (by decide) (by decide) (z_sub [0, 1] rfl (b_X10_told_52 C hr hk z o0 x1 ho0 (q_t hf h1)))
  replace hf := q_f hf h1
  by_cases h2 : x2 = 5
  · exact z_tblK C dX10_told_25 (k := 5) h2 (by decide) (by decide) (off := 36) (by decide) (by decide) (z_sub [0, 1] rfl (b_X10_told_61 C hr hk z o0 x1 ho0 (q_t hf h2)))
  replace hf := q_f hf h2
  by_cases h3 : x2 = 6
  · exact z_tblK C dX10_told_25 (k := 6) h3 (by decide) (by decide) (off := 45) (by decide) (by decide) (z_sub [0, 1] rfl (b_X10_told_70 C hr hk z o0 x1 ho0 (q_t hf h3)))
  replace hf := q_f hf h3
  exact z_tblOut C dX10_told_25 (tbl_out (lo := 4) (hi := 6) (fun k q1 q2 => by
    rcases (show k = 4 ∨ k = 5 ∨ k = 6 by omega) with rfl | rfl | rfl
    · exact fun e => h1 (e.symm.trans (by decide))
    · exact fun e => h2 (e.symm.trans (by decide))
    · exact fun e => h3 (e.symm.trans (by decide)))) (by decide) (z_sub [0, 1, 2] rfl (b_X10_told_79 C hr hk z o0 x1 x2 ho0 hf))
def f_X10_told_15  (z : St) (o0 : Nat) (x1 : Int32) (x2 : Int32) : Option (St × Int32) :=
  if x2 ≤ 6 then f_X10_told_24 z o0 x1 x2 else f_X10_told_21 z
theorem b_X10_told_15 {p : Program} {l : Launch} {e : Env} {s : State} {m : MethodId} {args : Array Value} {below : List Frame} {meth : Method} {c : Code} {g : Ga} {A : Nat → Prop} (C : Cx l g A p s m args c cX10_told 3 RX10 (rm_X10_told) (0, 0)) (hr : meth.sig.returnType = (some .int)) (hk : meth.locks = false)   (z : St) (o0 : Nat) (x1 : Int32) (x2 : Int32) (ho0 : kd o0 = 10) {res : St × Int32} (hf : f_X10_told_15  z o0 x1 x2 = some res) : Zj p l e (rm_X10_told) s m args below meth c g A 3 (0, 0) (QI g A below args s res) z 15 [(0, .ref (g.1 o0)), (1, .int x1), (2, .int x2)] [] := by
  unfold f_X10_told_15 at hf
  refine z_iload_n C dX10_told_15 rfl 2 rfl ?_
  refine z_bipush C dX10_told_16 (v := 6) (by decide) ?_
  exact z_icmp_le C dX10_told_18 (by decide) (fun h => z_sub [0, 1, 2] rfl (b_X10_told_24 C hr hk z o0 x1 x2 ho0 (q_t hf h))) (fun h => z_sub [] rfl (b_X10_told_21 C hr hk z (q_f hf h)))
def f_X10_told_11  (z : St) (o0 : Nat) (x1 : Int32) (x2 : Int32) : Option (St × Int32) :=
  if x2 < 0 then f_X10_told_21 z else f_X10_told_15 z o0 x1 x2
theorem b_X10_told_11 {p : Program} {l : Launch} {e : Env} {s : State} {m : MethodId} {args : Array Value} {below : List Frame} {meth : Method} {c : Code} {g : Ga} {A : Nat → Prop} (C : Cx l g A p s m args c cX10_told 3 RX10 (rm_X10_told) (0, 0)) (hr : meth.sig.returnType = (some .int)) (hk : meth.locks = false)   (z : St) (o0 : Nat) (x1 : Int32) (x2 : Int32) (ho0 : kd o0 = 10) {res : St × Int32} (hf : f_X10_told_11  z o0 x1 x2 = some res) : Zj p l e (rm_X10_told) s m args below meth c g A 3 (0, 0) (QI g A below args s res) z 11 [(0, .ref (g.1 o0)), (1, .int x1), (2, .int x2)] [] := by
  unfold f_X10_told_11 at hf
  refine z_iload_n C dX10_told_11 rfl 2 rfl ?_
  exact z_if_lt C dX10_told_12 (by decide) (fun h => z_sub [] rfl (b_X10_told_21 C hr hk z (q_t hf h))) (fun h => z_sub [0, 1, 2] rfl (b_X10_told_15 C hr hk z o0 x1 x2 ho0 (q_f hf h)))
def f_X10_told_0  (z : St) (o0 : Nat) (x1 : Int32) (x2 : Int32) : Option (St × Int32) :=
  ((f_X2_holds z (rf o0 0) x1).bind fun r1 => if r1.2 = 0 then f_X10_told_21 r1.1 else f_X10_told_11 r1.1 o0 x1 x2)
theorem b_X10_told_0 {p : Program} {l : Launch} {e : Env} {s : State} {m : MethodId} {args : Array Value} {below : List Frame} {meth : Method} {c : Code} {g : Ga} {A : Nat → Prop} (C : Cx l g A p s m args c cX10_told 3 RX10 (rm_X10_told) (0, 0)) (hr : meth.sig.returnType = (some .int)) (hk : meth.locks = false)   (z : St) (o0 : Nat) (x1 : Int32) (x2 : Int32) (ho0 : kd o0 = 10) {res : St × Int32} (hf : f_X10_told_0  z o0 x1 x2 = some res) : Zj p l e (rm_X10_told) s m args below meth c g A 3 (0, 0) (QI g A below args s res) z 0 [(0, .ref (g.1 o0)), (1, .int x1), (2, .int x2)] [] := by
  unfold f_X10_told_0 at hf
  refine z_aload_n C dX10_told_0 rfl 0 rfl ?_
  refine gf_X10_10 C dX10_told_1 ho0 ?_
  refine z_iload_n C dX10_told_4 rfl 1 rfl ?_
  obtain ⟨r1, hc2, hf⟩ := q_bd hf
  refine z_cVi C (st := []) (c_X2_holds (rt_10_0 _ (kd_lt ho0 (by decide)) ho0) hc2) mw_X2_holds ml_X10_129 (rt_10_0 _ (kd_lt ho0 (by decide)) ho0) (by decide) rfl dX10_told_5 rfl rfl rfl ⟨Nat.le_of_ble_eq_true rfl, Nat.le_of_ble_eq_true rfl⟩ rfl (Nat.le_of_ble_eq_true rfl) ?_
  exact z_if_eq C dX10_told_8 (by decide) (fun h => z_sub [] rfl (b_X10_told_21 C hr hk r1.1 (q_t hf h))) (fun h => z_sub [0, 1, 2] rfl (b_X10_told_11 C hr hk r1.1 o0 x1 x2 ho0 (q_f hf h)))
def f_X10_told (z : St) (o0 : Nat) (x1 : Int32) (x2 : Int32) : Option (St × Int32) := f_X10_told_0 z o0 x1 x2
theorem c_X10_told {l : Launch} {g : Ga} {A : Nat → Prop} {z : St} {o0 : Nat} {x1 : Int32} {x2 : Int32} (ho0 : kd o0 = 10) {res : St × Int32} (hf : f_X10_told z o0 x1 x2 = some res) : CI l g A yX10_told cX10_told 3 (some .int) rm_X10_told [.ref (g.1 o0), .int x1, .int x2] z res :=
  e_CI (by decide) (Nat.le_of_ble_eq_true rfl) rfl (fun p e s m args below meth c C hr hk => z_sub [0, 1, 2] rfl (b_X10_told_0 C hr hk z o0 x1 x2 ho0 hf))
abbrev rm_X10_drop : Room := { frames := 6, cells := 0, slots := 0, locals := 132 }
def f_X10_drop_11  (z : St)  : Option (St × Int32) :=
  some (z, (-2))
theorem b_X10_drop_11 {p : Program} {l : Launch} {e : Env} {s : State} {m : MethodId} {args : Array Value} {below : List Frame} {meth : Method} {c : Code} {g : Ga} {A : Nat → Prop} (C : Cx l g A p s m args c cX10_drop 2 RX10 (rm_X10_drop) (0, 0)) (hr : meth.sig.returnType = (some .int)) (hk : meth.locks = false)   (z : St)   {res : St × Int32} (hf : f_X10_drop_11  z  = some res) : Zj p l e (rm_X10_drop) s m args below meth c g A 2 (0, 0) (QI g A below args s res) z 11 [] [] := by
  unfold f_X10_drop_11 at hf
  refine z_bipush C dX10_drop_11 (v := (-2)) (by decide) ?_
  cases hf
  exact z_iret C hr hk dX10_drop_13
def f_X10_drop_14  (z : St) (o0 : Nat) (x1 : Int32) : Option (St × Int32) :=
  ((f_X2_remove z (rf o0 0) x1).bind fun r1 => ((f_X10_tellAnew r1 o0).bind fun r3 => some (r3, r3.1 (rf o0 0) 1)))
theorem b_X10_drop_14 {p : Program} {l : Launch} {e : Env} {s : State} {m : MethodId} {args : Array Value} {below : List Frame} {meth : Method} {c : Code} {g : Ga} {A : Nat → Prop} (C : Cx l g A p s m args c cX10_drop 2 RX10 (rm_X10_drop) (0, 0)) (hr : meth.sig.returnType = (some .int)) (hk : meth.locks = false)   (z : St) (o0 : Nat) (x1 : Int32) (ho0 : kd o0 = 10) {res : St × Int32} (hf : f_X10_drop_14  z o0 x1 = some res) : Zj p l e (rm_X10_drop) s m args below meth c g A 2 (0, 0) (QI g A below args s res) z 14 [(0, .ref (g.1 o0)), (1, .int x1)] [] := by
  unfold f_X10_drop_14 at hf
  refine z_aload_n C dX10_drop_14 rfl 0 rfl ?_
  refine gf_X10_10 C dX10_drop_15 ho0 ?_
  refine z_iload_n C dX10_drop_18 rfl 1 rfl ?_
  obtain ⟨r1, hc2, hf⟩ := q_bd hf
  refine z_cVv C (st := []) (c_X2_remove (rt_10_0 _ (kd_lt ho0 (by decide)) ho0) hc2) mw_X2_remove ml_X10_150 (rt_10_0 _ (kd_lt ho0 (by decide)) ho0) (by decide) rfl dX10_drop_19 rfl rfl rfl ⟨Nat.le_of_ble_eq_true rfl, Nat.le_of_ble_eq_true rfl⟩ rfl (Nat.le_of_ble_eq_true rfl) ?_
  refine z_aload_n C dX10_drop_22 rfl 0 rfl ?_
  obtain ⟨r3, hc4, hf⟩ := q_bd hf
  refine z_cVv C (st := []) (c_X10_tellAnew ho0 hc4) mw_X10_tellAnew ml_X10_119 ho0 (by decide) rfl dX10_drop_23 rfl rfl rfl ⟨Nat.le_of_ble_eq_true rfl, Nat.le_of_ble_eq_true rfl⟩ rfl (Nat.le_of_ble_eq_true rfl) ?_
  refine z_aload_n C dX10_drop_26 rfl 0 rfl ?_
  refine gf_X10_10 C dX10_drop_27 ho0 ?_
  refine gf_X10_113 C dX10_drop_30 (rt_10_0 _ (kd_lt ho0 (by decide)) ho0) ?_
  cases hf
  exact z_iret C hr hk dX10_drop_33
def f_X10_drop_0  (z : St) (o0 : Nat) (x1 : Int32) : Option (St × Int32) :=
  ((f_X2_holds z (rf o0 0) x1).bind fun r1 => if r1.2 = 0 then f_X10_drop_11 r1.1 else f_X10_drop_14 r1.1 o0 x1)
theorem b_X10_drop_0 {p : Program} {l : Launch} {e : Env} {s : State} {m : MethodId} {args : Array Value} {below : List Frame} {meth : Method} {c : Code} {g : Ga} {A : Nat → Prop} (C : Cx l g A p s m args c cX10_drop 2 RX10 (rm_X10_drop) (0, 0)) (hr : meth.sig.returnType = (some .int)) (hk : meth.locks = false)   (z : St) (o0 : Nat) (x1 : Int32) (ho0 : kd o0 = 10) {res : St × Int32} (hf : f_X10_drop_0  z o0 x1 = some res) : Zj p l e (rm_X10_drop) s m args below meth c g A 2 (0, 0) (QI g A below args s res) z 0 [(0, .ref (g.1 o0)), (1, .int x1)] [] := by
  unfold f_X10_drop_0 at hf
  refine z_aload_n C dX10_drop_0 rfl 0 rfl ?_
  refine gf_X10_10 C dX10_drop_1 ho0 ?_
  refine z_iload_n C dX10_drop_4 rfl 1 rfl ?_
  obtain ⟨r1, hc2, hf⟩ := q_bd hf
  refine z_cVi C (st := []) (c_X2_holds (rt_10_0 _ (kd_lt ho0 (by decide)) ho0) hc2) mw_X2_holds ml_X10_129 (rt_10_0 _ (kd_lt ho0 (by decide)) ho0) (by decide) rfl dX10_drop_5 rfl rfl rfl ⟨Nat.le_of_ble_eq_true rfl, Nat.le_of_ble_eq_true rfl⟩ rfl (Nat.le_of_ble_eq_true rfl) ?_
  exact z_if_ne C dX10_drop_8 (by decide) (fun h => z_sub [0, 1] rfl (b_X10_drop_14 C hr hk r1.1 o0 x1 ho0 (q_f hf h))) (fun h => z_sub [] rfl (b_X10_drop_11 C hr hk r1.1 (q_t hf h)))
def f_X10_drop (z : St) (o0 : Nat) (x1 : Int32) : Option (St × Int32) := f_X10_drop_0 z o0 x1
theorem c_X10_drop {l : Launch} {g : Ga} {A : Nat → Prop} {z : St} {o0 : Nat} {x1 : Int32} (ho0 : kd o0 = 10) {res : St × Int32} (hf : f_X10_drop z o0 x1 = some res) : CI l g A yX10_drop cX10_drop 2 (some .int) rm_X10_drop [.ref (g.1 o0), .int x1] z res :=
  e_CI (by decide) (Nat.le_of_ble_eq_true rfl) rfl (fun p e s m args below meth c C hr hk => z_sub [0, 1] rfl (b_X10_drop_0 C hr hk z o0 x1 ho0 hf))
abbrev rm_X10_taken : Room := { frames := 4, cells := 0, slots := 0, locals := 90 }
def f_X10_taken_19  (z : St)  : Option (St × Int32) :=
  some (z, (-2))
theorem b_X10_taken_19 {p : Program} {l : Launch} {e : Env} {s : State} {m : MethodId} {args : Array Value} {below : List Frame} {meth : Method} {c : Code} {g : Ga} {A : Nat → Prop} (C : Cx l g A p s m args c cX10_taken 3 RX10 (rm_X10_taken) (0, 0)) (hr : meth.sig.returnType = (some .int)) (hk : meth.locks = false)   (z : St)   {res : St × Int32} (hf : f_X10_taken_19  z  = some res) : Zj p l e (rm_X10_taken) s m args below meth c g A 3 (0, 0) (QI g A below args s res) z 19 [] [] := by
  unfold f_X10_taken_19 at hf
  refine z_bipush C dX10_taken_19 (v := (-2)) (by decide) ?_
  cases hf
  exact z_iret C hr hk dX10_taken_21
def f_X10_taken_34  (z : St)  : Option (St × Int32) :=
  some (z, (-13))
theorem b_X10_taken_34 {p : Program} {l : Launch} {e : Env} {s : State} {m : MethodId} {args : Array Value} {below : List Frame} {meth : Method} {c : Code} {g : Ga} {A : Nat → Prop} (C : Cx l g A p s m args c cX10_taken 3 RX10 (rm_X10_taken) (0, 0)) (hr : meth.sig.returnType = (some .int)) (hk : meth.locks = false)   (z : St)   {res : St × Int32} (hf : f_X10_taken_34  z  = some res) : Zj p l e (rm_X10_taken) s m args below meth c g A 3 (0, 0) (QI g A below args s res) z 34 [] [] := by
  unfold f_X10_taken_34 at hf
  refine z_bipush C dX10_taken_34 (v := (-13)) (by decide) ?_
  cases hf
  exact z_iret C hr hk dX10_taken_36
def f_X10_taken_37  (z : St) (o0 : Nat) (x1 : Int32) : Option (St × Int32) :=
  ((f_X2_takesOf z (rf o0 0) x1).bind fun r1 => ((f_X2_coolsOf r1.1 (rf o0 0) x1).bind fun r3 => some (r3.1, r1.2 + r3.2)))
theorem b_X10_taken_37 {p : Program} {l : Launch} {e : Env} {s : State} {m : MethodId} {args : Array Value} {below : List Frame} {meth : Method} {c : Code} {g : Ga} {A : Nat → Prop} (C : Cx l g A p s m args c cX10_taken 3 RX10 (rm_X10_taken) (0, 0)) (hr : meth.sig.returnType = (some .int)) (hk : meth.locks = false)   (z : St) (o0 : Nat) (x1 : Int32) (ho0 : kd o0 = 10) {res : St × Int32} (hf : f_X10_taken_37  z o0 x1 = some res) : Zj p l e (rm_X10_taken) s m args below meth c g A 3 (0, 0) (QI g A below args s res) z 37 [(0, .ref (g.1 o0)), (1, .int x1)] [] := by
  unfold f_X10_taken_37 at hf
  refine z_aload_n C dX10_taken_37 rfl 0 rfl ?_
  refine gf_X10_10 C dX10_taken_38 ho0 ?_
  refine z_iload_n C dX10_taken_41 rfl 1 rfl ?_
  obtain ⟨r1, hc2, hf⟩ := q_bd hf
  refine z_cVi C (st := []) (c_X2_takesOf (rt_10_0 _ (kd_lt ho0 (by decide)) ho0) hc2) mw_X2_takesOf ml_X10_144 (rt_10_0 _ (kd_lt ho0 (by decide)) ho0) (by decide) rfl dX10_taken_42 rfl rfl rfl ⟨Nat.le_of_ble_eq_true rfl, Nat.le_of_ble_eq_true rfl⟩ rfl (Nat.le_of_ble_eq_true rfl) ?_
  refine z_aload_n C dX10_taken_45 rfl 0 rfl ?_
  refine gf_X10_10 C dX10_taken_46 ho0 ?_
  refine z_iload_n C dX10_taken_49 rfl 1 rfl ?_
  obtain ⟨r3, hc4, hf⟩ := q_bd hf
  refine z_cVi C (st := [.int r1.2]) (c_X2_coolsOf (rt_10_0 _ (kd_lt ho0 (by decide)) ho0) hc4) mw_X2_coolsOf ml_X10_147 (rt_10_0 _ (kd_lt ho0 (by decide)) ho0) (by decide) rfl dX10_taken_50 rfl rfl rfl ⟨Nat.le_of_ble_eq_true rfl, Nat.le_of_ble_eq_true rfl⟩ rfl (Nat.le_of_ble_eq_true rfl) ?_
  refine z_iadd C dX10_taken_53 ?_
  cases hf
  exact z_iret C hr hk dX10_taken_54
def f_X10_taken_22  (z : St) (o0 : Nat) (x1 : Int32) (x2 : Int32) : Option (St × Int32) :=
  ((f_X2_isOfKind z (rf o0 0) x1 x2).bind fun r1 => if r1.2 = 0 then f_X10_taken_34 r1.1 else f_X10_taken_37 r1.1 o0 x1)
theorem b_X10_taken_22 {p : Program} {l : Launch} {e : Env} {s : State} {m : MethodId} {args : Array Value} {below : List Frame} {meth : Method} {c : Code} {g : Ga} {A : Nat → Prop} (C : Cx l g A p s m args c cX10_taken 3 RX10 (rm_X10_taken) (0, 0)) (hr : meth.sig.returnType = (some .int)) (hk : meth.locks = false)   (z : St) (o0 : Nat) (x1 : Int32) (x2 : Int32) (ho0 : kd o0 = 10) {res : St × Int32} (hf : f_X10_taken_22  z o0 x1 x2 = some res) : Zj p l e (rm_X10_taken) s m args below meth c g A 3 (0, 0) (QI g A below args s res) z 22 [(0, .ref (g.1 o0)), (1, .int x1), (2, .int x2)] [] := by
  unfold f_X10_taken_22 at hf
  refine z_aload_n C dX10_taken_22 rfl 0 rfl ?_
  refine gf_X10_10 C dX10_taken_23 ho0 ?_
  refine z_iload_n C dX10_taken_26 rfl 1 rfl ?_
  refine z_iload_n C dX10_taken_27 rfl 2 rfl ?_
  obtain ⟨r1, hc2, hf⟩ := q_bd hf
  refine z_cVi C (st := []) (c_X2_isOfKind (rt_10_0 _ (kd_lt ho0 (by decide)) ho0) hc2) mw_X2_isOfKind ml_X10_153 (rt_10_0 _ (kd_lt ho0 (by decide)) ho0) (by decide) rfl dX10_taken_28 rfl rfl rfl ⟨Nat.le_of_ble_eq_true rfl, Nat.le_of_ble_eq_true rfl⟩ rfl (Nat.le_of_ble_eq_true rfl) ?_
  exact z_if_ne C dX10_taken_31 (by decide) (fun h => z_sub [0, 1] rfl (b_X10_taken_37 C hr hk r1.1 o0 x1 ho0 (q_f hf h))) (fun h => z_sub [] rfl (b_X10_taken_34 C hr hk r1.1 (q_t hf h)))
def f_X10_taken_11  (z : St) (o0 : Nat) (x1 : Int32) (x2 : Int32) : Option (St × Int32) :=
  ((f_X2_mayBe z 0 x2).bind fun r1 => if r1.2 = 0 then f_X10_taken_19 r1.1 else f_X10_taken_22 r1.1 o0 x1 x2)
theorem b_X10_taken_11 {p : Program} {l : Launch} {e : Env} {s : State} {m : MethodId} {args : Array Value} {below : List Frame} {meth : Method} {c : Code} {g : Ga} {A : Nat → Prop} (C : Cx l g A p s m args c cX10_taken 3 RX10 (rm_X10_taken) (0, 0)) (hr : meth.sig.returnType = (some .int)) (hk : meth.locks = false)   (z : St) (o0 : Nat) (x1 : Int32) (x2 : Int32) (ho0 : kd o0 = 10) {res : St × Int32} (hf : f_X10_taken_11  z o0 x1 x2 = some res) : Zj p l e (rm_X10_taken) s m args below meth c g A 3 (0, 0) (QI g A below args s res) z 11 [(0, .ref (g.1 o0)), (1, .int x1), (2, .int x2)] [] := by
  unfold f_X10_taken_11 at hf
  refine z_iconst C dX10_taken_11 (v := 0) (by decide) ?_
  refine z_iload_n C dX10_taken_12 rfl 2 rfl ?_
  obtain ⟨r1, hc2, hf⟩ := q_bd hf
  refine z_cSi C (st := []) (c_X2_mayBe  hc2) mw_X2_mayBe ml_X10_122 dX10_taken_13 rfl rfl rfl ⟨Nat.le_of_ble_eq_true rfl, Nat.le_of_ble_eq_true rfl⟩ rfl (Nat.le_of_ble_eq_true rfl) ?_
  exact z_if_ne C dX10_taken_16 (by decide) (fun h => z_sub [0, 1, 2] rfl (b_X10_taken_22 C hr hk r1.1 o0 x1 x2 ho0 (q_f hf h))) (fun h => z_sub [] rfl (b_X10_taken_19 C hr hk r1.1 (q_t hf h)))
def f_X10_taken_0  (z : St) (o0 : Nat) (x1 : Int32) (x2 : Int32) : Option (St × Int32) :=
  ((f_X2_holds z (rf o0 0) x1).bind fun r1 => if r1.2 = 0 then f_X10_taken_19 r1.1 else f_X10_taken_11 r1.1 o0 x1 x2)
theorem b_X10_taken_0 {p : Program} {l : Launch} {e : Env} {s : State} {m : MethodId} {args : Array Value} {below : List Frame} {meth : Method} {c : Code} {g : Ga} {A : Nat → Prop} (C : Cx l g A p s m args c cX10_taken 3 RX10 (rm_X10_taken) (0, 0)) (hr : meth.sig.returnType = (some .int)) (hk : meth.locks = false)   (z : St) (o0 : Nat) (x1 : Int32) (x2 : Int32) (ho0 : kd o0 = 10) {res : St × Int32} (hf : f_X10_taken_0  z o0 x1 x2 = some res) : Zj p l e (rm_X10_taken) s m args below meth c g A 3 (0, 0) (QI g A below args s res) z 0 [(0, .ref (g.1 o0)), (1, .int x1), (2, .int x2)] [] := by
  unfold f_X10_taken_0 at hf
  refine z_aload_n C dX10_taken_0 rfl 0 rfl ?_
  refine gf_X10_10 C dX10_taken_1 ho0 ?_
  refine z_iload_n C dX10_taken_4 rfl 1 rfl ?_
  obtain ⟨r1, hc2, hf⟩ := q_bd hf
  refine z_cVi C (st := []) (c_X2_holds (rt_10_0 _ (kd_lt ho0 (by decide)) ho0) hc2) mw_X2_holds ml_X10_129 (rt_10_0 _ (kd_lt ho0 (by decide)) ho0) (by decide) rfl dX10_taken_5 rfl rfl rfl ⟨Nat.le_of_ble_eq_true rfl, Nat.le_of_ble_eq_true rfl⟩ rfl (Nat.le_of_ble_eq_true rfl) ?_
  exact z_if_eq C dX10_taken_8 (by decide) (fun h => z_sub [] rfl (b_X10_taken_19 C hr hk r1.1 (q_t hf h))) (fun h => z_sub [0, 1, 2] rfl (b_X10_taken_11 C hr hk r1.1 o0 x1 x2 ho0 (q_f hf h)))
def f_X10_taken (z : St) (o0 : Nat) (x1 : Int32) (x2 : Int32) : Option (St × Int32) := f_X10_taken_0 z o0 x1 x2
theorem c_X10_taken {l : Launch} {g : Ga} {A : Nat → Prop} {z : St} {o0 : Nat} {x1 : Int32} {x2 : Int32} (ho0 : kd o0 = 10) {res : St × Int32} (hf : f_X10_taken z o0 x1 x2 = some res) : CI l g A yX10_taken cX10_taken 3 (some .int) rm_X10_taken [.ref (g.1 o0), .int x1, .int x2] z res :=
  e_CI (by decide) (Nat.le_of_ble_eq_true rfl) rfl (fun p e s m args below meth c C hr hk => z_sub [0, 1, 2] rfl (b_X10_taken_0 C hr hk z o0 x1 x2 ho0 hf))
abbrev rm_X10_greedy : Room := { frames := 3, cells := 0, slots := 0, locals := 67 }
def f_X10_greedy_9  (z : St)  : Option (St × Int32) :=
  some (z, (-2))
theorem b_X10_greedy_9 {p : Program} {l : Launch} {e : Env} {s : State} {m : MethodId} {args : Array Value} {below : List Frame} {meth : Method} {c : Code} {g : Ga} {A : Nat → Prop} (C : Cx l g A p s m args c cX10_greedy 4 RX10 (rm_X10_greedy) (0, 0)) (hr : meth.sig.returnType = (some .int)) (hk : meth.locks = false)   (z : St)   {res : St × Int32} (hf : f_X10_greedy_9  z  = some res) : Zj p l e (rm_X10_greedy) s m args below meth c g A 4 (0, 0) (QI g A below args s res) z 9 [] [] := by
  unfold f_X10_greedy_9 at hf
  refine z_bipush C dX10_greedy_9 (v := (-2)) (by decide) ?_
  cases hf
  exact z_iret C hr hk dX10_greedy_11
def f_X10_greedy_28  (z : St)  : Option (St × Int32) :=
  some (z, (-12))
theorem b_X10_greedy_28 {p : Program} {l : Launch} {e : Env} {s : State} {m : MethodId} {args : Array Value} {below : List Frame} {meth : Method} {c : Code} {g : Ga} {A : Nat → Prop} (C : Cx l g A p s m args c cX10_greedy 4 RX10 (rm_X10_greedy) (0, 0)) (hr : meth.sig.returnType = (some .int)) (hk : meth.locks = false)   (z : St)   {res : St × Int32} (hf : f_X10_greedy_28  z  = some res) : Zj p l e (rm_X10_greedy) s m args below meth c g A 4 (0, 0) (QI g A below args s res) z 28 [] [] := by
  unfold f_X10_greedy_28 at hf
  refine z_bipush C dX10_greedy_28 (v := (-12)) (by decide) ?_
  cases hf
  exact z_iret C hr hk dX10_greedy_30
def f_X10_greedy_68  (z : St) (s0 : Int32) : Option (St × Int32) :=
  some (z, s0)
theorem b_X10_greedy_68 {p : Program} {l : Launch} {e : Env} {s : State} {m : MethodId} {args : Array Value} {below : List Frame} {meth : Method} {c : Code} {g : Ga} {A : Nat → Prop} (C : Cx l g A p s m args c cX10_greedy 4 RX10 (rm_X10_greedy) (0, 0)) (hr : meth.sig.returnType = (some .int)) (hk : meth.locks = false)   (z : St) (s0 : Int32)  {res : St × Int32} (hf : f_X10_greedy_68  z s0 = some res) : Zj p l e (rm_X10_greedy) s m args below meth c g A 4 (0, 0) (QI g A below args s res) z 68 [] [.int s0] := by
  unfold f_X10_greedy_68 at hf
  cases hf
  exact z_iret C hr hk dX10_greedy_68
def f_X10_greedy_51  (z : St) (o0 : Nat) : Option (St × Int32) :=
  f_X10_greedy_68 z (z.1 (rf o0 6) 6)
theorem b_X10_greedy_51 {p : Program} {l : Launch} {e : Env} {s : State} {m : MethodId} {args : Array Value} {below : List Frame} {meth : Method} {c : Code} {g : Ga} {A : Nat → Prop} (C : Cx l g A p s m args c cX10_greedy 4 RX10 (rm_X10_greedy) (0, 0)) (hr : meth.sig.returnType = (some .int)) (hk : meth.locks = false)   (z : St) (o0 : Nat) (ho0 : kd o0 = 10) {res : St × Int32} (hf : f_X10_greedy_51  z o0 = some res) : Zj p l e (rm_X10_greedy) s m args below meth c g A 4 (0, 0) (QI g A below args s res) z 51 [(0, .ref (g.1 o0))] [] := by
  unfold f_X10_greedy_51 at hf
  refine z_aload_n C dX10_greedy_51 rfl 0 rfl ?_
  refine gf_X10_42 C dX10_greedy_52 ho0 ?_
  refine gf_X10_160 C dX10_greedy_55 (rt_10_6 _ (kd_lt ho0 (by decide)) ho0) ?_
  exact z_goto C dX10_greedy_58 (by decide) (z_sub [] rfl (b_X10_greedy_68 C hr hk z (z.1 (rf o0 6) 6) hf))
def f_X10_greedy_61  (z : St) (o0 : Nat) : Option (St × Int32) :=
  f_X10_greedy_68 z (z.1 (rf o0 6) 7)
theorem b_X10_greedy_61 {p : Program} {l : Launch} {e : Env} {s : State} {m : MethodId} {args : Array Value} {below : List Frame} {meth : Method} {c : Code} {g : Ga} {A : Nat → Prop} (C : Cx l g A p s m args c cX10_greedy 4 RX10 (rm_X10_greedy) (0, 0)) (hr : meth.sig.returnType = (some .int)) (hk : meth.locks = false)   (z : St) (o0 : Nat) (ho0 : kd o0 = 10) {res : St × Int32} (hf : f_X10_greedy_61  z o0 = some res) : Zj p l e (rm_X10_greedy) s m args below meth c g A 4 (0, 0) (QI g A below args s res) z 61 [(0, .ref (g.1 o0))] [] := by
  unfold f_X10_greedy_61 at hf
  refine z_aload_n C dX10_greedy_61 rfl 0 rfl ?_
  refine gf_X10_42 C dX10_greedy_62 ho0 ?_
  refine gf_X10_163 C dX10_greedy_65 (rt_10_6 _ (kd_lt ho0 (by decide)) ho0) ?_
  exact z_sub [] rfl (b_X10_greedy_68 C hr hk z (z.1 (rf o0 6) 7) hf)
def f_X10_greedy_47  (z : St) (o0 : Nat) (x2 : Int32) : Option (St × Int32) :=
  if x2 = 0 then f_X10_greedy_51 z o0 else f_X10_greedy_61 z o0
theorem b_X10_greedy_47 {p : Program} {l : Launch} {e : Env} {s : State} {m : MethodId} {args : Array Value} {below : List Frame} {meth : Method} {c : Code} {g : Ga} {A : Nat → Prop} (C : Cx l g A p s m args c cX10_greedy 4 RX10 (rm_X10_greedy) (0, 0)) (hr : meth.sig.returnType = (some .int)) (hk : meth.locks = false)   (z : St) (o0 : Nat) (x2 : Int32) (ho0 : kd o0 = 10) {res : St × Int32} (hf : f_X10_greedy_47  z o0 x2 = some res) : Zj p l e (rm_X10_greedy) s m args below meth c g A 4 (0, 0) (QI g A below args s res) z 47 [(0, .ref (g.1 o0)), (2, .int x2)] [] := by
  unfold f_X10_greedy_47 at hf
  refine z_iload_n C dX10_greedy_47 rfl 1 rfl ?_
  exact z_if_ne C dX10_greedy_48 (by decide) (fun h => z_sub [0] rfl (b_X10_greedy_61 C hr hk z o0 ho0 (q_f hf h))) (fun h => z_sub [0] rfl (b_X10_greedy_51 C hr hk z o0 ho0 (q_t hf h)))
def f_X10_greedy_94  (z : St) (s0 : Int32) : Option (St × Int32) :=
  some (z, s0)
theorem b_X10_greedy_94 {p : Program} {l : Launch} {e : Env} {s : State} {m : MethodId} {args : Array Value} {below : List Frame} {meth : Method} {c : Code} {g : Ga} {A : Nat → Prop} (C : Cx l g A p s m args c cX10_greedy 4 RX10 (rm_X10_greedy) (0, 0)) (hr : meth.sig.returnType = (some .int)) (hk : meth.locks = false)   (z : St) (s0 : Int32)  {res : St × Int32} (hf : f_X10_greedy_94  z s0 = some res) : Zj p l e (rm_X10_greedy) s m args below meth c g A 4 (0, 0) (QI g A below args s res) z 94 [] [.int s0] := by
  unfold f_X10_greedy_94 at hf
  cases hf
  exact z_iret C hr hk dX10_greedy_94
def f_X10_greedy_82  (z : St) (x3 : Int32) : Option (St × Int32) :=
  f_X10_greedy_94 z x3
theorem b_X10_greedy_82 {p : Program} {l : Launch} {e : Env} {s : State} {m : MethodId} {args : Array Value} {below : List Frame} {meth : Method} {c : Code} {g : Ga} {A : Nat → Prop} (C : Cx l g A p s m args c cX10_greedy 4 RX10 (rm_X10_greedy) (0, 0)) (hr : meth.sig.returnType = (some .int)) (hk : meth.locks = false)   (z : St) (x3 : Int32)  {res : St × Int32} (hf : f_X10_greedy_82  z x3 = some res) : Zj p l e (rm_X10_greedy) s m args below meth c g A 4 (0, 0) (QI g A below args s res) z 82 [(3, .int x3)] [] := by
  unfold f_X10_greedy_82 at hf
  refine z_iload_n C dX10_greedy_82 rfl 0 rfl ?_
  exact z_goto C dX10_greedy_83 (by decide) (z_sub [] rfl (b_X10_greedy_94 C hr hk z x3 hf))
def f_X10_greedy_86  (z : St) (o0 : Nat) (x3 : Int32) : Option (St × Int32) :=
  ((f_X3_beginOf z (rf o0 6) x3).bind fun r1 => f_X10_greedy_94 r1.1 r1.2)
theorem b_X10_greedy_86 {p : Program} {l : Launch} {e : Env} {s : State} {m : MethodId} {args : Array Value} {below : List Frame} {meth : Method} {c : Code} {g : Ga} {A : Nat → Prop} (C : Cx l g A p s m args c cX10_greedy 4 RX10 (rm_X10_greedy) (0, 0)) (hr : meth.sig.returnType = (some .int)) (hk : meth.locks = false)   (z : St) (o0 : Nat) (x3 : Int32) (ho0 : kd o0 = 10) {res : St × Int32} (hf : f_X10_greedy_86  z o0 x3 = some res) : Zj p l e (rm_X10_greedy) s m args below meth c g A 4 (0, 0) (QI g A below args s res) z 86 [(0, .ref (g.1 o0)), (3, .int x3)] [] := by
  unfold f_X10_greedy_86 at hf
  refine z_aload_n C dX10_greedy_86 rfl 0 rfl ?_
  refine gf_X10_42 C dX10_greedy_87 ho0 ?_
  refine z_iload_n C dX10_greedy_90 rfl 1 rfl ?_
  obtain ⟨r1, hc2, hf⟩ := q_bd hf
  refine z_cVi C (st := []) (c_X3_beginOf (rt_10_6 _ (kd_lt ho0 (by decide)) ho0) hc2) mw_X3_beginOf ml_X10_169 (rt_10_6 _ (kd_lt ho0 (by decide)) ho0) (by decide) rfl dX10_greedy_91 rfl rfl rfl ⟨Nat.le_of_ble_eq_true rfl, Nat.le_of_ble_eq_true rfl⟩ rfl (Nat.le_of_ble_eq_true rfl) ?_
  exact z_sub [] rfl (b_X10_greedy_94 C hr hk r1.1 r1.2 hf)
def f_X10_greedy_69  (z : St) (o0 : Nat) (x1 : Int32) (x2 : Int32) : Option (St × Int32) :=
  ((f_X3_jobAt z (rf o0 6) x1).bind fun r1 => if x2 = 0 then f_X10_greedy_82 r1.1 r1.2 else f_X10_greedy_86 r1.1 o0 r1.2)
theorem b_X10_greedy_69 {p : Program} {l : Launch} {e : Env} {s : State} {m : MethodId} {args : Array Value} {below : List Frame} {meth : Method} {c : Code} {g : Ga} {A : Nat → Prop} (C : Cx l g A p s m args c cX10_greedy 4 RX10 (rm_X10_greedy) (0, 0)) (hr : meth.sig.returnType = (some .int)) (hk : meth.locks = false)   (z : St) (o0 : Nat) (x1 : Int32) (x2 : Int32) (ho0 : kd o0 = 10) {res : St × Int32} (hf : f_X10_greedy_69  z o0 x1 x2 = some res) : Zj p l e (rm_X10_greedy) s m args below meth c g A 4 (0, 0) (QI g A below args s res) z 69 [(0, .ref (g.1 o0)), (1, .int x1), (2, .int x2)] [] := by
  unfold f_X10_greedy_69 at hf
  refine z_aload_n C dX10_greedy_69 rfl 0 rfl ?_
  refine gf_X10_42 C dX10_greedy_70 ho0 ?_
  refine z_iload_n C dX10_greedy_73 rfl 1 rfl ?_
  obtain ⟨r1, hc2, hf⟩ := q_bd hf
  refine z_cVi C (st := []) (c_X3_jobAt (rt_10_6 _ (kd_lt ho0 (by decide)) ho0) hc2) mw_X3_jobAt ml_X10_166 (rt_10_6 _ (kd_lt ho0 (by decide)) ho0) (by decide) rfl dX10_greedy_74 rfl rfl rfl ⟨Nat.le_of_ble_eq_true rfl, Nat.le_of_ble_eq_true rfl⟩ rfl (Nat.le_of_ble_eq_true rfl) ?_
  refine z_istore_n C (lv2 := [(3, .int r1.2), (0, .ref (g.1 o0)), (1, .int x1), (2, .int x2)]) dX10_greedy_77 rfl (by decide) rfl ?_
  refine z_iload_n C dX10_greedy_78 rfl 3 rfl ?_
  exact z_if_ne C dX10_greedy_79 (by decide) (fun h => z_sub [1, 0] rfl (b_X10_greedy_86 C hr hk r1.1 o0 r1.2 ho0 (q_f hf h))) (fun h => z_sub [0] rfl (b_X10_greedy_82 C hr hk r1.1 r1.2 (q_t hf h)))
def f_X10_greedy_31  (z : St) (o0 : Nat) (x1 : Int32) (x2 : Int32) : Option (St × Int32) :=
  ((f_X3_layGreedy z (rf o0 6) (rf o0 4)).bind fun r1 => if x1 = ((-1)) then f_X10_greedy_47 r1 o0 x2 else f_X10_greedy_69 r1 o0 x1 x2)
theorem b_X10_greedy_31 {p : Program} {l : Launch} {e : Env} {s : State} {m : MethodId} {args : Array Value} {below : List Frame} {meth : Method} {c : Code} {g : Ga} {A : Nat → Prop} (C : Cx l g A p s m args c cX10_greedy 4 RX10 (rm_X10_greedy) (0, 0)) (hr : meth.sig.returnType = (some .int)) (hk : meth.locks = false)   (z : St) (o0 : Nat) (x1 : Int32) (x2 : Int32) (ho0 : kd o0 = 10) {res : St × Int32} (hf : f_X10_greedy_31  z o0 x1 x2 = some res) : Zj p l e (rm_X10_greedy) s m args below meth c g A 4 (0, 0) (QI g A below args s res) z 31 [(0, .ref (g.1 o0)), (1, .int x1), (2, .int x2)] [] := by
  unfold f_X10_greedy_31 at hf
  refine z_aload_n C dX10_greedy_31 rfl 0 rfl ?_
  refine gf_X10_42 C dX10_greedy_32 ho0 ?_
  refine z_aload_n C dX10_greedy_35 rfl 0 rfl ?_
  refine gf_X10_32 C dX10_greedy_36 ho0 ?_
  obtain ⟨r1, hc2, hf⟩ := q_bd hf
  refine z_cVv C (st := []) (c_X3_layGreedy (rt_10_6 _ (kd_lt ho0 (by decide)) ho0) (rt_10_4 _ (kd_lt ho0 (by decide)) ho0) hc2) mw_X3_layGreedy ml_X10_156 (rt_10_6 _ (kd_lt ho0 (by decide)) ho0) (by decide) rfl dX10_greedy_39 rfl rfl rfl ⟨Nat.le_of_ble_eq_true rfl, Nat.le_of_ble_eq_true rfl⟩ rfl (Nat.le_of_ble_eq_true rfl) ?_
  refine z_iload_n C dX10_greedy_42 rfl 1 rfl ?_
  refine z_iconst C dX10_greedy_43 (v := (-1)) (by decide) ?_
  exact z_icmp_ne C dX10_greedy_44 (by decide) (fun h => z_sub [0, 1, 2] rfl (b_X10_greedy_69 C hr hk r1 o0 x1 x2 ho0 (q_f hf h))) (fun h => z_sub [0, 2] rfl (b_X10_greedy_47 C hr hk r1 o0 x2 ho0 (q_t hf h)))
def f_X10_greedy_17  (z : St) (o0 : Nat) (x1 : Int32) (x2 : Int32) : Option (St × Int32) :=
  if x1 < (z.1 (rf o0 0) 1) then f_X10_greedy_31 z o0 x1 x2 else f_X10_greedy_28 z
theorem b_X10_greedy_17 {p : Program} {l : Launch} {e : Env} {s : State} {m : MethodId} {args : Array Value} {below : List Frame} {meth : Method} {c : Code} {g : Ga} {A : Nat → Prop} (C : Cx l g A p s m args c cX10_greedy 4 RX10 (rm_X10_greedy) (0, 0)) (hr : meth.sig.returnType = (some .int)) (hk : meth.locks = false)   (z : St) (o0 : Nat) (x1 : Int32) (x2 : Int32) (ho0 : kd o0 = 10) {res : St × Int32} (hf : f_X10_greedy_17  z o0 x1 x2 = some res) : Zj p l e (rm_X10_greedy) s m args below meth c g A 4 (0, 0) (QI g A below args s res) z 17 [(0, .ref (g.1 o0)), (1, .int x1), (2, .int x2)] [] := by
  unfold f_X10_greedy_17 at hf
  refine z_iload_n C dX10_greedy_17 rfl 1 rfl ?_
  refine z_aload_n C dX10_greedy_18 rfl 0 rfl ?_
  refine gf_X10_10 C dX10_greedy_19 ho0 ?_
  refine gf_X10_113 C dX10_greedy_22 (rt_10_0 _ (kd_lt ho0 (by decide)) ho0) ?_
  exact z_icmp_lt C dX10_greedy_25 (by decide) (fun h => z_sub [0, 1, 2] rfl (b_X10_greedy_31 C hr hk z o0 x1 x2 ho0 (q_t hf h))) (fun h => z_sub [] rfl (b_X10_greedy_28 C hr hk z (q_f hf h)))
def f_X10_greedy_12  (z : St) (o0 : Nat) (x1 : Int32) (x2 : Int32) : Option (St × Int32) :=
  if x1 < ((-1)) then f_X10_greedy_28 z else f_X10_greedy_17 z o0 x1 x2
theorem b_X10_greedy_12 {p : Program} {l : Launch} {e : Env} {s : State} {m : MethodId} {args : Array Value} {below : List Frame} {meth : Method} {c : Code} {g : Ga} {A : Nat → Prop} (C : Cx l g A p s m args c cX10_greedy 4 RX10 (rm_X10_greedy) (0, 0)) (hr : meth.sig.returnType = (some .int)) (hk : meth.locks = false)   (z : St) (o0 : Nat) (x1 : Int32) (x2 : Int32) (ho0 : kd o0 = 10) {res : St × Int32} (hf : f_X10_greedy_12  z o0 x1 x2 = some res) : Zj p l e (rm_X10_greedy) s m args below meth c g A 4 (0, 0) (QI g A below args s res) z 12 [(0, .ref (g.1 o0)), (1, .int x1), (2, .int x2)] [] := by
  unfold f_X10_greedy_12 at hf
  refine z_iload_n C dX10_greedy_12 rfl 1 rfl ?_
  refine z_iconst C dX10_greedy_13 (v := (-1)) (by decide) ?_
  exact z_icmp_lt C dX10_greedy_14 (by decide) (fun h => z_sub [] rfl (b_X10_greedy_28 C hr hk z (q_t hf h))) (fun h => z_sub [0, 1, 2] rfl (b_X10_greedy_17 C hr hk z o0 x1 x2 ho0 (q_f hf h)))
def f_X10_greedy_4  (z : St) (o0 : Nat) (x1 : Int32) (x2 : Int32) : Option (St × Int32) :=
  if x2 ≤ 1 then f_X10_greedy_12 z o0 x1 x2 else f_X10_greedy_9 z
theorem b_X10_greedy_4 {p : Program} {l : Launch} {e : Env} {s : State} {m : MethodId} {args : Array Value} {below : List Frame} {meth : Method} {c : Code} {g : Ga} {A : Nat → Prop} (C : Cx l g A p s m args c cX10_greedy 4 RX10 (rm_X10_greedy) (0, 0)) (hr : meth.sig.returnType = (some .int)) (hk : meth.locks = false)   (z : St) (o0 : Nat) (x1 : Int32) (x2 : Int32) (ho0 : kd o0 = 10) {res : St × Int32} (hf : f_X10_greedy_4  z o0 x1 x2 = some res) : Zj p l e (rm_X10_greedy) s m args below meth c g A 4 (0, 0) (QI g A below args s res) z 4 [(0, .ref (g.1 o0)), (1, .int x1), (2, .int x2)] [] := by
  unfold f_X10_greedy_4 at hf
  refine z_iload_n C dX10_greedy_4 rfl 2 rfl ?_
  refine z_iconst C dX10_greedy_5 (v := 1) (by decide) ?_
  exact z_icmp_le C dX10_greedy_6 (by decide) (fun h => z_sub [0, 1, 2] rfl (b_X10_greedy_12 C hr hk z o0 x1 x2 ho0 (q_t hf h))) (fun h => z_sub [] rfl (b_X10_greedy_9 C hr hk z (q_f hf h)))
def f_X10_greedy_0  (z : St) (o0 : Nat) (x1 : Int32) (x2 : Int32) : Option (St × Int32) :=
  if x2 < 0 then f_X10_greedy_9 z else f_X10_greedy_4 z o0 x1 x2
theorem b_X10_greedy_0 {p : Program} {l : Launch} {e : Env} {s : State} {m : MethodId} {args : Array Value} {below : List Frame} {meth : Method} {c : Code} {g : Ga} {A : Nat → Prop} (C : Cx l g A p s m args c cX10_greedy 4 RX10 (rm_X10_greedy) (0, 0)) (hr : meth.sig.returnType = (some .int)) (hk : meth.locks = false)   (z : St) (o0 : Nat) (x1 : Int32) (x2 : Int32) (ho0 : kd o0 = 10) {res : St × Int32} (hf : f_X10_greedy_0  z o0 x1 x2 = some res) : Zj p l e (rm_X10_greedy) s m args below meth c g A 4 (0, 0) (QI g A below args s res) z 0 [(0, .ref (g.1 o0)), (1, .int x1), (2, .int x2)] [] := by
  unfold f_X10_greedy_0 at hf
  refine z_iload_n C dX10_greedy_0 rfl 2 rfl ?_
  exact z_if_lt C dX10_greedy_1 (by decide) (fun h => z_sub [] rfl (b_X10_greedy_9 C hr hk z (q_t hf h))) (fun h => z_sub [0, 1, 2] rfl (b_X10_greedy_4 C hr hk z o0 x1 x2 ho0 (q_f hf h)))
def f_X10_greedy (z : St) (o0 : Nat) (x1 : Int32) (x2 : Int32) : Option (St × Int32) := f_X10_greedy_0 z o0 x1 x2
theorem c_X10_greedy {l : Launch} {g : Ga} {A : Nat → Prop} {z : St} {o0 : Nat} {x1 : Int32} {x2 : Int32} (ho0 : kd o0 = 10) {res : St × Int32} (hf : f_X10_greedy z o0 x1 x2 = some res) : CI l g A yX10_greedy cX10_greedy 4 (some .int) rm_X10_greedy [.ref (g.1 o0), .int x1, .int x2] z res :=
  e_CI (by decide) (Nat.le_of_ble_eq_true rfl) rfl (fun p e s m args below meth c C hr hk => z_sub [0, 1, 2] rfl (b_X10_greedy_0 C hr hk z o0 x1 x2 ho0 hf))
abbrev rm_X10_breaking : Room := { frames := 3, cells := 0, slots := 0, locals := 72 }
def f_X10_breaking_9  (z : St)  : Option (St × Int32) :=
  some (z, (-2))
theorem b_X10_breaking_9 {p : Program} {l : Launch} {e : Env} {s : State} {m : MethodId} {args : Array Value} {below : List Frame} {meth : Method} {c : Code} {g : Ga} {A : Nat → Prop} (C : Cx l g A p s m args c cX10_breaking 2 RX10 (rm_X10_breaking) (0, 0)) (hr : meth.sig.returnType = (some .int)) (hk : meth.locks = false)   (z : St)   {res : St × Int32} (hf : f_X10_breaking_9  z  = some res) : Zj p l e (rm_X10_breaking) s m args below meth c g A 2 (0, 0) (QI g A below args s res) z 9 [] [] := by
  unfold f_X10_breaking_9 at hf
  refine z_bipush C dX10_breaking_9 (v := (-2)) (by decide) ?_
  cases hf
  exact z_iret C hr hk dX10_breaking_11
def f_X10_breaking_44  (z : St) (s0 : Int32) : Option (St × Int32) :=
  some (z, s0)
theorem b_X10_breaking_44 {p : Program} {l : Launch} {e : Env} {s : State} {m : MethodId} {args : Array Value} {below : List Frame} {meth : Method} {c : Code} {g : Ga} {A : Nat → Prop} (C : Cx l g A p s m args c cX10_breaking 2 RX10 (rm_X10_breaking) (0, 0)) (hr : meth.sig.returnType = (some .int)) (hk : meth.locks = false)   (z : St) (s0 : Int32)  {res : St × Int32} (hf : f_X10_breaking_44  z s0 = some res) : Zj p l e (rm_X10_breaking) s m args below meth c g A 2 (0, 0) (QI g A below args s res) z 44 [] [.int s0] := by
  unfold f_X10_breaking_44 at hf
  cases hf
  exact z_iret C hr hk dX10_breaking_44
def f_X10_breaking_27  (z : St) (o0 : Nat) : Option (St × Int32) :=
  f_X10_breaking_44 z (z.1 (rf o0 9) 1)
theorem b_X10_breaking_27 {p : Program} {l : Launch} {e : Env} {s : State} {m : MethodId} {args : Array Value} {below : List Frame} {meth : Method} {c : Code} {g : Ga} {A : Nat → Prop} (C : Cx l g A p s m args c cX10_breaking 2 RX10 (rm_X10_breaking) (0, 0)) (hr : meth.sig.returnType = (some .int)) (hk : meth.locks = false)   (z : St) (o0 : Nat) (ho0 : kd o0 = 10) {res : St × Int32} (hf : f_X10_breaking_27  z o0 = some res) : Zj p l e (rm_X10_breaking) s m args below meth c g A 2 (0, 0) (QI g A below args s res) z 27 [(0, .ref (g.1 o0))] [] := by
  unfold f_X10_breaking_27 at hf
  refine z_aload_n C dX10_breaking_27 rfl 0 rfl ?_
  refine gf_X10_59 C dX10_breaking_28 ho0 ?_
  refine gf_X10_175 C dX10_breaking_31 (rt_10_9 _ (kd_lt ho0 (by decide)) ho0) ?_
  exact z_goto C dX10_breaking_34 (by decide) (z_sub [] rfl (b_X10_breaking_44 C hr hk z (z.1 (rf o0 9) 1) hf))
def f_X10_breaking_37  (z : St) (o0 : Nat) : Option (St × Int32) :=
  f_X10_breaking_44 z (z.1 (rf o0 9) 2)
theorem b_X10_breaking_37 {p : Program} {l : Launch} {e : Env} {s : State} {m : MethodId} {args : Array Value} {below : List Frame} {meth : Method} {c : Code} {g : Ga} {A : Nat → Prop} (C : Cx l g A p s m args c cX10_breaking 2 RX10 (rm_X10_breaking) (0, 0)) (hr : meth.sig.returnType = (some .int)) (hk : meth.locks = false)   (z : St) (o0 : Nat) (ho0 : kd o0 = 10) {res : St × Int32} (hf : f_X10_breaking_37  z o0 = some res) : Zj p l e (rm_X10_breaking) s m args below meth c g A 2 (0, 0) (QI g A below args s res) z 37 [(0, .ref (g.1 o0))] [] := by
  unfold f_X10_breaking_37 at hf
  refine z_aload_n C dX10_breaking_37 rfl 0 rfl ?_
  refine gf_X10_59 C dX10_breaking_38 ho0 ?_
  refine gf_X10_176 C dX10_breaking_41 (rt_10_9 _ (kd_lt ho0 (by decide)) ho0) ?_
  exact z_sub [] rfl (b_X10_breaking_44 C hr hk z (z.1 (rf o0 9) 2) hf)
def f_X10_breaking_12  (z : St) (o0 : Nat) (x1 : Int32) : Option (St × Int32) :=
  ((f_X1_run z (rf o0 9) (rf o0 4)).bind fun r1 => if x1 = 0 then f_X10_breaking_27 r1 o0 else f_X10_breaking_37 r1 o0)
theorem b_X10_breaking_12 {p : Program} {l : Launch} {e : Env} {s : State} {m : MethodId} {args : Array Value} {below : List Frame} {meth : Method} {c : Code} {g : Ga} {A : Nat → Prop} (C : Cx l g A p s m args c cX10_breaking 2 RX10 (rm_X10_breaking) (0, 0)) (hr : meth.sig.returnType = (some .int)) (hk : meth.locks = false)   (z : St) (o0 : Nat) (x1 : Int32) (ho0 : kd o0 = 10) {res : St × Int32} (hf : f_X10_breaking_12  z o0 x1 = some res) : Zj p l e (rm_X10_breaking) s m args below meth c g A 2 (0, 0) (QI g A below args s res) z 12 [(0, .ref (g.1 o0)), (1, .int x1)] [] := by
  unfold f_X10_breaking_12 at hf
  refine z_aload_n C dX10_breaking_12 rfl 0 rfl ?_
  refine gf_X10_59 C dX10_breaking_13 ho0 ?_
  refine z_aload_n C dX10_breaking_16 rfl 0 rfl ?_
  refine gf_X10_32 C dX10_breaking_17 ho0 ?_
  obtain ⟨r1, hc2, hf⟩ := q_bd hf
  refine z_cVv C (st := []) (c_X1_run (rt_10_9 _ (kd_lt ho0 (by decide)) ho0) (rt_10_4 _ (kd_lt ho0 (by decide)) ho0) hc2) mw_X1_run ml_X10_172 (rt_10_9 _ (kd_lt ho0 (by decide)) ho0) (by decide) rfl dX10_breaking_20 rfl rfl rfl ⟨Nat.le_of_ble_eq_true rfl, Nat.le_of_ble_eq_true rfl⟩ rfl (Nat.le_of_ble_eq_true rfl) ?_
  refine z_iload_n C dX10_breaking_23 rfl 1 rfl ?_
  exact z_if_ne C dX10_breaking_24 (by decide) (fun h => z_sub [0] rfl (b_X10_breaking_37 C hr hk r1 o0 ho0 (q_f hf h))) (fun h => z_sub [0] rfl (b_X10_breaking_27 C hr hk r1 o0 ho0 (q_t hf h)))
def f_X10_breaking_4  (z : St) (o0 : Nat) (x1 : Int32) : Option (St × Int32) :=
  if x1 ≤ 1 then f_X10_breaking_12 z o0 x1 else f_X10_breaking_9 z
theorem b_X10_breaking_4 {p : Program} {l : Launch} {e : Env} {s : State} {m : MethodId} {args : Array Value} {below : List Frame} {meth : Method} {c : Code} {g : Ga} {A : Nat → Prop} (C : Cx l g A p s m args c cX10_breaking 2 RX10 (rm_X10_breaking) (0, 0)) (hr : meth.sig.returnType = (some .int)) (hk : meth.locks = false)   (z : St) (o0 : Nat) (x1 : Int32) (ho0 : kd o0 = 10) {res : St × Int32} (hf : f_X10_breaking_4  z o0 x1 = some res) : Zj p l e (rm_X10_breaking) s m args below meth c g A 2 (0, 0) (QI g A below args s res) z 4 [(0, .ref (g.1 o0)), (1, .int x1)] [] := by
  unfold f_X10_breaking_4 at hf
  refine z_iload_n C dX10_breaking_4 rfl 1 rfl ?_
  refine z_iconst C dX10_breaking_5 (v := 1) (by decide) ?_
  exact z_icmp_le C dX10_breaking_6 (by decide) (fun h => z_sub [0, 1] rfl (b_X10_breaking_12 C hr hk z o0 x1 ho0 (q_t hf h))) (fun h => z_sub [] rfl (b_X10_breaking_9 C hr hk z (q_f hf h)))
def f_X10_breaking_0  (z : St) (o0 : Nat) (x1 : Int32) : Option (St × Int32) :=
  if x1 < 0 then f_X10_breaking_9 z else f_X10_breaking_4 z o0 x1
theorem b_X10_breaking_0 {p : Program} {l : Launch} {e : Env} {s : State} {m : MethodId} {args : Array Value} {below : List Frame} {meth : Method} {c : Code} {g : Ga} {A : Nat → Prop} (C : Cx l g A p s m args c cX10_breaking 2 RX10 (rm_X10_breaking) (0, 0)) (hr : meth.sig.returnType = (some .int)) (hk : meth.locks = false)   (z : St) (o0 : Nat) (x1 : Int32) (ho0 : kd o0 = 10) {res : St × Int32} (hf : f_X10_breaking_0  z o0 x1 = some res) : Zj p l e (rm_X10_breaking) s m args below meth c g A 2 (0, 0) (QI g A below args s res) z 0 [(0, .ref (g.1 o0)), (1, .int x1)] [] := by
  unfold f_X10_breaking_0 at hf
  refine z_iload_n C dX10_breaking_0 rfl 1 rfl ?_
  exact z_if_lt C dX10_breaking_1 (by decide) (fun h => z_sub [] rfl (b_X10_breaking_9 C hr hk z (q_t hf h))) (fun h => z_sub [0, 1] rfl (b_X10_breaking_4 C hr hk z o0 x1 ho0 (q_f hf h)))
def f_X10_breaking (z : St) (o0 : Nat) (x1 : Int32) : Option (St × Int32) := f_X10_breaking_0 z o0 x1
theorem c_X10_breaking {l : Launch} {g : Ga} {A : Nat → Prop} {z : St} {o0 : Nat} {x1 : Int32} (ho0 : kd o0 = 10) {res : St × Int32} (hf : f_X10_breaking z o0 x1 = some res) : CI l g A yX10_breaking cX10_breaking 2 (some .int) rm_X10_breaking [.ref (g.1 o0), .int x1] z res :=
  e_CI (by decide) (Nat.le_of_ble_eq_true rfl) rfl (fun p e s m args below meth c C hr hk => z_sub [0, 1] rfl (b_X10_breaking_0 C hr hk z o0 x1 ho0 hf))
abbrev rm_X10_strongest : Room := { frames := 3, cells := 0, slots := 0, locals := 70 }
def f_X10_strongest_9  (z : St)  : Option (St × Int32) :=
  some (z, (-2))
theorem b_X10_strongest_9 {p : Program} {l : Launch} {e : Env} {s : State} {m : MethodId} {args : Array Value} {below : List Frame} {meth : Method} {c : Code} {g : Ga} {A : Nat → Prop} (C : Cx l g A p s m args c cX10_strongest 3 RX10 (rm_X10_strongest) (0, 0)) (hr : meth.sig.returnType = (some .int)) (hk : meth.locks = false)   (z : St)   {res : St × Int32} (hf : f_X10_strongest_9  z  = some res) : Zj p l e (rm_X10_strongest) s m args below meth c g A 3 (0, 0) (QI g A below args s res) z 9 [] [] := by
  unfold f_X10_strongest_9 at hf
  refine z_bipush C dX10_strongest_9 (v := (-2)) (by decide) ?_
  cases hf
  exact z_iret C hr hk dX10_strongest_11
def f_X10_strongest_22  (z : St)  : Option (St × Int32) :=
  some (z, (-3))
theorem b_X10_strongest_22 {p : Program} {l : Launch} {e : Env} {s : State} {m : MethodId} {args : Array Value} {below : List Frame} {meth : Method} {c : Code} {g : Ga} {A : Nat → Prop} (C : Cx l g A p s m args c cX10_strongest 3 RX10 (rm_X10_strongest) (0, 0)) (hr : meth.sig.returnType = (some .int)) (hk : meth.locks = false)   (z : St)   {res : St × Int32} (hf : f_X10_strongest_22  z  = some res) : Zj p l e (rm_X10_strongest) s m args below meth c g A 3 (0, 0) (QI g A below args s res) z 22 [] [] := by
  unfold f_X10_strongest_22 at hf
  refine z_bipush C dX10_strongest_22 (v := (-3)) (by decide) ?_
  cases hf
  exact z_iret C hr hk dX10_strongest_24
def f_X10_strongest_49  (z : St) (s0 : Int32) : Option (St × Int32) :=
  some (z, s0)
theorem b_X10_strongest_49 {p : Program} {l : Launch} {e : Env} {s : State} {m : MethodId} {args : Array Value} {below : List Frame} {meth : Method} {c : Code} {g : Ga} {A : Nat → Prop} (C : Cx l g A p s m args c cX10_strongest 3 RX10 (rm_X10_strongest) (0, 0)) (hr : meth.sig.returnType = (some .int)) (hk : meth.locks = false)   (z : St) (s0 : Int32)  {res : St × Int32} (hf : f_X10_strongest_49  z s0 = some res) : Zj p l e (rm_X10_strongest) s m args below meth c g A 3 (0, 0) (QI g A below args s res) z 49 [] [.int s0] := by
  unfold f_X10_strongest_49 at hf
  cases hf
  exact z_iret C hr hk dX10_strongest_49
def f_X10_strongest_37  (z : St) (x2 : Int32) : Option (St × Int32) :=
  f_X10_strongest_49 z x2
theorem b_X10_strongest_37 {p : Program} {l : Launch} {e : Env} {s : State} {m : MethodId} {args : Array Value} {below : List Frame} {meth : Method} {c : Code} {g : Ga} {A : Nat → Prop} (C : Cx l g A p s m args c cX10_strongest 3 RX10 (rm_X10_strongest) (0, 0)) (hr : meth.sig.returnType = (some .int)) (hk : meth.locks = false)   (z : St) (x2 : Int32)  {res : St × Int32} (hf : f_X10_strongest_37  z x2 = some res) : Zj p l e (rm_X10_strongest) s m args below meth c g A 3 (0, 0) (QI g A below args s res) z 37 [(2, .int x2)] [] := by
  unfold f_X10_strongest_37 at hf
  refine z_iload_n C dX10_strongest_37 rfl 0 rfl ?_
  exact z_goto C dX10_strongest_38 (by decide) (z_sub [] rfl (b_X10_strongest_49 C hr hk z x2 hf))
def f_X10_strongest_41  (z : St) (o0 : Nat) (x2 : Int32) : Option (St × Int32) :=
  ((f_X4_boundOf z (rf o0 4) x2).bind fun r1 => f_X10_strongest_49 r1.1 r1.2)
theorem b_X10_strongest_41 {p : Program} {l : Launch} {e : Env} {s : State} {m : MethodId} {args : Array Value} {below : List Frame} {meth : Method} {c : Code} {g : Ga} {A : Nat → Prop} (C : Cx l g A p s m args c cX10_strongest 3 RX10 (rm_X10_strongest) (0, 0)) (hr : meth.sig.returnType = (some .int)) (hk : meth.locks = false)   (z : St) (o0 : Nat) (x2 : Int32) (ho0 : kd o0 = 10) {res : St × Int32} (hf : f_X10_strongest_41  z o0 x2 = some res) : Zj p l e (rm_X10_strongest) s m args below meth c g A 3 (0, 0) (QI g A below args s res) z 41 [(0, .ref (g.1 o0)), (2, .int x2)] [] := by
  unfold f_X10_strongest_41 at hf
  refine z_aload_n C dX10_strongest_41 rfl 0 rfl ?_
  refine gf_X10_32 C dX10_strongest_42 ho0 ?_
  refine z_iload_n C dX10_strongest_45 rfl 1 rfl ?_
  obtain ⟨r1, hc2, hf⟩ := q_bd hf
  refine z_cVi C (st := []) (c_X4_boundOf (rt_10_4 _ (kd_lt ho0 (by decide)) ho0) hc2) mw_X4_boundOf ml_X10_214 (rt_10_4 _ (kd_lt ho0 (by decide)) ho0) (by decide) rfl dX10_strongest_46 rfl rfl rfl ⟨Nat.le_of_ble_eq_true rfl, Nat.le_of_ble_eq_true rfl⟩ rfl (Nat.le_of_ble_eq_true rfl) ?_
  exact z_sub [] rfl (b_X10_strongest_49 C hr hk r1.1 r1.2 hf)
def f_X10_strongest_25  (z : St) (o0 : Nat) (x1 : Int32) : Option (St × Int32) :=
  ((f_X4_strongestSet z (rf o0 4)).bind fun r1 => if x1 = 0 then f_X10_strongest_37 r1.1 r1.2 else f_X10_strongest_41 r1.1 o0 r1.2)
theorem b_X10_strongest_25 {p : Program} {l : Launch} {e : Env} {s : State} {m : MethodId} {args : Array Value} {below : List Frame} {meth : Method} {c : Code} {g : Ga} {A : Nat → Prop} (C : Cx l g A p s m args c cX10_strongest 3 RX10 (rm_X10_strongest) (0, 0)) (hr : meth.sig.returnType = (some .int)) (hk : meth.locks = false)   (z : St) (o0 : Nat) (x1 : Int32) (ho0 : kd o0 = 10) {res : St × Int32} (hf : f_X10_strongest_25  z o0 x1 = some res) : Zj p l e (rm_X10_strongest) s m args below meth c g A 3 (0, 0) (QI g A below args s res) z 25 [(0, .ref (g.1 o0)), (1, .int x1)] [] := by
  unfold f_X10_strongest_25 at hf
  refine z_aload_n C dX10_strongest_25 rfl 0 rfl ?_
  refine gf_X10_32 C dX10_strongest_26 ho0 ?_
  obtain ⟨r1, hc2, hf⟩ := q_bd hf
  refine z_cVi C (st := []) (c_X4_strongestSet (rt_10_4 _ (kd_lt ho0 (by decide)) ho0) hc2) mw_X4_strongestSet ml_X10_217 (rt_10_4 _ (kd_lt ho0 (by decide)) ho0) (by decide) rfl dX10_strongest_29 rfl rfl rfl ⟨Nat.le_of_ble_eq_true rfl, Nat.le_of_ble_eq_true rfl⟩ rfl (Nat.le_of_ble_eq_true rfl) ?_
  refine z_istore_n C (lv2 := [(2, .int r1.2), (0, .ref (g.1 o0)), (1, .int x1)]) dX10_strongest_32 rfl (by decide) rfl ?_
  refine z_iload_n C dX10_strongest_33 rfl 2 rfl ?_
  exact z_if_ne C dX10_strongest_34 (by decide) (fun h => z_sub [1, 0] rfl (b_X10_strongest_41 C hr hk r1.1 o0 r1.2 ho0 (q_f hf h))) (fun h => z_sub [0] rfl (b_X10_strongest_37 C hr hk r1.1 r1.2 (q_t hf h)))
def f_X10_strongest_12  (z : St) (o0 : Nat) (x1 : Int32) : Option (St × Int32) :=
  if (z.1 (rf o0 0) 1) = 0 then f_X10_strongest_22 z else f_X10_strongest_25 z o0 x1
theorem b_X10_strongest_12 {p : Program} {l : Launch} {e : Env} {s : State} {m : MethodId} {args : Array Value} {below : List Frame} {meth : Method} {c : Code} {g : Ga} {A : Nat → Prop} (C : Cx l g A p s m args c cX10_strongest 3 RX10 (rm_X10_strongest) (0, 0)) (hr : meth.sig.returnType = (some .int)) (hk : meth.locks = false)   (z : St) (o0 : Nat) (x1 : Int32) (ho0 : kd o0 = 10) {res : St × Int32} (hf : f_X10_strongest_12  z o0 x1 = some res) : Zj p l e (rm_X10_strongest) s m args below meth c g A 3 (0, 0) (QI g A below args s res) z 12 [(0, .ref (g.1 o0)), (1, .int x1)] [] := by
  unfold f_X10_strongest_12 at hf
  refine z_aload_n C dX10_strongest_12 rfl 0 rfl ?_
  refine gf_X10_10 C dX10_strongest_13 ho0 ?_
  refine gf_X10_113 C dX10_strongest_16 (rt_10_0 _ (kd_lt ho0 (by decide)) ho0) ?_
  exact z_if_ne C dX10_strongest_19 (by decide) (fun h => z_sub [0, 1] rfl (b_X10_strongest_25 C hr hk z o0 x1 ho0 (q_f hf h))) (fun h => z_sub [] rfl (b_X10_strongest_22 C hr hk z (q_t hf h)))
def f_X10_strongest_4  (z : St) (o0 : Nat) (x1 : Int32) : Option (St × Int32) :=
  if x1 ≤ 1 then f_X10_strongest_12 z o0 x1 else f_X10_strongest_9 z
theorem b_X10_strongest_4 {p : Program} {l : Launch} {e : Env} {s : State} {m : MethodId} {args : Array Value} {below : List Frame} {meth : Method} {c : Code} {g : Ga} {A : Nat → Prop} (C : Cx l g A p s m args c cX10_strongest 3 RX10 (rm_X10_strongest) (0, 0)) (hr : meth.sig.returnType = (some .int)) (hk : meth.locks = false)   (z : St) (o0 : Nat) (x1 : Int32) (ho0 : kd o0 = 10) {res : St × Int32} (hf : f_X10_strongest_4  z o0 x1 = some res) : Zj p l e (rm_X10_strongest) s m args below meth c g A 3 (0, 0) (QI g A below args s res) z 4 [(0, .ref (g.1 o0)), (1, .int x1)] [] := by
  unfold f_X10_strongest_4 at hf
  refine z_iload_n C dX10_strongest_4 rfl 1 rfl ?_
  refine z_iconst C dX10_strongest_5 (v := 1) (by decide) ?_
  exact z_icmp_le C dX10_strongest_6 (by decide) (fun h => z_sub [0, 1] rfl (b_X10_strongest_12 C hr hk z o0 x1 ho0 (q_t hf h))) (fun h => z_sub [] rfl (b_X10_strongest_9 C hr hk z (q_f hf h)))
def f_X10_strongest_0  (z : St) (o0 : Nat) (x1 : Int32) : Option (St × Int32) :=
  if x1 < 0 then f_X10_strongest_9 z else f_X10_strongest_4 z o0 x1
theorem b_X10_strongest_0 {p : Program} {l : Launch} {e : Env} {s : State} {m : MethodId} {args : Array Value} {below : List Frame} {meth : Method} {c : Code} {g : Ga} {A : Nat → Prop} (C : Cx l g A p s m args c cX10_strongest 3 RX10 (rm_X10_strongest) (0, 0)) (hr : meth.sig.returnType = (some .int)) (hk : meth.locks = false)   (z : St) (o0 : Nat) (x1 : Int32) (ho0 : kd o0 = 10) {res : St × Int32} (hf : f_X10_strongest_0  z o0 x1 = some res) : Zj p l e (rm_X10_strongest) s m args below meth c g A 3 (0, 0) (QI g A below args s res) z 0 [(0, .ref (g.1 o0)), (1, .int x1)] [] := by
  unfold f_X10_strongest_0 at hf
  refine z_iload_n C dX10_strongest_0 rfl 1 rfl ?_
  exact z_if_lt C dX10_strongest_1 (by decide) (fun h => z_sub [] rfl (b_X10_strongest_9 C hr hk z (q_t hf h))) (fun h => z_sub [0, 1] rfl (b_X10_strongest_4 C hr hk z o0 x1 ho0 (q_f hf h)))
def f_X10_strongest (z : St) (o0 : Nat) (x1 : Int32) : Option (St × Int32) := f_X10_strongest_0 z o0 x1
theorem c_X10_strongest {l : Launch} {g : Ga} {A : Nat → Prop} {z : St} {o0 : Nat} {x1 : Int32} (ho0 : kd o0 = 10) {res : St × Int32} (hf : f_X10_strongest z o0 x1 = some res) : CI l g A yX10_strongest cX10_strongest 3 (some .int) rm_X10_strongest [.ref (g.1 o0), .int x1] z res :=
  e_CI (by decide) (Nat.le_of_ble_eq_true rfl) rfl (fun p e s m args below meth c C hr hk => z_sub [0, 1] rfl (b_X10_strongest_0 C hr hk z o0 x1 ho0 hf))
abbrev rm_X10_knowLeast : Room := { frames := 5, cells := 0, slots := 0, locals := 117 }
def f_X10_knowLeast_7  (z : St)  : Option (St) :=
  some z
theorem b_X10_knowLeast_7 {p : Program} {l : Launch} {e : Env} {s : State} {m : MethodId} {args : Array Value} {below : List Frame} {meth : Method} {c : Code} {g : Ga} {A : Nat → Prop} (C : Cx l g A p s m args c cX10_knowLeast 1 RX10 (rm_X10_knowLeast) (0, 0)) (hr : meth.sig.returnType = none) (hk : meth.locks = false)   (z : St)   {res : St} (hf : f_X10_knowLeast_7  z  = some res) : Zj p l e (rm_X10_knowLeast) s m args below meth c g A 1 (0, 0) (QV g A below args s res) z 7 [] [] := by
  unfold f_X10_knowLeast_7 at hf
  cases hf
  exact z_vret C hr hk dX10_knowLeast_7
def f_X10_knowLeast_8  (z : St) (o0 : Nat) : Option (St) :=
  ((f_X4_becomeAs z (rf o0 5) (rf o0 4)).bind fun r1 => ((f_X6_run r1 (rf o0 10) (rf o0 5)).bind fun r3 => ((f_X5_weigh (zI (zI (zI r3 o0 16 (r3.1 (rf o0 10) 8)) o0 17 ((zI r3 o0 16 (r3.1 (rf o0 10) 8)).1 (rf o0 10) 9)) o0 18 ((zI (zI r3 o0 16 (r3.1 (rf o0 10) 8)) o0 17 ((zI r3 o0 16 (r3.1 (rf o0 10) 8)).1 (rf o0 10) 9)).1 (rf o0 10) 10)) (rf o0 11) (rf o0 4) ((zI (zI (zI r3 o0 16 (r3.1 (rf o0 10) 8)) o0 17 ((zI r3 o0 16 (r3.1 (rf o0 10) 8)).1 (rf o0 10) 9)) o0 18 ((zI (zI r3 o0 16 (r3.1 (rf o0 10) 8)) o0 17 ((zI r3 o0 16 (r3.1 (rf o0 10) 8)).1 (rf o0 10) 9)).1 (rf o0 10) 10)).1 o0 16)).bind fun r5 => some (zI r5 o0 15 1))))
theorem b_X10_knowLeast_8 {p : Program} {l : Launch} {e : Env} {s : State} {m : MethodId} {args : Array Value} {below : List Frame} {meth : Method} {c : Code} {g : Ga} {A : Nat → Prop} (C : Cx l g A p s m args c cX10_knowLeast 1 RX10 (rm_X10_knowLeast) (0, 0)) (hr : meth.sig.returnType = none) (hk : meth.locks = false)   (z : St) (o0 : Nat) (ho0 : kd o0 = 10) {res : St} (hf : f_X10_knowLeast_8  z o0 = some res) : Zj p l e (rm_X10_knowLeast) s m args below meth c g A 1 (0, 0) (QV g A below args s res) z 8 [(0, .ref (g.1 o0))] [] := by
  unfold f_X10_knowLeast_8 at hf
  refine z_aload_n C dX10_knowLeast_8 rfl 0 rfl ?_
  refine gf_X10_36 C dX10_knowLeast_9 ho0 ?_
  refine z_aload_n C dX10_knowLeast_12 rfl 0 rfl ?_
  refine gf_X10_32 C dX10_knowLeast_13 ho0 ?_
  obtain ⟨r1, hc2, hf⟩ := q_bd hf
  refine z_cVv C (st := []) (c_X4_becomeAs (rt_10_5 _ (kd_lt ho0 (by decide)) ho0) (rt_10_4 _ (kd_lt ho0 (by decide)) ho0) hc2) mw_X4_becomeAs ml_X10_201 (rt_10_5 _ (kd_lt ho0 (by decide)) ho0) (by decide) rfl dX10_knowLeast_16 rfl rfl rfl ⟨Nat.le_of_ble_eq_true rfl, Nat.le_of_ble_eq_true rfl⟩ rfl (Nat.le_of_ble_eq_true rfl) ?_
  refine z_aload_n C dX10_knowLeast_19 rfl 0 rfl ?_
  refine gf_X10_66 C dX10_knowLeast_20 ho0 ?_
  refine z_aload_n C dX10_knowLeast_23 rfl 0 rfl ?_
  refine gf_X10_36 C dX10_knowLeast_24 ho0 ?_
  obtain ⟨r3, hc4, hf⟩ := q_bd hf
  refine z_cVv C (st := []) (c_X6_run (rt_10_10 _ (kd_lt ho0 (by decide)) ho0) (rt_10_5 _ (kd_lt ho0 (by decide)) ho0) hc4) mw_X6_run ml_X10_250 (rt_10_10 _ (kd_lt ho0 (by decide)) ho0) (by decide) rfl dX10_knowLeast_27 rfl rfl rfl ⟨Nat.le_of_ble_eq_true rfl, Nat.le_of_ble_eq_true rfl⟩ rfl (Nat.le_of_ble_eq_true rfl) ?_
  refine z_aload_n C dX10_knowLeast_30 rfl 0 rfl ?_
  refine z_aload_n C dX10_knowLeast_31 rfl 0 rfl ?_
  refine gf_X10_66 C dX10_knowLeast_32 ho0 ?_
  refine gf_X10_251 C dX10_knowLeast_35 (rt_10_10 _ (kd_lt ho0 (by decide)) ho0) ?_
  refine pf_X10_223 C dX10_knowLeast_38 ho0 ?_
  refine z_aload_n C dX10_knowLeast_41 rfl 0 rfl ?_
  refine z_aload_n C dX10_knowLeast_42 rfl 0 rfl ?_
  refine gf_X10_66 C dX10_knowLeast_43 ho0 ?_
  refine gf_X10_343 C dX10_knowLeast_46 (rt_10_10 _ (kd_lt ho0 (by decide)) ho0) ?_
  refine pf_X10_226 C dX10_knowLeast_49 ho0 ?_
  refine z_aload_n C dX10_knowLeast_52 rfl 0 rfl ?_
  refine z_aload_n C dX10_knowLeast_53 rfl 0 rfl ?_
  refine gf_X10_66 C dX10_knowLeast_54 ho0 ?_
  refine gf_X10_346 C dX10_knowLeast_57 (rt_10_10 _ (kd_lt ho0 (by decide)) ho0) ?_
  refine pf_X10_229 C dX10_knowLeast_60 ho0 ?_
  refine z_aload_n C dX10_knowLeast_63 rfl 0 rfl ?_
  refine gf_X10_73 C dX10_knowLeast_64 ho0 ?_
  refine z_aload_n C dX10_knowLeast_67 rfl 0 rfl ?_
  refine gf_X10_32 C dX10_knowLeast_68 ho0 ?_
  refine z_aload_n C dX10_knowLeast_71 rfl 0 rfl ?_
  refine gf_X10_223 C dX10_knowLeast_72 ho0 ?_
  obtain ⟨r5, hc6, hf⟩ := q_bd hf
  refine z_cVv C (st := []) (c_X5_weigh (rt_10_11 _ (kd_lt ho0 (by decide)) ho0) (rt_10_4 _ (kd_lt ho0 (by decide)) ho0) hc6) mw_X5_weigh ml_X10_349 (rt_10_11 _ (kd_lt ho0 (by decide)) ho0) (by decide) rfl dX10_knowLeast_75 rfl rfl rfl ⟨Nat.le_of_ble_eq_true rfl, Nat.le_of_ble_eq_true rfl⟩ rfl (Nat.le_of_ble_eq_true rfl) ?_
  refine z_aload_n C dX10_knowLeast_78 rfl 0 rfl ?_
  refine z_iconst C dX10_knowLeast_79 (v := 1) (by decide) ?_
  refine pf_X10_337 C dX10_knowLeast_80 ho0 rfl rfl ?_
  cases hf
  exact z_vret C hr hk dX10_knowLeast_83
def f_X10_knowLeast_0  (z : St) (o0 : Nat) : Option (St) :=
  if (z.1 o0 15) = 0 then f_X10_knowLeast_8 z o0 else f_X10_knowLeast_7 z
theorem b_X10_knowLeast_0 {p : Program} {l : Launch} {e : Env} {s : State} {m : MethodId} {args : Array Value} {below : List Frame} {meth : Method} {c : Code} {g : Ga} {A : Nat → Prop} (C : Cx l g A p s m args c cX10_knowLeast 1 RX10 (rm_X10_knowLeast) (0, 0)) (hr : meth.sig.returnType = none) (hk : meth.locks = false)   (z : St) (o0 : Nat) (ho0 : kd o0 = 10) {res : St} (hf : f_X10_knowLeast_0  z o0 = some res) : Zj p l e (rm_X10_knowLeast) s m args below meth c g A 1 (0, 0) (QV g A below args s res) z 0 [(0, .ref (g.1 o0))] [] := by
  unfold f_X10_knowLeast_0 at hf
  refine z_aload_n C dX10_knowLeast_0 rfl 0 rfl ?_
  refine gf_X10_337 C dX10_knowLeast_1 ho0 ?_
  exact z_if_eq C dX10_knowLeast_4 (by decide) (fun h => z_sub [0] rfl (b_X10_knowLeast_8 C hr hk z o0 ho0 (q_t hf h))) (fun h => z_sub [] rfl (b_X10_knowLeast_7 C hr hk z (q_f hf h)))
def f_X10_knowLeast (z : St) (o0 : Nat) : Option (St) := f_X10_knowLeast_0 z o0
theorem c_X10_knowLeast {l : Launch} {g : Ga} {A : Nat → Prop} {z : St} {o0 : Nat} (ho0 : kd o0 = 10) {res : St} (hf : f_X10_knowLeast z o0 = some res) : CV l g A yX10_knowLeast cX10_knowLeast 1 none rm_X10_knowLeast [.ref (g.1 o0)] z res :=
  e_CV (by decide) (Nat.le_of_ble_eq_true rfl) rfl (fun p e s m args below meth c C hr hk => z_sub [0] rfl (b_X10_knowLeast_0 C hr hk z o0 ho0 hf))
abbrev rm_X10_least : Room := { frames := 6, cells := 0, slots := 0, locals := 137 }
def f_X10_least_9  (z : St)  : Option (St × Int32) :=
  some (z, (-2))
theorem b_X10_least_9 {p : Program} {l : Launch} {e : Env} {s : State} {m : MethodId} {args : Array Value} {below : List Frame} {meth : Method} {c : Code} {g : Ga} {A : Nat → Prop} (C : Cx l g A p s m args c cX10_least 2 RX10 (rm_X10_least) (0, 0)) (hr : meth.sig.returnType = (some .int)) (hk : meth.locks = false)   (z : St)   {res : St × Int32} (hf : f_X10_least_9  z  = some res) : Zj p l e (rm_X10_least) s m args below meth c g A 2 (0, 0) (QI g A below args s res) z 9 [] [] := by
  unfold f_X10_least_9 at hf
  refine z_bipush C dX10_least_9 (v := (-2)) (by decide) ?_
  cases hf
  exact z_iret C hr hk dX10_least_11
def f_X10_least_20  (z : St) (o0 : Nat) : Option (St × Int32) :=
  some (z, z.1 o0 16)
theorem b_X10_least_20 {p : Program} {l : Launch} {e : Env} {s : State} {m : MethodId} {args : Array Value} {below : List Frame} {meth : Method} {c : Code} {g : Ga} {A : Nat → Prop} (C : Cx l g A p s m args c cX10_least 2 RX10 (rm_X10_least) (0, 0)) (hr : meth.sig.returnType = (some .int)) (hk : meth.locks = false)   (z : St) (o0 : Nat) (ho0 : kd o0 = 10) {res : St × Int32} (hf : f_X10_least_20  z o0 = some res) : Zj p l e (rm_X10_least) s m args below meth c g A 2 (0, 0) (QI g A below args s res) z 20 [(0, .ref (g.1 o0))] [] := by
  unfold f_X10_least_20 at hf
  refine z_aload_n C dX10_least_20 rfl 0 rfl ?_
  refine gf_X10_223 C dX10_least_21 ho0 ?_
  cases hf
  exact z_iret C hr hk dX10_least_24
def f_X10_least_41  (z : St) (s0 : Int32) : Option (St × Int32) :=
  some (z, s0)
theorem b_X10_least_41 {p : Program} {l : Launch} {e : Env} {s : State} {m : MethodId} {args : Array Value} {below : List Frame} {meth : Method} {c : Code} {g : Ga} {A : Nat → Prop} (C : Cx l g A p s m args c cX10_least 2 RX10 (rm_X10_least) (0, 0)) (hr : meth.sig.returnType = (some .int)) (hk : meth.locks = false)   (z : St) (s0 : Int32)  {res : St × Int32} (hf : f_X10_least_41  z s0 = some res) : Zj p l e (rm_X10_least) s m args below meth c g A 2 (0, 0) (QI g A below args s res) z 41 [] [.int s0] := by
  unfold f_X10_least_41 at hf
  cases hf
  exact z_iret C hr hk dX10_least_41
def f_X10_least_30  (z : St) (o0 : Nat) : Option (St × Int32) :=
  f_X10_least_41 z (z.1 o0 17)
theorem b_X10_least_30 {p : Program} {l : Launch} {e : Env} {s : State} {m : MethodId} {args : Array Value} {below : List Frame} {meth : Method} {c : Code} {g : Ga} {A : Nat → Prop} (C : Cx l g A p s m args c cX10_least 2 RX10 (rm_X10_least) (0, 0)) (hr : meth.sig.returnType = (some .int)) (hk : meth.locks = false)   (z : St) (o0 : Nat) (ho0 : kd o0 = 10) {res : St × Int32} (hf : f_X10_least_30  z o0 = some res) : Zj p l e (rm_X10_least) s m args below meth c g A 2 (0, 0) (QI g A below args s res) z 30 [(0, .ref (g.1 o0))] [] := by
  unfold f_X10_least_30 at hf
  refine z_aload_n C dX10_least_30 rfl 0 rfl ?_
  refine gf_X10_226 C dX10_least_31 ho0 ?_
  exact z_goto C dX10_least_34 (by decide) (z_sub [] rfl (b_X10_least_41 C hr hk z (z.1 o0 17) hf))
def f_X10_least_37  (z : St) (o0 : Nat) : Option (St × Int32) :=
  f_X10_least_41 z (z.1 o0 18)
theorem b_X10_least_37 {p : Program} {l : Launch} {e : Env} {s : State} {m : MethodId} {args : Array Value} {below : List Frame} {meth : Method} {c : Code} {g : Ga} {A : Nat → Prop} (C : Cx l g A p s m args c cX10_least 2 RX10 (rm_X10_least) (0, 0)) (hr : meth.sig.returnType = (some .int)) (hk : meth.locks = false)   (z : St) (o0 : Nat) (ho0 : kd o0 = 10) {res : St × Int32} (hf : f_X10_least_37  z o0 = some res) : Zj p l e (rm_X10_least) s m args below meth c g A 2 (0, 0) (QI g A below args s res) z 37 [(0, .ref (g.1 o0))] [] := by
  unfold f_X10_least_37 at hf
  refine z_aload_n C dX10_least_37 rfl 0 rfl ?_
  refine gf_X10_229 C dX10_least_38 ho0 ?_
  exact z_sub [] rfl (b_X10_least_41 C hr hk z (z.1 o0 18) hf)
def f_X10_least_25  (z : St) (o0 : Nat) (x1 : Int32) : Option (St × Int32) :=
  if x1 = 1 then f_X10_least_30 z o0 else f_X10_least_37 z o0
theorem b_X10_least_25 {p : Program} {l : Launch} {e : Env} {s : State} {m : MethodId} {args : Array Value} {below : List Frame} {meth : Method} {c : Code} {g : Ga} {A : Nat → Prop} (C : Cx l g A p s m args c cX10_least 2 RX10 (rm_X10_least) (0, 0)) (hr : meth.sig.returnType = (some .int)) (hk : meth.locks = false)   (z : St) (o0 : Nat) (x1 : Int32) (ho0 : kd o0 = 10) {res : St × Int32} (hf : f_X10_least_25  z o0 x1 = some res) : Zj p l e (rm_X10_least) s m args below meth c g A 2 (0, 0) (QI g A below args s res) z 25 [(0, .ref (g.1 o0)), (1, .int x1)] [] := by
  unfold f_X10_least_25 at hf
  refine z_iload_n C dX10_least_25 rfl 1 rfl ?_
  refine z_iconst C dX10_least_26 (v := 1) (by decide) ?_
  exact z_icmp_ne C dX10_least_27 (by decide) (fun h => z_sub [0] rfl (b_X10_least_37 C hr hk z o0 ho0 (q_f hf h))) (fun h => z_sub [0] rfl (b_X10_least_30 C hr hk z o0 ho0 (q_t hf h)))
def f_X10_least_12  (z : St) (o0 : Nat) (x1 : Int32) : Option (St × Int32) :=
  ((f_X10_knowLeast z o0).bind fun r1 => if x1 = 0 then f_X10_least_20 r1 o0 else f_X10_least_25 r1 o0 x1)
theorem b_X10_least_12 {p : Program} {l : Launch} {e : Env} {s : State} {m : MethodId} {args : Array Value} {below : List Frame} {meth : Method} {c : Code} {g : Ga} {A : Nat → Prop} (C : Cx l g A p s m args c cX10_least 2 RX10 (rm_X10_least) (0, 0)) (hr : meth.sig.returnType = (some .int)) (hk : meth.locks = false)   (z : St) (o0 : Nat) (x1 : Int32) (ho0 : kd o0 = 10) {res : St × Int32} (hf : f_X10_least_12  z o0 x1 = some res) : Zj p l e (rm_X10_least) s m args below meth c g A 2 (0, 0) (QI g A below args s res) z 12 [(0, .ref (g.1 o0)), (1, .int x1)] [] := by
  unfold f_X10_least_12 at hf
  refine z_aload_n C dX10_least_12 rfl 0 rfl ?_
  obtain ⟨r1, hc2, hf⟩ := q_bd hf
  refine z_cVv C (st := []) (c_X10_knowLeast ho0 hc2) mw_X10_knowLeast ml_X10_220 ho0 (by decide) rfl dX10_least_13 rfl rfl rfl ⟨Nat.le_of_ble_eq_true rfl, Nat.le_of_ble_eq_true rfl⟩ rfl (Nat.le_of_ble_eq_true rfl) ?_
  refine z_iload_n C dX10_least_16 rfl 1 rfl ?_
  exact z_if_ne C dX10_least_17 (by decide) (fun h => z_sub [0, 1] rfl (b_X10_least_25 C hr hk r1 o0 x1 ho0 (q_f hf h))) (fun h => z_sub [0] rfl (b_X10_least_20 C hr hk r1 o0 ho0 (q_t hf h)))
def f_X10_least_4  (z : St) (o0 : Nat) (x1 : Int32) : Option (St × Int32) :=
  if x1 ≤ 2 then f_X10_least_12 z o0 x1 else f_X10_least_9 z
theorem b_X10_least_4 {p : Program} {l : Launch} {e : Env} {s : State} {m : MethodId} {args : Array Value} {below : List Frame} {meth : Method} {c : Code} {g : Ga} {A : Nat → Prop} (C : Cx l g A p s m args c cX10_least 2 RX10 (rm_X10_least) (0, 0)) (hr : meth.sig.returnType = (some .int)) (hk : meth.locks = false)   (z : St) (o0 : Nat) (x1 : Int32) (ho0 : kd o0 = 10) {res : St × Int32} (hf : f_X10_least_4  z o0 x1 = some res) : Zj p l e (rm_X10_least) s m args below meth c g A 2 (0, 0) (QI g A below args s res) z 4 [(0, .ref (g.1 o0)), (1, .int x1)] [] := by
  unfold f_X10_least_4 at hf
  refine z_iload_n C dX10_least_4 rfl 1 rfl ?_
  refine z_iconst C dX10_least_5 (v := 2) (by decide) ?_
  exact z_icmp_le C dX10_least_6 (by decide) (fun h => z_sub [0, 1] rfl (b_X10_least_12 C hr hk z o0 x1 ho0 (q_t hf h))) (fun h => z_sub [] rfl (b_X10_least_9 C hr hk z (q_f hf h)))
def f_X10_least_0  (z : St) (o0 : Nat) (x1 : Int32) : Option (St × Int32) :=
  if x1 < 0 then f_X10_least_9 z else f_X10_least_4 z o0 x1
theorem b_X10_least_0 {p : Program} {l : Launch} {e : Env} {s : State} {m : MethodId} {args : Array Value} {below : List Frame} {meth : Method} {c : Code} {g : Ga} {A : Nat → Prop} (C : Cx l g A p s m args c cX10_least 2 RX10 (rm_X10_least) (0, 0)) (hr : meth.sig.returnType = (some .int)) (hk : meth.locks = false)   (z : St) (o0 : Nat) (x1 : Int32) (ho0 : kd o0 = 10) {res : St × Int32} (hf : f_X10_least_0  z o0 x1 = some res) : Zj p l e (rm_X10_least) s m args below meth c g A 2 (0, 0) (QI g A below args s res) z 0 [(0, .ref (g.1 o0)), (1, .int x1)] [] := by
  unfold f_X10_least_0 at hf
  refine z_iload_n C dX10_least_0 rfl 1 rfl ?_
  exact z_if_lt C dX10_least_1 (by decide) (fun h => z_sub [] rfl (b_X10_least_9 C hr hk z (q_t hf h))) (fun h => z_sub [0, 1] rfl (b_X10_least_4 C hr hk z o0 x1 ho0 (q_f hf h)))
def f_X10_least (z : St) (o0 : Nat) (x1 : Int32) : Option (St × Int32) := f_X10_least_0 z o0 x1
theorem c_X10_least {l : Launch} {g : Ga} {A : Nat → Prop} {z : St} {o0 : Nat} {x1 : Int32} (ho0 : kd o0 = 10) {res : St × Int32} (hf : f_X10_least z o0 x1 = some res) : CI l g A yX10_least cX10_least 2 (some .int) rm_X10_least [.ref (g.1 o0), .int x1] z res :=
  e_CI (by decide) (Nat.le_of_ble_eq_true rfl) rfl (fun p e s m args below meth c C hr hk => z_sub [0, 1] rfl (b_X10_least_0 C hr hk z o0 x1 ho0 hf))
abbrev rm_X10_many : Room := { frames := 14, cells := 0, slots := 0, locals := 395 }
def f_X10_many_0  (z : St) (o0 : Nat) : Option (St × Int32) :=
  ((f_X10_knowLeast z o0).bind fun r1 => ((f_X5_ways r1 (rf o0 11) (rf o0 4)).bind fun r3 => some (r3.1, r3.2)))
theorem b_X10_many_0 {p : Program} {l : Launch} {e : Env} {s : State} {m : MethodId} {args : Array Value} {below : List Frame} {meth : Method} {c : Code} {g : Ga} {A : Nat → Prop} (C : Cx l g A p s m args c cX10_many 1 RX10 (rm_X10_many) (0, 0)) (hr : meth.sig.returnType = (some .int)) (hk : meth.locks = false)   (z : St) (o0 : Nat) (ho0 : kd o0 = 10) {res : St × Int32} (hf : f_X10_many_0  z o0 = some res) : Zj p l e (rm_X10_many) s m args below meth c g A 1 (0, 0) (QI g A below args s res) z 0 [(0, .ref (g.1 o0))] [] := by
  unfold f_X10_many_0 at hf
  refine z_aload_n C dX10_many_0 rfl 0 rfl ?_
  obtain ⟨r1, hc2, hf⟩ := q_bd hf
  refine z_cVv C (st := []) (c_X10_knowLeast ho0 hc2) mw_X10_knowLeast ml_X10_220 ho0 (by decide) rfl dX10_many_1 rfl rfl rfl ⟨Nat.le_of_ble_eq_true rfl, Nat.le_of_ble_eq_true rfl⟩ rfl (Nat.le_of_ble_eq_true rfl) ?_
  refine z_aload_n C dX10_many_4 rfl 0 rfl ?_
  refine gf_X10_73 C dX10_many_5 ho0 ?_
  refine z_aload_n C dX10_many_8 rfl 0 rfl ?_
  refine gf_X10_32 C dX10_many_9 ho0 ?_
  obtain ⟨r3, hc4, hf⟩ := q_bd hf
  refine z_cVi C (st := []) (c_X5_ways (rt_10_11 _ (kd_lt ho0 (by decide)) ho0) (rt_10_4 _ (kd_lt ho0 (by decide)) ho0) hc4) mw_X5_ways ml_X10_232 (rt_10_11 _ (kd_lt ho0 (by decide)) ho0) (by decide) rfl dX10_many_12 rfl rfl rfl ⟨Nat.le_of_ble_eq_true rfl, Nat.le_of_ble_eq_true rfl⟩ rfl (Nat.le_of_ble_eq_true rfl) ?_
  cases hf
  exact z_iret C hr hk dX10_many_15
def f_X10_many (z : St) (o0 : Nat) : Option (St × Int32) := f_X10_many_0 z o0
theorem c_X10_many {l : Launch} {g : Ga} {A : Nat → Prop} {z : St} {o0 : Nat} (ho0 : kd o0 = 10) {res : St × Int32} (hf : f_X10_many z o0 = some res) : CI l g A yX10_many cX10_many 1 (some .int) rm_X10_many [.ref (g.1 o0)] z res :=
  e_CI (by decide) (Nat.le_of_ble_eq_true rfl) rfl (fun p e s m args below meth c C hr hk => z_sub [0] rfl (b_X10_many_0 C hr hk z o0 ho0 hf))
abbrev rm_X10_must : Room := { frames := 6, cells := 0, slots := 0, locals := 137 }
def f_X10_must_11  (z : St)  : Option (St × Int32) :=
  some (z, (-2))
theorem b_X10_must_11 {p : Program} {l : Launch} {e : Env} {s : State} {m : MethodId} {args : Array Value} {below : List Frame} {meth : Method} {c : Code} {g : Ga} {A : Nat → Prop} (C : Cx l g A p s m args c cX10_must 2 RX10 (rm_X10_must) (0, 0)) (hr : meth.sig.returnType = (some .int)) (hk : meth.locks = false)   (z : St)   {res : St × Int32} (hf : f_X10_must_11  z  = some res) : Zj p l e (rm_X10_must) s m args below meth c g A 2 (0, 0) (QI g A below args s res) z 11 [] [] := by
  unfold f_X10_must_11 at hf
  refine z_bipush C dX10_must_11 (v := (-2)) (by decide) ?_
  cases hf
  exact z_iret C hr hk dX10_must_13
def f_X10_must_14  (z : St) (o0 : Nat) (x1 : Int32) : Option (St × Int32) :=
  ((f_X10_knowLeast z o0).bind fun r1 => ((f_X5_aheadOf r1 (rf o0 11) x1).bind fun r3 => some (r3.1, r3.2)))
theorem b_X10_must_14 {p : Program} {l : Launch} {e : Env} {s : State} {m : MethodId} {args : Array Value} {below : List Frame} {meth : Method} {c : Code} {g : Ga} {A : Nat → Prop} (C : Cx l g A p s m args c cX10_must 2 RX10 (rm_X10_must) (0, 0)) (hr : meth.sig.returnType = (some .int)) (hk : meth.locks = false)   (z : St) (o0 : Nat) (x1 : Int32) (ho0 : kd o0 = 10) {res : St × Int32} (hf : f_X10_must_14  z o0 x1 = some res) : Zj p l e (rm_X10_must) s m args below meth c g A 2 (0, 0) (QI g A below args s res) z 14 [(0, .ref (g.1 o0)), (1, .int x1)] [] := by
  unfold f_X10_must_14 at hf
  refine z_aload_n C dX10_must_14 rfl 0 rfl ?_
  obtain ⟨r1, hc2, hf⟩ := q_bd hf
  refine z_cVv C (st := []) (c_X10_knowLeast ho0 hc2) mw_X10_knowLeast ml_X10_220 ho0 (by decide) rfl dX10_must_15 rfl rfl rfl ⟨Nat.le_of_ble_eq_true rfl, Nat.le_of_ble_eq_true rfl⟩ rfl (Nat.le_of_ble_eq_true rfl) ?_
  refine z_aload_n C dX10_must_18 rfl 0 rfl ?_
  refine gf_X10_73 C dX10_must_19 ho0 ?_
  refine z_iload_n C dX10_must_22 rfl 1 rfl ?_
  obtain ⟨r3, hc4, hf⟩ := q_bd hf
  refine z_cVi C (st := []) (c_X5_aheadOf (rt_10_11 _ (kd_lt ho0 (by decide)) ho0) hc4) mw_X5_aheadOf ml_X10_240 (rt_10_11 _ (kd_lt ho0 (by decide)) ho0) (by decide) rfl dX10_must_23 rfl rfl rfl ⟨Nat.le_of_ble_eq_true rfl, Nat.le_of_ble_eq_true rfl⟩ rfl (Nat.le_of_ble_eq_true rfl) ?_
  cases hf
  exact z_iret C hr hk dX10_must_26
def f_X10_must_0  (z : St) (o0 : Nat) (x1 : Int32) : Option (St × Int32) :=
  ((f_X2_holds z (rf o0 0) x1).bind fun r1 => if r1.2 = 0 then f_X10_must_11 r1.1 else f_X10_must_14 r1.1 o0 x1)
theorem b_X10_must_0 {p : Program} {l : Launch} {e : Env} {s : State} {m : MethodId} {args : Array Value} {below : List Frame} {meth : Method} {c : Code} {g : Ga} {A : Nat → Prop} (C : Cx l g A p s m args c cX10_must 2 RX10 (rm_X10_must) (0, 0)) (hr : meth.sig.returnType = (some .int)) (hk : meth.locks = false)   (z : St) (o0 : Nat) (x1 : Int32) (ho0 : kd o0 = 10) {res : St × Int32} (hf : f_X10_must_0  z o0 x1 = some res) : Zj p l e (rm_X10_must) s m args below meth c g A 2 (0, 0) (QI g A below args s res) z 0 [(0, .ref (g.1 o0)), (1, .int x1)] [] := by
  unfold f_X10_must_0 at hf
  refine z_aload_n C dX10_must_0 rfl 0 rfl ?_
  refine gf_X10_10 C dX10_must_1 ho0 ?_
  refine z_iload_n C dX10_must_4 rfl 1 rfl ?_
  obtain ⟨r1, hc2, hf⟩ := q_bd hf
  refine z_cVi C (st := []) (c_X2_holds (rt_10_0 _ (kd_lt ho0 (by decide)) ho0) hc2) mw_X2_holds ml_X10_129 (rt_10_0 _ (kd_lt ho0 (by decide)) ho0) (by decide) rfl dX10_must_5 rfl rfl rfl ⟨Nat.le_of_ble_eq_true rfl, Nat.le_of_ble_eq_true rfl⟩ rfl (Nat.le_of_ble_eq_true rfl) ?_
  exact z_if_ne C dX10_must_8 (by decide) (fun h => z_sub [0, 1] rfl (b_X10_must_14 C hr hk r1.1 o0 x1 ho0 (q_f hf h))) (fun h => z_sub [] rfl (b_X10_must_11 C hr hk r1.1 (q_t hf h)))
def f_X10_must (z : St) (o0 : Nat) (x1 : Int32) : Option (St × Int32) := f_X10_must_0 z o0 x1
theorem c_X10_must {l : Launch} {g : Ga} {A : Nat → Prop} {z : St} {o0 : Nat} {x1 : Int32} (ho0 : kd o0 = 10) {res : St × Int32} (hf : f_X10_must z o0 x1 = some res) : CI l g A yX10_must cX10_must 2 (some .int) rm_X10_must [.ref (g.1 o0), .int x1] z res :=
  e_CI (by decide) (Nat.le_of_ble_eq_true rfl) rfl (fun p e s m args below meth c C hr hk => z_sub [0, 1] rfl (b_X10_must_0 C hr hk z o0 x1 ho0 hf))
abbrev rm_X10_room : Room := { frames := 6, cells := 0, slots := 0, locals := 137 }
def f_X10_room_11  (z : St)  : Option (St × Int32) :=
  some (z, (-2))
theorem b_X10_room_11 {p : Program} {l : Launch} {e : Env} {s : State} {m : MethodId} {args : Array Value} {below : List Frame} {meth : Method} {c : Code} {g : Ga} {A : Nat → Prop} (C : Cx l g A p s m args c cX10_room 2 RX10 (rm_X10_room) (0, 0)) (hr : meth.sig.returnType = (some .int)) (hk : meth.locks = false)   (z : St)   {res : St × Int32} (hf : f_X10_room_11  z  = some res) : Zj p l e (rm_X10_room) s m args below meth c g A 2 (0, 0) (QI g A below args s res) z 11 [] [] := by
  unfold f_X10_room_11 at hf
  refine z_bipush C dX10_room_11 (v := (-2)) (by decide) ?_
  cases hf
  exact z_iret C hr hk dX10_room_13
def f_X10_room_14  (z : St) (o0 : Nat) (x1 : Int32) : Option (St × Int32) :=
  ((f_X10_knowLeast z o0).bind fun r1 => ((f_X5_roomOf r1 (rf o0 11) (rf o0 4) x1).bind fun r3 => some (r3.1, r3.2)))
theorem b_X10_room_14 {p : Program} {l : Launch} {e : Env} {s : State} {m : MethodId} {args : Array Value} {below : List Frame} {meth : Method} {c : Code} {g : Ga} {A : Nat → Prop} (C : Cx l g A p s m args c cX10_room 2 RX10 (rm_X10_room) (0, 0)) (hr : meth.sig.returnType = (some .int)) (hk : meth.locks = false)   (z : St) (o0 : Nat) (x1 : Int32) (ho0 : kd o0 = 10) {res : St × Int32} (hf : f_X10_room_14  z o0 x1 = some res) : Zj p l e (rm_X10_room) s m args below meth c g A 2 (0, 0) (QI g A below args s res) z 14 [(0, .ref (g.1 o0)), (1, .int x1)] [] := by
  unfold f_X10_room_14 at hf
  refine z_aload_n C dX10_room_14 rfl 0 rfl ?_
  obtain ⟨r1, hc2, hf⟩ := q_bd hf
  refine z_cVv C (st := []) (c_X10_knowLeast ho0 hc2) mw_X10_knowLeast ml_X10_220 ho0 (by decide) rfl dX10_room_15 rfl rfl rfl ⟨Nat.le_of_ble_eq_true rfl, Nat.le_of_ble_eq_true rfl⟩ rfl (Nat.le_of_ble_eq_true rfl) ?_
  refine z_aload_n C dX10_room_18 rfl 0 rfl ?_
  refine gf_X10_73 C dX10_room_19 ho0 ?_
  refine z_aload_n C dX10_room_22 rfl 0 rfl ?_
  refine gf_X10_32 C dX10_room_23 ho0 ?_
  refine z_iload_n C dX10_room_26 rfl 1 rfl ?_
  obtain ⟨r3, hc4, hf⟩ := q_bd hf
  refine z_cVi C (st := []) (c_X5_roomOf (rt_10_11 _ (kd_lt ho0 (by decide)) ho0) (rt_10_4 _ (kd_lt ho0 (by decide)) ho0) hc4) mw_X5_roomOf ml_X10_243 (rt_10_11 _ (kd_lt ho0 (by decide)) ho0) (by decide) rfl dX10_room_27 rfl rfl rfl ⟨Nat.le_of_ble_eq_true rfl, Nat.le_of_ble_eq_true rfl⟩ rfl (Nat.le_of_ble_eq_true rfl) ?_
  cases hf
  exact z_iret C hr hk dX10_room_30
def f_X10_room_0  (z : St) (o0 : Nat) (x1 : Int32) : Option (St × Int32) :=
  ((f_X2_holds z (rf o0 0) x1).bind fun r1 => if r1.2 = 0 then f_X10_room_11 r1.1 else f_X10_room_14 r1.1 o0 x1)
theorem b_X10_room_0 {p : Program} {l : Launch} {e : Env} {s : State} {m : MethodId} {args : Array Value} {below : List Frame} {meth : Method} {c : Code} {g : Ga} {A : Nat → Prop} (C : Cx l g A p s m args c cX10_room 2 RX10 (rm_X10_room) (0, 0)) (hr : meth.sig.returnType = (some .int)) (hk : meth.locks = false)   (z : St) (o0 : Nat) (x1 : Int32) (ho0 : kd o0 = 10) {res : St × Int32} (hf : f_X10_room_0  z o0 x1 = some res) : Zj p l e (rm_X10_room) s m args below meth c g A 2 (0, 0) (QI g A below args s res) z 0 [(0, .ref (g.1 o0)), (1, .int x1)] [] := by
  unfold f_X10_room_0 at hf
  refine z_aload_n C dX10_room_0 rfl 0 rfl ?_
  refine gf_X10_10 C dX10_room_1 ho0 ?_
  refine z_iload_n C dX10_room_4 rfl 1 rfl ?_
  obtain ⟨r1, hc2, hf⟩ := q_bd hf
  refine z_cVi C (st := []) (c_X2_holds (rt_10_0 _ (kd_lt ho0 (by decide)) ho0) hc2) mw_X2_holds ml_X10_129 (rt_10_0 _ (kd_lt ho0 (by decide)) ho0) (by decide) rfl dX10_room_5 rfl rfl rfl ⟨Nat.le_of_ble_eq_true rfl, Nat.le_of_ble_eq_true rfl⟩ rfl (Nat.le_of_ble_eq_true rfl) ?_
  exact z_if_ne C dX10_room_8 (by decide) (fun h => z_sub [0, 1] rfl (b_X10_room_14 C hr hk r1.1 o0 x1 ho0 (q_f hf h))) (fun h => z_sub [] rfl (b_X10_room_11 C hr hk r1.1 (q_t hf h)))
def f_X10_room (z : St) (o0 : Nat) (x1 : Int32) : Option (St × Int32) := f_X10_room_0 z o0 x1
theorem c_X10_room {l : Launch} {g : Ga} {A : Nat → Prop} {z : St} {o0 : Nat} {x1 : Int32} (ho0 : kd o0 = 10) {res : St × Int32} (hf : f_X10_room z o0 x1 = some res) : CI l g A yX10_room cX10_room 2 (some .int) rm_X10_room [.ref (g.1 o0), .int x1] z res :=
  e_CI (by decide) (Nat.le_of_ble_eq_true rfl) rfl (fun p e s m args below meth c C hr hk => z_sub [0, 1] rfl (b_X10_room_0 C hr hk z o0 x1 ho0 hf))
abbrev rm_X10_gain : Room := { frames := 6, cells := 0, slots := 0, locals := 137 }
def f_X10_gain_11  (z : St)  : Option (St × Int32) :=
  some (z, (-2))
theorem b_X10_gain_11 {p : Program} {l : Launch} {e : Env} {s : State} {m : MethodId} {args : Array Value} {below : List Frame} {meth : Method} {c : Code} {g : Ga} {A : Nat → Prop} (C : Cx l g A p s m args c cX10_gain 2 RX10 (rm_X10_gain) (0, 0)) (hr : meth.sig.returnType = (some .int)) (hk : meth.locks = false)   (z : St)   {res : St × Int32} (hf : f_X10_gain_11  z  = some res) : Zj p l e (rm_X10_gain) s m args below meth c g A 2 (0, 0) (QI g A below args s res) z 11 [] [] := by
  unfold f_X10_gain_11 at hf
  refine z_bipush C dX10_gain_11 (v := (-2)) (by decide) ?_
  cases hf
  exact z_iret C hr hk dX10_gain_13
def f_X10_gain_14  (z : St) (o0 : Nat) (x1 : Int32) : Option (St × Int32) :=
  ((f_X10_knowLeast z o0).bind fun r1 => ((f_X4_becomeAs r1 (rf o0 5) (rf o0 4)).bind fun r3 => ((f_X4_leaveOut r3 (rf o0 5) x1).bind fun r5 => ((f_X6_run r5 (rf o0 10) (rf o0 5)).bind fun r7 => some (r7, (r7.1 o0 16) - (r7.1 (rf o0 10) 8))))))
theorem b_X10_gain_14 {p : Program} {l : Launch} {e : Env} {s : State} {m : MethodId} {args : Array Value} {below : List Frame} {meth : Method} {c : Code} {g : Ga} {A : Nat → Prop} (C : Cx l g A p s m args c cX10_gain 2 RX10 (rm_X10_gain) (0, 0)) (hr : meth.sig.returnType = (some .int)) (hk : meth.locks = false)   (z : St) (o0 : Nat) (x1 : Int32) (ho0 : kd o0 = 10) {res : St × Int32} (hf : f_X10_gain_14  z o0 x1 = some res) : Zj p l e (rm_X10_gain) s m args below meth c g A 2 (0, 0) (QI g A below args s res) z 14 [(0, .ref (g.1 o0)), (1, .int x1)] [] := by
  unfold f_X10_gain_14 at hf
  refine z_aload_n C dX10_gain_14 rfl 0 rfl ?_
  obtain ⟨r1, hc2, hf⟩ := q_bd hf
  refine z_cVv C (st := []) (c_X10_knowLeast ho0 hc2) mw_X10_knowLeast ml_X10_220 ho0 (by decide) rfl dX10_gain_15 rfl rfl rfl ⟨Nat.le_of_ble_eq_true rfl, Nat.le_of_ble_eq_true rfl⟩ rfl (Nat.le_of_ble_eq_true rfl) ?_
  refine z_aload_n C dX10_gain_18 rfl 0 rfl ?_
  refine gf_X10_36 C dX10_gain_19 ho0 ?_
  refine z_aload_n C dX10_gain_22 rfl 0 rfl ?_
  refine gf_X10_32 C dX10_gain_23 ho0 ?_
  obtain ⟨r3, hc4, hf⟩ := q_bd hf
  refine z_cVv C (st := []) (c_X4_becomeAs (rt_10_5 _ (kd_lt ho0 (by decide)) ho0) (rt_10_4 _ (kd_lt ho0 (by decide)) ho0) hc4) mw_X4_becomeAs ml_X10_201 (rt_10_5 _ (kd_lt ho0 (by decide)) ho0) (by decide) rfl dX10_gain_26 rfl rfl rfl ⟨Nat.le_of_ble_eq_true rfl, Nat.le_of_ble_eq_true rfl⟩ rfl (Nat.le_of_ble_eq_true rfl) ?_
  refine z_aload_n C dX10_gain_29 rfl 0 rfl ?_
  refine gf_X10_36 C dX10_gain_30 ho0 ?_
  refine z_iload_n C dX10_gain_33 rfl 1 rfl ?_
  obtain ⟨r5, hc6, hf⟩ := q_bd hf
  refine z_cVv C (st := []) (c_X4_leaveOut (rt_10_5 _ (kd_lt ho0 (by decide)) ho0) hc6) mw_X4_leaveOut ml_X10_247 (rt_10_5 _ (kd_lt ho0 (by decide)) ho0) (by decide) rfl dX10_gain_34 rfl rfl rfl ⟨Nat.le_of_ble_eq_true rfl, Nat.le_of_ble_eq_true rfl⟩ rfl (Nat.le_of_ble_eq_true rfl) ?_
  refine z_aload_n C dX10_gain_37 rfl 0 rfl ?_
  refine gf_X10_66 C dX10_gain_38 ho0 ?_
  refine z_aload_n C dX10_gain_41 rfl 0 rfl ?_
  refine gf_X10_36 C dX10_gain_42 ho0 ?_
  obtain ⟨r7, hc8, hf⟩ := q_bd hf
  refine z_cVv C (st := []) (c_X6_run (rt_10_10 _ (kd_lt ho0 (by decide)) ho0) (rt_10_5 _ (kd_lt ho0 (by decide)) ho0) hc8) mw_X6_run ml_X10_250 (rt_10_10 _ (kd_lt ho0 (by decide)) ho0) (by decide) rfl dX10_gain_45 rfl rfl rfl ⟨Nat.le_of_ble_eq_true rfl, Nat.le_of_ble_eq_true rfl⟩ rfl (Nat.le_of_ble_eq_true rfl) ?_
  refine z_aload_n C dX10_gain_48 rfl 0 rfl ?_
  refine gf_X10_223 C dX10_gain_49 ho0 ?_
  refine z_aload_n C dX10_gain_52 rfl 0 rfl ?_
  refine gf_X10_66 C dX10_gain_53 ho0 ?_
  refine gf_X10_251 C dX10_gain_56 (rt_10_10 _ (kd_lt ho0 (by decide)) ho0) ?_
  refine z_isub C dX10_gain_59 ?_
  cases hf
  exact z_iret C hr hk dX10_gain_60
def f_X10_gain_0  (z : St) (o0 : Nat) (x1 : Int32) : Option (St × Int32) :=
  ((f_X2_holds z (rf o0 0) x1).bind fun r1 => if r1.2 = 0 then f_X10_gain_11 r1.1 else f_X10_gain_14 r1.1 o0 x1)
theorem b_X10_gain_0 {p : Program} {l : Launch} {e : Env} {s : State} {m : MethodId} {args : Array Value} {below : List Frame} {meth : Method} {c : Code} {g : Ga} {A : Nat → Prop} (C : Cx l g A p s m args c cX10_gain 2 RX10 (rm_X10_gain) (0, 0)) (hr : meth.sig.returnType = (some .int)) (hk : meth.locks = false)   (z : St) (o0 : Nat) (x1 : Int32) (ho0 : kd o0 = 10) {res : St × Int32} (hf : f_X10_gain_0  z o0 x1 = some res) : Zj p l e (rm_X10_gain) s m args below meth c g A 2 (0, 0) (QI g A below args s res) z 0 [(0, .ref (g.1 o0)), (1, .int x1)] [] := by
  unfold f_X10_gain_0 at hf
  refine z_aload_n C dX10_gain_0 rfl 0 rfl ?_
  refine gf_X10_10 C dX10_gain_1 ho0 ?_
  refine z_iload_n C dX10_gain_4 rfl 1 rfl ?_
  obtain ⟨r1, hc2, hf⟩ := q_bd hf
  refine z_cVi C (st := []) (c_X2_holds (rt_10_0 _ (kd_lt ho0 (by decide)) ho0) hc2) mw_X2_holds ml_X10_129 (rt_10_0 _ (kd_lt ho0 (by decide)) ho0) (by decide) rfl dX10_gain_5 rfl rfl rfl ⟨Nat.le_of_ble_eq_true rfl, Nat.le_of_ble_eq_true rfl⟩ rfl (Nat.le_of_ble_eq_true rfl) ?_
  exact z_if_ne C dX10_gain_8 (by decide) (fun h => z_sub [0, 1] rfl (b_X10_gain_14 C hr hk r1.1 o0 x1 ho0 (q_f hf h))) (fun h => z_sub [] rfl (b_X10_gain_11 C hr hk r1.1 (q_t hf h)))
def f_X10_gain (z : St) (o0 : Nat) (x1 : Int32) : Option (St × Int32) := f_X10_gain_0 z o0 x1
theorem c_X10_gain {l : Launch} {g : Ga} {A : Nat → Prop} {z : St} {o0 : Nat} {x1 : Int32} (ho0 : kd o0 = 10) {res : St × Int32} (hf : f_X10_gain z o0 x1 = some res) : CI l g A yX10_gain cX10_gain 2 (some .int) rm_X10_gain [.ref (g.1 o0), .int x1] z res :=
  e_CI (by decide) (Nat.le_of_ble_eq_true rfl) rfl (fun p e s m args below meth c C hr hk => z_sub [0, 1] rfl (b_X10_gain_0 C hr hk z o0 x1 ho0 hf))
abbrev rm_X10_isSheet : Room := { frames := 0, cells := 0, slots := 0, locals := 0 }
def f_X10_isSheet_27  (z : St) (s0 : Int32) : Option (St × Int32) :=
  if zb s0 = true then some (z, s0) else none
theorem b_X10_isSheet_27 {p : Program} {l : Launch} {e : Env} {s : State} {m : MethodId} {args : Array Value} {below : List Frame} {meth : Method} {c : Code} {g : Ga} {A : Nat → Prop} (C : Cx l g A p s m args c cX10_isSheet 2 RX10 (rm_X10_isSheet) (0, 0)) (hr : meth.sig.returnType = (some .boolean)) (hk : meth.locks = false)   (z : St) (s0 : Int32)  {res : St × Int32} (hf : f_X10_isSheet_27  z s0 = some res) : Zj p l e (rm_X10_isSheet) s m args below meth c g A 2 (0, 0) (QI g A below args s res) z 27 [] [.int s0] := by
  unfold f_X10_isSheet_27 at hf
  obtain ⟨h1, hf⟩ := q_ck hf
  cases hf
  exact z_zret C hr hk h1 dX10_isSheet_27
def f_X10_isSheet_13  (z : St) (o0 : Nat) (x1 : Int32) : Option (St × Int32) :=
  if inb x1 4 = true then (f_X10_isSheet_27 z 1) else none
theorem b_X10_isSheet_13 {p : Program} {l : Launch} {e : Env} {s : State} {m : MethodId} {args : Array Value} {below : List Frame} {meth : Method} {c : Code} {g : Ga} {A : Nat → Prop} (C : Cx l g A p s m args c cX10_isSheet 2 RX10 (rm_X10_isSheet) (0, 0)) (hr : meth.sig.returnType = (some .boolean)) (hk : meth.locks = false)   (z : St) (o0 : Nat) (x1 : Int32) (ho0 : kd o0 = 10) {res : St × Int32} (hf : f_X10_isSheet_13  z o0 x1 = some res) : Zj p l e (rm_X10_isSheet) s m args below meth c g A 2 (0, 0) (QI g A below args s res) z 13 [(0, .ref (g.1 o0)), (1, .int x1)] [] := by
  unfold f_X10_isSheet_13 at hf
  refine z_aload_n C dX10_isSheet_13 rfl 0 rfl ?_
  refine gf_X10_86 C dX10_isSheet_14 ho0 ?_
  refine z_iload_n C dX10_isSheet_17 rfl 1 rfl ?_
  obtain ⟨h1, hf⟩ := q_ck hf
  refine z_aldS C dX10_isSheet_18 (rt_10_13 _ (kd_lt ho0 (by decide)) ho0) h1 ?_
  refine z_ifnull C dX10_isSheet_19 ?_
  refine z_iconst C dX10_isSheet_22 (v := 1) (by decide) ?_
  exact z_goto C dX10_isSheet_23 (by decide) (z_sub [] rfl (b_X10_isSheet_27 C hr hk z 1 hf))
def f_X10_isSheet_26  (z : St)  : Option (St × Int32) :=
  f_X10_isSheet_27 z 0
theorem b_X10_isSheet_26 {p : Program} {l : Launch} {e : Env} {s : State} {m : MethodId} {args : Array Value} {below : List Frame} {meth : Method} {c : Code} {g : Ga} {A : Nat → Prop} (C : Cx l g A p s m args c cX10_isSheet 2 RX10 (rm_X10_isSheet) (0, 0)) (hr : meth.sig.returnType = (some .boolean)) (hk : meth.locks = false)   (z : St)   {res : St × Int32} (hf : f_X10_isSheet_26  z  = some res) : Zj p l e (rm_X10_isSheet) s m args below meth c g A 2 (0, 0) (QI g A below args s res) z 26 [] [] := by
  unfold f_X10_isSheet_26 at hf
  refine z_iconst C dX10_isSheet_26 (v := 0) (by decide) ?_
  exact z_sub [] rfl (b_X10_isSheet_27 C hr hk z 0 hf)
def f_X10_isSheet_4  (z : St) (o0 : Nat) (x1 : Int32) : Option (St × Int32) :=
  if 4 ≤ x1 then f_X10_isSheet_26 z else f_X10_isSheet_13 z o0 x1
theorem b_X10_isSheet_4 {p : Program} {l : Launch} {e : Env} {s : State} {m : MethodId} {args : Array Value} {below : List Frame} {meth : Method} {c : Code} {g : Ga} {A : Nat → Prop} (C : Cx l g A p s m args c cX10_isSheet 2 RX10 (rm_X10_isSheet) (0, 0)) (hr : meth.sig.returnType = (some .boolean)) (hk : meth.locks = false)   (z : St) (o0 : Nat) (x1 : Int32) (ho0 : kd o0 = 10) {res : St × Int32} (hf : f_X10_isSheet_4  z o0 x1 = some res) : Zj p l e (rm_X10_isSheet) s m args below meth c g A 2 (0, 0) (QI g A below args s res) z 4 [(0, .ref (g.1 o0)), (1, .int x1)] [] := by
  unfold f_X10_isSheet_4 at hf
  refine z_iload_n C dX10_isSheet_4 rfl 1 rfl ?_
  refine z_aload_n C dX10_isSheet_5 rfl 0 rfl ?_
  refine gf_X10_86 C dX10_isSheet_6 ho0 ?_
  refine z_alenS C dX10_isSheet_9 (v := 4) (rt_10_13 _ (kd_lt ho0 (by decide)) ho0) rfl ?_
  exact z_icmp_ge C dX10_isSheet_10 (by decide) (fun h => z_sub [] rfl (b_X10_isSheet_26 C hr hk z (q_t hf h))) (fun h => z_sub [0, 1] rfl (b_X10_isSheet_13 C hr hk z o0 x1 ho0 (q_f hf h)))
def f_X10_isSheet_0  (z : St) (o0 : Nat) (x1 : Int32) : Option (St × Int32) :=
  if x1 < 0 then f_X10_isSheet_26 z else f_X10_isSheet_4 z o0 x1
theorem b_X10_isSheet_0 {p : Program} {l : Launch} {e : Env} {s : State} {m : MethodId} {args : Array Value} {below : List Frame} {meth : Method} {c : Code} {g : Ga} {A : Nat → Prop} (C : Cx l g A p s m args c cX10_isSheet 2 RX10 (rm_X10_isSheet) (0, 0)) (hr : meth.sig.returnType = (some .boolean)) (hk : meth.locks = false)   (z : St) (o0 : Nat) (x1 : Int32) (ho0 : kd o0 = 10) {res : St × Int32} (hf : f_X10_isSheet_0  z o0 x1 = some res) : Zj p l e (rm_X10_isSheet) s m args below meth c g A 2 (0, 0) (QI g A below args s res) z 0 [(0, .ref (g.1 o0)), (1, .int x1)] [] := by
  unfold f_X10_isSheet_0 at hf
  refine z_iload_n C dX10_isSheet_0 rfl 1 rfl ?_
  exact z_if_lt C dX10_isSheet_1 (by decide) (fun h => z_sub [] rfl (b_X10_isSheet_26 C hr hk z (q_t hf h))) (fun h => z_sub [0, 1] rfl (b_X10_isSheet_4 C hr hk z o0 x1 ho0 (q_f hf h)))
def f_X10_isSheet (z : St) (o0 : Nat) (x1 : Int32) : Option (St × Int32) := f_X10_isSheet_0 z o0 x1
theorem c_X10_isSheet {l : Launch} {g : Ga} {A : Nat → Prop} {z : St} {o0 : Nat} {x1 : Int32} (ho0 : kd o0 = 10) {res : St × Int32} (hf : f_X10_isSheet z o0 x1 = some res) : CI l g A yX10_isSheet cX10_isSheet 2 (some .boolean) rm_X10_isSheet [.ref (g.1 o0), .int x1] z res :=
  e_CI (by decide) (Nat.le_of_ble_eq_true rfl) rfl (fun p e s m args below meth c C hr hk => z_sub [0, 1] rfl (b_X10_isSheet_0 C hr hk z o0 x1 ho0 hf))
abbrev rm_X10_layTold : Room := { frames := 2, cells := 0, slots := 0, locals := 44 }
def f_X10_layTold_14  (z : St)  : Option (St × Int32) :=
  some (z, 0)
theorem b_X10_layTold_14 {p : Program} {l : Launch} {e : Env} {s : State} {m : MethodId} {args : Array Value} {below : List Frame} {meth : Method} {c : Code} {g : Ga} {A : Nat → Prop} (C : Cx l g A p s m args c cX10_layTold 5 RX10 (rm_X10_layTold) (0, 0)) (hr : meth.sig.returnType = (some .boolean)) (hk : meth.locks = false)   (z : St)   {res : St × Int32} (hf : f_X10_layTold_14  z  = some res) : Zj p l e (rm_X10_layTold) s m args below meth c g A 5 (0, 0) (QI g A below args s res) z 14 [] [] := by
  unfold f_X10_layTold_14 at hf
  refine z_iconst C dX10_layTold_14 (v := 0) (by decide) ?_
  cases hf
  exact z_zret C hr hk (by decide) dX10_layTold_15
def f_X10_layTold_70  (z : St)  : Option (St × Int32) :=
  some (z, 0)
theorem b_X10_layTold_70 {p : Program} {l : Launch} {e : Env} {s : State} {m : MethodId} {args : Array Value} {below : List Frame} {meth : Method} {c : Code} {g : Ga} {A : Nat → Prop} (C : Cx l g A p s m args c cX10_layTold 5 RX10 (rm_X10_layTold) (0, 0)) (hr : meth.sig.returnType = (some .boolean)) (hk : meth.locks = false)   (z : St)   {res : St × Int32} (hf : f_X10_layTold_70  z  = some res) : Zj p l e (rm_X10_layTold) s m args below meth c g A 5 (0, 0) (QI g A below args s res) z 70 [] [] := by
  unfold f_X10_layTold_70 at hf
  refine z_iconst C dX10_layTold_70 (v := 0) (by decide) ?_
  cases hf
  exact z_zret C hr hk (by decide) dX10_layTold_71
def f_X10_layTold_72 (K25 : St → Nat → Nat → Int32 → Option (St × Int32)) (z : St) (o0 : Nat) (o1 : Nat) (x2 : Int32) (y3 : Int64) : Option (St × Int32) :=
  ((f_X3_append z (rf o0 7) (rf o0 4) (Int64.toInt32 y3)).bind fun r1 => K25 r1 o0 o1 (x2 + 1))
theorem b_X10_layTold_72 {p : Program} {l : Launch} {e : Env} {s : State} {m : MethodId} {args : Array Value} {below : List Frame} {meth : Method} {c : Code} {g : Ga} {A : Nat → Prop} (C : Cx l g A p s m args c cX10_layTold 5 RX10 (rm_X10_layTold) (0, 0)) (hr : meth.sig.returnType = (some .boolean)) (hk : meth.locks = false) {K25 : St → Nat → Nat → Int32 → Option (St × Int32)} (hK25 : ∀ (z : St) (o0 : Nat) (o1 : Nat) (x2 : Int32) (_ : kd o0 = 10) (_ : kd o1 = 7) {res : St × Int32}, K25 z o0 o1 x2 = some res → Zj p l e (rm_X10_layTold) s m args below meth c g A 5 (0, 0) (QI g A below args s res) z 25 [(0, .ref (g.1 o0)), (1, .ref (g.1 o1)), (2, .int x2)] []) (z : St) (o0 : Nat) (o1 : Nat) (x2 : Int32) (y3 : Int64) (ho0 : kd o0 = 10) (ho1 : kd o1 = 7) {res : St × Int32} (hf : f_X10_layTold_72 K25 z o0 o1 x2 y3 = some res) : Zj p l e (rm_X10_layTold) s m args below meth c g A 5 (0, 0) (QI g A below args s res) z 72 [(0, .ref (g.1 o0)), (1, .ref (g.1 o1)), (2, .int x2), (3, .long y3)] [] := by
  unfold f_X10_layTold_72 at hf
  refine z_aload_n C dX10_layTold_72 rfl 0 rfl ?_
  refine gf_X10_46 C dX10_layTold_73 ho0 ?_
  refine z_aload_n C dX10_layTold_76 rfl 0 rfl ?_
  refine gf_X10_32 C dX10_layTold_77 ho0 ?_
  refine z_lload_n C dX10_layTold_80 rfl 3 rfl ?_
  refine z_l2i C dX10_layTold_81 ?_
  obtain ⟨r1, hc2, hf⟩ := q_bd hf
  refine z_cVv C (st := []) (c_X3_append (rt_10_7 _ (kd_lt ho0 (by decide)) ho0) (rt_10_4 _ (kd_lt ho0 (by decide)) ho0) hc2) mw_X3_append ml_X10_358 (rt_10_7 _ (kd_lt ho0 (by decide)) ho0) (by decide) rfl dX10_layTold_82 rfl rfl rfl ⟨Nat.le_of_ble_eq_true rfl, Nat.le_of_ble_eq_true rfl⟩ rfl (Nat.le_of_ble_eq_true rfl) ?_
  refine z_iinc C (k := 2) (v := x2 + 1) (lv2 := [(2, .int (x2 + 1)), (0, .ref (g.1 o0)), (1, .ref (g.1 o1)), (3, .long y3)]) dX10_layTold_85 rfl rfl (by decide) rfl ?_
  exact z_goto C dX10_layTold_88 (by decide) (z_sub [1, 2, 0] rfl (hK25 r1 o0 o1 (x2 + 1) ho0 ho1 hf))
def f_X10_layTold_58 (K25 : St → Nat → Nat → Int32 → Option (St × Int32)) (z : St) (o0 : Nat) (o1 : Nat) (x2 : Int32) (y3 : Int64) : Option (St × Int32) :=
  ((f_X3_has z (rf o0 7) (Int64.toInt32 y3)).bind fun r1 => if r1.2 = 0 then f_X10_layTold_72 K25 r1.1 o0 o1 x2 y3 else f_X10_layTold_70 r1.1)
theorem b_X10_layTold_58 {p : Program} {l : Launch} {e : Env} {s : State} {m : MethodId} {args : Array Value} {below : List Frame} {meth : Method} {c : Code} {g : Ga} {A : Nat → Prop} (C : Cx l g A p s m args c cX10_layTold 5 RX10 (rm_X10_layTold) (0, 0)) (hr : meth.sig.returnType = (some .boolean)) (hk : meth.locks = false) {K25 : St → Nat → Nat → Int32 → Option (St × Int32)} (hK25 : ∀ (z : St) (o0 : Nat) (o1 : Nat) (x2 : Int32) (_ : kd o0 = 10) (_ : kd o1 = 7) {res : St × Int32}, K25 z o0 o1 x2 = some res → Zj p l e (rm_X10_layTold) s m args below meth c g A 5 (0, 0) (QI g A below args s res) z 25 [(0, .ref (g.1 o0)), (1, .ref (g.1 o1)), (2, .int x2)] []) (z : St) (o0 : Nat) (o1 : Nat) (x2 : Int32) (y3 : Int64) (ho0 : kd o0 = 10) (ho1 : kd o1 = 7) {res : St × Int32} (hf : f_X10_layTold_58 K25 z o0 o1 x2 y3 = some res) : Zj p l e (rm_X10_layTold) s m args below meth c g A 5 (0, 0) (QI g A below args s res) z 58 [(0, .ref (g.1 o0)), (1, .ref (g.1 o1)), (2, .int x2), (3, .long y3)] [] := by
  unfold f_X10_layTold_58 at hf
  refine z_aload_n C dX10_layTold_58 rfl 0 rfl ?_
  refine gf_X10_46 C dX10_layTold_59 ho0 ?_
  refine z_lload_n C dX10_layTold_62 rfl 3 rfl ?_
  refine z_l2i C dX10_layTold_63 ?_
  obtain ⟨r1, hc2, hf⟩ := q_bd hf
  refine z_cVi C (st := []) (c_X3_has (rt_10_7 _ (kd_lt ho0 (by decide)) ho0) hc2) mw_X3_has ml_X10_355 (rt_10_7 _ (kd_lt ho0 (by decide)) ho0) (by decide) rfl dX10_layTold_64 rfl rfl rfl ⟨Nat.le_of_ble_eq_true rfl, Nat.le_of_ble_eq_true rfl⟩ rfl (Nat.le_of_ble_eq_true rfl) ?_
  exact z_if_eq C dX10_layTold_67 (by decide) (fun h => z_sub [0, 1, 2, 3] rfl (b_X10_layTold_72 C hr hk hK25 r1.1 o0 o1 x2 y3 ho0 ho1 (q_t hf h))) (fun h => z_sub [] rfl (b_X10_layTold_70 C hr hk r1.1 (q_f hf h)))
def f_X10_layTold_45 (K25 : St → Nat → Nat → Int32 → Option (St × Int32)) (z : St) (o0 : Nat) (o1 : Nat) (x2 : Int32) (y3 : Int64) : Option (St × Int32) :=
  if 0 ≤ (lg_cmp y3 (Int32.toInt64 (z.1 (rf o0 0) 1))) then f_X10_layTold_70 z else f_X10_layTold_58 K25 z o0 o1 x2 y3
theorem b_X10_layTold_45 {p : Program} {l : Launch} {e : Env} {s : State} {m : MethodId} {args : Array Value} {below : List Frame} {meth : Method} {c : Code} {g : Ga} {A : Nat → Prop} (C : Cx l g A p s m args c cX10_layTold 5 RX10 (rm_X10_layTold) (0, 0)) (hr : meth.sig.returnType = (some .boolean)) (hk : meth.locks = false) {K25 : St → Nat → Nat → Int32 → Option (St × Int32)} (hK25 : ∀ (z : St) (o0 : Nat) (o1 : Nat) (x2 : Int32) (_ : kd o0 = 10) (_ : kd o1 = 7) {res : St × Int32}, K25 z o0 o1 x2 = some res → Zj p l e (rm_X10_layTold) s m args below meth c g A 5 (0, 0) (QI g A below args s res) z 25 [(0, .ref (g.1 o0)), (1, .ref (g.1 o1)), (2, .int x2)] []) (z : St) (o0 : Nat) (o1 : Nat) (x2 : Int32) (y3 : Int64) (ho0 : kd o0 = 10) (ho1 : kd o1 = 7) {res : St × Int32} (hf : f_X10_layTold_45 K25 z o0 o1 x2 y3 = some res) : Zj p l e (rm_X10_layTold) s m args below meth c g A 5 (0, 0) (QI g A below args s res) z 45 [(0, .ref (g.1 o0)), (1, .ref (g.1 o1)), (2, .int x2), (3, .long y3)] [] := by
  unfold f_X10_layTold_45 at hf
  refine z_lload_n C dX10_layTold_45 rfl 3 rfl ?_
  refine z_aload_n C dX10_layTold_46 rfl 0 rfl ?_
  refine gf_X10_10 C dX10_layTold_47 ho0 ?_
  refine gf_X10_113 C dX10_layTold_50 (rt_10_0 _ (kd_lt ho0 (by decide)) ho0) ?_
  refine z_i2l C dX10_layTold_53 ?_
  refine z_lcmp C dX10_layTold_54 ?_
  exact z_if_ge C dX10_layTold_55 (by decide) (fun h => z_sub [] rfl (b_X10_layTold_70 C hr hk z (q_t hf h))) (fun h => z_sub [0, 1, 2, 3] rfl (b_X10_layTold_58 C hr hk hK25 z o0 o1 x2 y3 ho0 ho1 (q_f hf h)))
def f_X10_layTold_33 (K25 : St → Nat → Nat → Int32 → Option (St × Int32)) (z : St) (o0 : Nat) (o1 : Nat) (x2 : Int32) : Option (St × Int32) :=
  ((f_X7_read z o1 x2).bind fun r1 => if (lg_cmp r1.2 0) < 0 then f_X10_layTold_70 r1.1 else f_X10_layTold_45 K25 r1.1 o0 o1 x2 r1.2)
theorem b_X10_layTold_33 {p : Program} {l : Launch} {e : Env} {s : State} {m : MethodId} {args : Array Value} {below : List Frame} {meth : Method} {c : Code} {g : Ga} {A : Nat → Prop} (C : Cx l g A p s m args c cX10_layTold 5 RX10 (rm_X10_layTold) (0, 0)) (hr : meth.sig.returnType = (some .boolean)) (hk : meth.locks = false) {K25 : St → Nat → Nat → Int32 → Option (St × Int32)} (hK25 : ∀ (z : St) (o0 : Nat) (o1 : Nat) (x2 : Int32) (_ : kd o0 = 10) (_ : kd o1 = 7) {res : St × Int32}, K25 z o0 o1 x2 = some res → Zj p l e (rm_X10_layTold) s m args below meth c g A 5 (0, 0) (QI g A below args s res) z 25 [(0, .ref (g.1 o0)), (1, .ref (g.1 o1)), (2, .int x2)] []) (z : St) (o0 : Nat) (o1 : Nat) (x2 : Int32) (ho0 : kd o0 = 10) (ho1 : kd o1 = 7) {res : St × Int32} (hf : f_X10_layTold_33 K25 z o0 o1 x2 = some res) : Zj p l e (rm_X10_layTold) s m args below meth c g A 5 (0, 0) (QI g A below args s res) z 33 [(0, .ref (g.1 o0)), (1, .ref (g.1 o1)), (2, .int x2)] [] := by
  unfold f_X10_layTold_33 at hf
  refine z_aload_n C dX10_layTold_33 rfl 1 rfl ?_
  refine z_iload_n C dX10_layTold_34 rfl 2 rfl ?_
  obtain ⟨r1, hc2, hf⟩ := q_bd hf
  refine z_cVl C (st := []) (c_X7_read ho1 hc2) mw_X7_read ml_X10_317 ho1 (by decide) rfl dX10_layTold_35 rfl rfl rfl ⟨Nat.le_of_ble_eq_true rfl, Nat.le_of_ble_eq_true rfl⟩ rfl (Nat.le_of_ble_eq_true rfl) ?_
  refine z_lstore_n C (lv2 := [(3, .long r1.2), (0, .ref (g.1 o0)), (1, .ref (g.1 o1)), (2, .int x2)]) dX10_layTold_38 rfl (by decide) rfl ?_
  refine z_lload_n C dX10_layTold_39 rfl 0 rfl ?_
  refine z_lconst C dX10_layTold_40 (v := 0) (by decide) ?_
  refine z_lcmp C dX10_layTold_41 ?_
  exact z_if_lt C dX10_layTold_42 (by decide) (fun h => z_sub [] rfl (b_X10_layTold_70 C hr hk r1.1 (q_t hf h))) (fun h => z_sub [1, 2, 3, 0] rfl (b_X10_layTold_45 C hr hk hK25 r1.1 o0 o1 x2 r1.2 ho0 ho1 (q_f hf h)))
def f_X10_layTold_91  (z : St)  : Option (St × Int32) :=
  some (z, 1)
theorem b_X10_layTold_91 {p : Program} {l : Launch} {e : Env} {s : State} {m : MethodId} {args : Array Value} {below : List Frame} {meth : Method} {c : Code} {g : Ga} {A : Nat → Prop} (C : Cx l g A p s m args c cX10_layTold 5 RX10 (rm_X10_layTold) (0, 0)) (hr : meth.sig.returnType = (some .boolean)) (hk : meth.locks = false)   (z : St)   {res : St × Int32} (hf : f_X10_layTold_91  z  = some res) : Zj p l e (rm_X10_layTold) s m args below meth c g A 5 (0, 0) (QI g A below args s res) z 91 [] [] := by
  unfold f_X10_layTold_91 at hf
  refine z_iconst C dX10_layTold_91 (v := 1) (by decide) ?_
  cases hf
  exact z_zret C hr hk (by decide) dX10_layTold_92
def f_X10_layTold_25  : Nat → St → Nat → Nat → Int32 → Option (St × Int32)
  | 0, _, _, _, _ => none
  | n + 1, z, o0, o1, x2 => if (z.1 o1 2) ≤ x2 then f_X10_layTold_91 z else f_X10_layTold_33 (f_X10_layTold_25 n) z o0 o1 x2
theorem b_X10_layTold_25 {p : Program} {l : Launch} {e : Env} {s : State} {m : MethodId} {args : Array Value} {below : List Frame} {meth : Method} {c : Code} {g : Ga} {A : Nat → Prop} (C : Cx l g A p s m args c cX10_layTold 5 RX10 (rm_X10_layTold) (0, 0)) (hr : meth.sig.returnType = (some .boolean)) (hk : meth.locks = false)   : ∀ (n : Nat) (z : St) (o0 : Nat) (o1 : Nat) (x2 : Int32) (_ : kd o0 = 10) (_ : kd o1 = 7) {res : St × Int32} (_ : f_X10_layTold_25  n z o0 o1 x2 = some res), Zj p l e (rm_X10_layTold) s m args below meth c g A 5 (0, 0) (QI g A below args s res) z 25 [(0, .ref (g.1 o0)), (1, .ref (g.1 o1)), (2, .int x2)] [] := by
  intro n
  induction n with
  | zero =>
    intro z o0 o1 x2 ho0 ho1 res hf
    cases hf
  | succ n ih =>
    intro z o0 o1 x2 ho0 ho1 res hf
    rw [f_X10_layTold_25] at hf
    refine z_iload_n C dX10_layTold_25 rfl 2 rfl ?_
    refine z_aload_n C dX10_layTold_26 rfl 1 rfl ?_
    refine gf_X10_353 C dX10_layTold_27 ho1 ?_
    exact z_icmp_ge C dX10_layTold_30 (by decide) (fun h => z_sub [] rfl (b_X10_layTold_91 C hr hk z (q_t hf h))) (fun h => z_sub [0, 1, 2] rfl (b_X10_layTold_33 C hr hk ih z o0 o1 x2 ho0 ho1 (q_f hf h)))
def f_X10_layTold_16  (z : St) (o0 : Nat) (o1 : Nat) : Option (St × Int32) :=
  ((f_X3_clear z (rf o0 7)).bind fun r1 => f_X10_layTold_25 FU r1 o0 o1 0)
theorem b_X10_layTold_16 {p : Program} {l : Launch} {e : Env} {s : State} {m : MethodId} {args : Array Value} {below : List Frame} {meth : Method} {c : Code} {g : Ga} {A : Nat → Prop} (C : Cx l g A p s m args c cX10_layTold 5 RX10 (rm_X10_layTold) (0, 0)) (hr : meth.sig.returnType = (some .boolean)) (hk : meth.locks = false)   (z : St) (o0 : Nat) (o1 : Nat) (ho0 : kd o0 = 10) (ho1 : kd o1 = 7) {res : St × Int32} (hf : f_X10_layTold_16  z o0 o1 = some res) : Zj p l e (rm_X10_layTold) s m args below meth c g A 5 (0, 0) (QI g A below args s res) z 16 [(0, .ref (g.1 o0)), (1, .ref (g.1 o1))] [] := by
  unfold f_X10_layTold_16 at hf
  refine z_aload_n C dX10_layTold_16 rfl 0 rfl ?_
  refine gf_X10_46 C dX10_layTold_17 ho0 ?_
  obtain ⟨r1, hc2, hf⟩ := q_bd hf
  refine z_cVv C (st := []) (c_X3_clear (rt_10_7 _ (kd_lt ho0 (by decide)) ho0) hc2) mw_X3_clear ml_X10_354 (rt_10_7 _ (kd_lt ho0 (by decide)) ho0) (by decide) rfl dX10_layTold_20 rfl rfl rfl ⟨Nat.le_of_ble_eq_true rfl, Nat.le_of_ble_eq_true rfl⟩ rfl (Nat.le_of_ble_eq_true rfl) ?_
  refine z_iconst C dX10_layTold_23 (v := 0) (by decide) ?_
  refine z_istore_n C (lv2 := [(2, .int 0), (0, .ref (g.1 o0)), (1, .ref (g.1 o1))]) dX10_layTold_24 rfl (by decide) rfl ?_
  exact z_sub [1, 2, 0] rfl (b_X10_layTold_25 C hr hk FU r1 o0 o1 0 ho0 ho1 hf)
def f_X10_layTold_0  (z : St) (o0 : Nat) (o1 : Nat) : Option (St × Int32) :=
  if (z.1 o1 2) = (z.1 (rf o0 0) 1) then f_X10_layTold_16 z o0 o1 else f_X10_layTold_14 z
theorem b_X10_layTold_0 {p : Program} {l : Launch} {e : Env} {s : State} {m : MethodId} {args : Array Value} {below : List Frame} {meth : Method} {c : Code} {g : Ga} {A : Nat → Prop} (C : Cx l g A p s m args c cX10_layTold 5 RX10 (rm_X10_layTold) (0, 0)) (hr : meth.sig.returnType = (some .boolean)) (hk : meth.locks = false)   (z : St) (o0 : Nat) (o1 : Nat) (ho0 : kd o0 = 10) (ho1 : kd o1 = 7) {res : St × Int32} (hf : f_X10_layTold_0  z o0 o1 = some res) : Zj p l e (rm_X10_layTold) s m args below meth c g A 5 (0, 0) (QI g A below args s res) z 0 [(0, .ref (g.1 o0)), (1, .ref (g.1 o1))] [] := by
  unfold f_X10_layTold_0 at hf
  refine z_aload_n C dX10_layTold_0 rfl 1 rfl ?_
  refine gf_X10_353 C dX10_layTold_1 ho1 ?_
  refine z_aload_n C dX10_layTold_4 rfl 0 rfl ?_
  refine gf_X10_10 C dX10_layTold_5 ho0 ?_
  refine gf_X10_113 C dX10_layTold_8 (rt_10_0 _ (kd_lt ho0 (by decide)) ho0) ?_
  exact z_icmp_eq C dX10_layTold_11 (by decide) (fun h => z_sub [0, 1] rfl (b_X10_layTold_16 C hr hk z o0 o1 ho0 ho1 (q_t hf h))) (fun h => z_sub [] rfl (b_X10_layTold_14 C hr hk z (q_f hf h)))
def f_X10_layTold (z : St) (o0 : Nat) (o1 : Nat) : Option (St × Int32) := f_X10_layTold_0 z o0 o1
theorem c_X10_layTold {l : Launch} {g : Ga} {A : Nat → Prop} {z : St} {o0 : Nat} {o1 : Nat} (ho0 : kd o0 = 10) (ho1 : kd o1 = 7) {res : St × Int32} (hf : f_X10_layTold z o0 o1 = some res) : CI l g A yX10_layTold cX10_layTold 5 (some .boolean) rm_X10_layTold [.ref (g.1 o0), .ref (g.1 o1)] z res :=
  e_CI (by decide) (Nat.le_of_ble_eq_true rfl) rfl (fun p e s m args below meth c C hr hk => z_sub [0, 1] rfl (b_X10_layTold_0 C hr hk z o0 o1 ho0 ho1 hf))
abbrev rm_X10_judge : Room := { frames := 3, cells := 0, slots := 0, locals := 68 }
def f_X10_judge_17  (z : St)  : Option (St × Int64) :=
  some (z, (-2))
theorem b_X10_judge_17 {p : Program} {l : Launch} {e : Env} {s : State} {m : MethodId} {args : Array Value} {below : List Frame} {meth : Method} {c : Code} {g : Ga} {A : Nat → Prop} (C : Cx l g A p s m args c cX10_judge 3 RX10 (rm_X10_judge) (0, 0)) (hr : meth.sig.returnType = (some .long)) (hk : meth.locks = false)   (z : St)   {res : St × Int64} (hf : f_X10_judge_17  z  = some res) : Zj p l e (rm_X10_judge) s m args below meth c g A 3 (0, 0) (QJ g A below args s res) z 17 [] [] := by
  unfold f_X10_judge_17 at hf
  refine z_ldc2 C dX10_judge_17 kc_X10_257 ?_
  cases hf
  exact z_lret C hr hk dX10_judge_20
def f_X10_judge_33  (z : St)  : Option (St × Int64) :=
  some (z, (-11))
theorem b_X10_judge_33 {p : Program} {l : Launch} {e : Env} {s : State} {m : MethodId} {args : Array Value} {below : List Frame} {meth : Method} {c : Code} {g : Ga} {A : Nat → Prop} (C : Cx l g A p s m args c cX10_judge 3 RX10 (rm_X10_judge) (0, 0)) (hr : meth.sig.returnType = (some .long)) (hk : meth.locks = false)   (z : St)   {res : St × Int64} (hf : f_X10_judge_33  z  = some res) : Zj p l e (rm_X10_judge) s m args below meth c g A 3 (0, 0) (QJ g A below args s res) z 33 [] [] := by
  unfold f_X10_judge_33 at hf
  refine z_ldc2 C dX10_judge_33 kc_X10_263 ?_
  cases hf
  exact z_lret C hr hk dX10_judge_36
def f_X10_judge_50  (z : St)  : Option (St × Int64) :=
  some (z, (-3))
theorem b_X10_judge_50 {p : Program} {l : Launch} {e : Env} {s : State} {m : MethodId} {args : Array Value} {below : List Frame} {meth : Method} {c : Code} {g : Ga} {A : Nat → Prop} (C : Cx l g A p s m args c cX10_judge 3 RX10 (rm_X10_judge) (0, 0)) (hr : meth.sig.returnType = (some .long)) (hk : meth.locks = false)   (z : St)   {res : St × Int64} (hf : f_X10_judge_50  z  = some res) : Zj p l e (rm_X10_judge) s m args below meth c g A 3 (0, 0) (QJ g A below args s res) z 50 [] [] := by
  unfold f_X10_judge_50 at hf
  refine z_ldc2 C dX10_judge_50 kc_X10_269 ?_
  cases hf
  exact z_lret C hr hk dX10_judge_53
def f_X10_judge_80  (z : St) (o0 : Nat) : Option (St × Int64) :=
  some (z, Int32.toInt64 (z.1 (rf o0 7) 6))
theorem b_X10_judge_80 {p : Program} {l : Launch} {e : Env} {s : State} {m : MethodId} {args : Array Value} {below : List Frame} {meth : Method} {c : Code} {g : Ga} {A : Nat → Prop} (C : Cx l g A p s m args c cX10_judge 3 RX10 (rm_X10_judge) (0, 0)) (hr : meth.sig.returnType = (some .long)) (hk : meth.locks = false)   (z : St) (o0 : Nat) (ho0 : kd o0 = 10) {res : St × Int64} (hf : f_X10_judge_80  z o0 = some res) : Zj p l e (rm_X10_judge) s m args below meth c g A 3 (0, 0) (QJ g A below args s res) z 80 [(0, .ref (g.1 o0))] [] := by
  unfold f_X10_judge_80 at hf
  refine z_aload_n C dX10_judge_80 rfl 0 rfl ?_
  refine gf_X10_46 C dX10_judge_81 ho0 ?_
  refine gf_X10_160 C dX10_judge_84 (rt_10_7 _ (kd_lt ho0 (by decide)) ho0) ?_
  refine z_i2l C dX10_judge_87 ?_
  cases hf
  exact z_lret C hr hk dX10_judge_88
def f_X10_judge_89  (z : St) (o0 : Nat) : Option (St × Int64) :=
  some (z, Int32.toInt64 (z.1 (rf o0 7) 7))
theorem b_X10_judge_89 {p : Program} {l : Launch} {e : Env} {s : State} {m : MethodId} {args : Array Value} {below : List Frame} {meth : Method} {c : Code} {g : Ga} {A : Nat → Prop} (C : Cx l g A p s m args c cX10_judge 3 RX10 (rm_X10_judge) (0, 0)) (hr : meth.sig.returnType = (some .long)) (hk : meth.locks = false)   (z : St) (o0 : Nat) (ho0 : kd o0 = 10) {res : St × Int64} (hf : f_X10_judge_89  z o0 = some res) : Zj p l e (rm_X10_judge) s m args below meth c g A 3 (0, 0) (QJ g A below args s res) z 89 [(0, .ref (g.1 o0))] [] := by
  unfold f_X10_judge_89 at hf
  refine z_aload_n C dX10_judge_89 rfl 0 rfl ?_
  refine gf_X10_46 C dX10_judge_90 ho0 ?_
  refine gf_X10_163 C dX10_judge_93 (rt_10_7 _ (kd_lt ho0 (by decide)) ho0) ?_
  refine z_i2l C dX10_judge_96 ?_
  cases hf
  exact z_lret C hr hk dX10_judge_97
def f_X10_judge_98  (z : St) (o0 : Nat) : Option (St × Int64) :=
  ((f_X3_layGreedy z (rf o0 6) (rf o0 4)).bind fun r1 => ((f_X3_laterThan r1 (rf o0 7) (rf o0 6)).bind fun r3 => some (r3.1, Int32.toInt64 r3.2)))
theorem b_X10_judge_98 {p : Program} {l : Launch} {e : Env} {s : State} {m : MethodId} {args : Array Value} {below : List Frame} {meth : Method} {c : Code} {g : Ga} {A : Nat → Prop} (C : Cx l g A p s m args c cX10_judge 3 RX10 (rm_X10_judge) (0, 0)) (hr : meth.sig.returnType = (some .long)) (hk : meth.locks = false)   (z : St) (o0 : Nat) (ho0 : kd o0 = 10) {res : St × Int64} (hf : f_X10_judge_98  z o0 = some res) : Zj p l e (rm_X10_judge) s m args below meth c g A 3 (0, 0) (QJ g A below args s res) z 98 [(0, .ref (g.1 o0))] [] := by
  unfold f_X10_judge_98 at hf
  refine z_aload_n C dX10_judge_98 rfl 0 rfl ?_
  refine gf_X10_42 C dX10_judge_99 ho0 ?_
  refine z_aload_n C dX10_judge_102 rfl 0 rfl ?_
  refine gf_X10_32 C dX10_judge_103 ho0 ?_
  obtain ⟨r1, hc2, hf⟩ := q_bd hf
  refine z_cVv C (st := []) (c_X3_layGreedy (rt_10_6 _ (kd_lt ho0 (by decide)) ho0) (rt_10_4 _ (kd_lt ho0 (by decide)) ho0) hc2) mw_X3_layGreedy ml_X10_156 (rt_10_6 _ (kd_lt ho0 (by decide)) ho0) (by decide) rfl dX10_judge_106 rfl rfl rfl ⟨Nat.le_of_ble_eq_true rfl, Nat.le_of_ble_eq_true rfl⟩ rfl (Nat.le_of_ble_eq_true rfl) ?_
  refine z_aload_n C dX10_judge_109 rfl 0 rfl ?_
  refine gf_X10_46 C dX10_judge_110 ho0 ?_
  refine z_aload_n C dX10_judge_113 rfl 0 rfl ?_
  refine gf_X10_42 C dX10_judge_114 ho0 ?_
  obtain ⟨r3, hc4, hf⟩ := q_bd hf
  refine z_cVi C (st := []) (c_X3_laterThan (rt_10_7 _ (kd_lt ho0 (by decide)) ho0) (rt_10_6 _ (kd_lt ho0 (by decide)) ho0) hc4) mw_X3_laterThan ml_X10_271 (rt_10_7 _ (kd_lt ho0 (by decide)) ho0) (by decide) rfl dX10_judge_117 rfl rfl rfl ⟨Nat.le_of_ble_eq_true rfl, Nat.le_of_ble_eq_true rfl⟩ rfl (Nat.le_of_ble_eq_true rfl) ?_
  refine z_i2l C dX10_judge_120 ?_
  cases hf
  exact z_lret C hr hk dX10_judge_121
def f_X10_judge_122  (z : St) (o0 : Nat) : Option (St × Int64) :=
  ((f_X3_longestWait z (rf o0 7) (rf o0 4)).bind fun r1 => some (r1.1, Int32.toInt64 r1.2))
theorem b_X10_judge_122 {p : Program} {l : Launch} {e : Env} {s : State} {m : MethodId} {args : Array Value} {below : List Frame} {meth : Method} {c : Code} {g : Ga} {A : Nat → Prop} (C : Cx l g A p s m args c cX10_judge 3 RX10 (rm_X10_judge) (0, 0)) (hr : meth.sig.returnType = (some .long)) (hk : meth.locks = false)   (z : St) (o0 : Nat) (ho0 : kd o0 = 10) {res : St × Int64} (hf : f_X10_judge_122  z o0 = some res) : Zj p l e (rm_X10_judge) s m args below meth c g A 3 (0, 0) (QJ g A below args s res) z 122 [(0, .ref (g.1 o0))] [] := by
  unfold f_X10_judge_122 at hf
  refine z_aload_n C dX10_judge_122 rfl 0 rfl ?_
  refine gf_X10_46 C dX10_judge_123 ho0 ?_
  refine z_aload_n C dX10_judge_126 rfl 0 rfl ?_
  refine gf_X10_32 C dX10_judge_127 ho0 ?_
  obtain ⟨r1, hc2, hf⟩ := q_bd hf
  refine z_cVi C (st := []) (c_X3_longestWait (rt_10_7 _ (kd_lt ho0 (by decide)) ho0) (rt_10_4 _ (kd_lt ho0 (by decide)) ho0) hc2) mw_X3_longestWait ml_X10_275 (rt_10_7 _ (kd_lt ho0 (by decide)) ho0) (by decide) rfl dX10_judge_130 rfl rfl rfl ⟨Nat.le_of_ble_eq_true rfl, Nat.le_of_ble_eq_true rfl⟩ rfl (Nat.le_of_ble_eq_true rfl) ?_
  refine z_i2l C dX10_judge_133 ?_
  cases hf
  exact z_lret C hr hk dX10_judge_134
def f_X10_judge_54  (z : St) (o0 : Nat) (x2 : Int32) : Option (St × Int64) :=
  if x2 = 0 then f_X10_judge_80 z o0 else if x2 = 1 then f_X10_judge_89 z o0 else if x2 = 2 then f_X10_judge_98 z o0 else f_X10_judge_122 z o0
theorem b_X10_judge_54 {p : Program} {l : Launch} {e : Env} {s : State} {m : MethodId} {args : Array Value} {below : List Frame} {meth : Method} {c : Code} {g : Ga} {A : Nat → Prop} (C : Cx l g A p s m args c cX10_judge 3 RX10 (rm_X10_judge) (0, 0)) (hr : meth.sig.returnType = (some .long)) (hk : meth.locks = false)   (z : St) (o0 : Nat) (x2 : Int32) (ho0 : kd o0 = 10) {res : St × Int64} (hf : f_X10_judge_54  z o0 x2 = some res) : Zj p l e (rm_X10_judge) s m args below meth c g A 3 (0, 0) (QJ g A below args s res) z 54 [(0, .ref (g.1 o0)), (2, .int x2)] [] := by
  unfold f_X10_judge_54 at hf
  refine z_iload_n C dX10_judge_54 rfl 1 rfl ?_
  by_cases h1 : x2 = 0
  · exact z_tblK C dX10_judge_55 (k := 0) h1 (by decide) (by decide) (off := 25) (by decide) (by decide) (z_sub [0] rfl (b_X10_judge_80 C hr hk z o0 ho0 (q_t hf h1)))
  replace hf := q_f hf h1
  by_cases h2 : x2 = 1
  · exact z_tblK C dX10_judge_55 (k := 1) h2 (by decide) (by decide) (off := 34) (by decide) (by decide) (z_sub [0] rfl (b_X10_judge_89 C hr hk z o0 ho0 (q_t hf h2)))
  replace hf := q_f hf h2
  by_cases h3 : x2 = 2
  · exact z_tblK C dX10_judge_55 (k := 2) h3 (by decide) (by decide) (off := 43) (by decide) (by decide) (z_sub [0] rfl (b_X10_judge_98 C hr hk z o0 ho0 (q_t hf h3)))
  replace hf := q_f hf h3
  exact z_tblOut C dX10_judge_55 (tbl_out (lo := 0) (hi := 2) (fun k q1 q2 => by
    rcases (show k = 0 ∨ k = 1 ∨ k = 2 by omega) with rfl | rfl | rfl
    · exact fun e => h1 (e.symm.trans (by decide))
    · exact fun e => h2 (e.symm.trans (by decide))
    · exact fun e => h3 (e.symm.trans (by decide)))) (by decide) (z_sub [0] rfl (b_X10_judge_122 C hr hk z o0 ho0 hf))
def f_X10_judge_37  (z : St) (o0 : Nat) (x1 : Int32) (x2 : Int32) : Option (St × Int64) :=
  if inb x1 4 = true then (((f_X10_layTold z o0 (rf (rf o0 13) (Int32.toNatClampNeg x1))).bind fun r2 => if r2.2 = 0 then f_X10_judge_50 r2.1 else f_X10_judge_54 r2.1 o0 x2)) else none
theorem b_X10_judge_37 {p : Program} {l : Launch} {e : Env} {s : State} {m : MethodId} {args : Array Value} {below : List Frame} {meth : Method} {c : Code} {g : Ga} {A : Nat → Prop} (C : Cx l g A p s m args c cX10_judge 3 RX10 (rm_X10_judge) (0, 0)) (hr : meth.sig.returnType = (some .long)) (hk : meth.locks = false)   (z : St) (o0 : Nat) (x1 : Int32) (x2 : Int32) (ho0 : kd o0 = 10) {res : St × Int64} (hf : f_X10_judge_37  z o0 x1 x2 = some res) : Zj p l e (rm_X10_judge) s m args below meth c g A 3 (0, 0) (QJ g A below args s res) z 37 [(0, .ref (g.1 o0)), (1, .int x1), (2, .int x2)] [] := by
  unfold f_X10_judge_37 at hf
  refine z_aload_n C dX10_judge_37 rfl 0 rfl ?_
  refine z_aload_n C dX10_judge_38 rfl 0 rfl ?_
  refine gf_X10_86 C dX10_judge_39 ho0 ?_
  refine z_iload_n C dX10_judge_42 rfl 1 rfl ?_
  obtain ⟨h1, hf⟩ := q_ck hf
  refine z_aldS C dX10_judge_43 (rt_10_13 _ (kd_lt ho0 (by decide)) ho0) h1 ?_
  obtain ⟨r2, hc3, hf⟩ := q_bd hf
  refine z_cVi C (st := []) (c_X10_layTold ho0 (rt_50 _ (kd_lt (rt_10_13 _ (kd_lt ho0 (by decide)) ho0) (by decide)) (rt_10_13 _ (kd_lt ho0 (by decide)) ho0) _ (inb_lt h1)) hc3) mw_X10_layTold ml_X10_265 ho0 (by decide) rfl dX10_judge_44 rfl rfl rfl ⟨Nat.le_of_ble_eq_true rfl, Nat.le_of_ble_eq_true rfl⟩ rfl (Nat.le_of_ble_eq_true rfl) ?_
  exact z_if_ne C dX10_judge_47 (by decide) (fun h => z_sub [0, 2] rfl (b_X10_judge_54 C hr hk r2.1 o0 x2 ho0 (q_f hf h))) (fun h => z_sub [] rfl (b_X10_judge_50 C hr hk r2.1 (q_t hf h)))
def f_X10_judge_21  (z : St) (o0 : Nat) (x1 : Int32) (x2 : Int32) : Option (St × Int64) :=
  if inb x1 4 = true then (((f_X7_isMissing z (rf (rf o0 13) (Int32.toNatClampNeg x1))).bind fun r2 => if r2.2 = 0 then f_X10_judge_37 r2.1 o0 x1 x2 else f_X10_judge_33 r2.1)) else none
theorem b_X10_judge_21 {p : Program} {l : Launch} {e : Env} {s : State} {m : MethodId} {args : Array Value} {below : List Frame} {meth : Method} {c : Code} {g : Ga} {A : Nat → Prop} (C : Cx l g A p s m args c cX10_judge 3 RX10 (rm_X10_judge) (0, 0)) (hr : meth.sig.returnType = (some .long)) (hk : meth.locks = false)   (z : St) (o0 : Nat) (x1 : Int32) (x2 : Int32) (ho0 : kd o0 = 10) {res : St × Int64} (hf : f_X10_judge_21  z o0 x1 x2 = some res) : Zj p l e (rm_X10_judge) s m args below meth c g A 3 (0, 0) (QJ g A below args s res) z 21 [(0, .ref (g.1 o0)), (1, .int x1), (2, .int x2)] [] := by
  unfold f_X10_judge_21 at hf
  refine z_aload_n C dX10_judge_21 rfl 0 rfl ?_
  refine gf_X10_86 C dX10_judge_22 ho0 ?_
  refine z_iload_n C dX10_judge_25 rfl 1 rfl ?_
  obtain ⟨h1, hf⟩ := q_ck hf
  refine z_aldS C dX10_judge_26 (rt_10_13 _ (kd_lt ho0 (by decide)) ho0) h1 ?_
  obtain ⟨r2, hc3, hf⟩ := q_bd hf
  refine z_cVi C (st := []) (c_X7_isMissing (rt_50 _ (kd_lt (rt_10_13 _ (kd_lt ho0 (by decide)) ho0) (by decide)) (rt_10_13 _ (kd_lt ho0 (by decide)) ho0) _ (inb_lt h1)) hc3) mw_X7_isMissing ml_X10_259 (rt_50 _ (kd_lt (rt_10_13 _ (kd_lt ho0 (by decide)) ho0) (by decide)) (rt_10_13 _ (kd_lt ho0 (by decide)) ho0) _ (inb_lt h1)) (by decide) rfl dX10_judge_27 rfl rfl rfl ⟨Nat.le_of_ble_eq_true rfl, Nat.le_of_ble_eq_true rfl⟩ rfl (Nat.le_of_ble_eq_true rfl) ?_
  exact z_if_eq C dX10_judge_30 (by decide) (fun h => z_sub [0, 1, 2] rfl (b_X10_judge_37 C hr hk r2.1 o0 x1 x2 ho0 (q_t hf h))) (fun h => z_sub [] rfl (b_X10_judge_33 C hr hk r2.1 (q_f hf h)))
def f_X10_judge_12  (z : St) (o0 : Nat) (x1 : Int32) (x2 : Int32) : Option (St × Int64) :=
  if x2 ≤ 3 then f_X10_judge_21 z o0 x1 x2 else f_X10_judge_17 z
theorem b_X10_judge_12 {p : Program} {l : Launch} {e : Env} {s : State} {m : MethodId} {args : Array Value} {below : List Frame} {meth : Method} {c : Code} {g : Ga} {A : Nat → Prop} (C : Cx l g A p s m args c cX10_judge 3 RX10 (rm_X10_judge) (0, 0)) (hr : meth.sig.returnType = (some .long)) (hk : meth.locks = false)   (z : St) (o0 : Nat) (x1 : Int32) (x2 : Int32) (ho0 : kd o0 = 10) {res : St × Int64} (hf : f_X10_judge_12  z o0 x1 x2 = some res) : Zj p l e (rm_X10_judge) s m args below meth c g A 3 (0, 0) (QJ g A below args s res) z 12 [(0, .ref (g.1 o0)), (1, .int x1), (2, .int x2)] [] := by
  unfold f_X10_judge_12 at hf
  refine z_iload_n C dX10_judge_12 rfl 2 rfl ?_
  refine z_iconst C dX10_judge_13 (v := 3) (by decide) ?_
  exact z_icmp_le C dX10_judge_14 (by decide) (fun h => z_sub [0, 1, 2] rfl (b_X10_judge_21 C hr hk z o0 x1 x2 ho0 (q_t hf h))) (fun h => z_sub [] rfl (b_X10_judge_17 C hr hk z (q_f hf h)))
def f_X10_judge_8  (z : St) (o0 : Nat) (x1 : Int32) (x2 : Int32) : Option (St × Int64) :=
  if x2 < 0 then f_X10_judge_17 z else f_X10_judge_12 z o0 x1 x2
theorem b_X10_judge_8 {p : Program} {l : Launch} {e : Env} {s : State} {m : MethodId} {args : Array Value} {below : List Frame} {meth : Method} {c : Code} {g : Ga} {A : Nat → Prop} (C : Cx l g A p s m args c cX10_judge 3 RX10 (rm_X10_judge) (0, 0)) (hr : meth.sig.returnType = (some .long)) (hk : meth.locks = false)   (z : St) (o0 : Nat) (x1 : Int32) (x2 : Int32) (ho0 : kd o0 = 10) {res : St × Int64} (hf : f_X10_judge_8  z o0 x1 x2 = some res) : Zj p l e (rm_X10_judge) s m args below meth c g A 3 (0, 0) (QJ g A below args s res) z 8 [(0, .ref (g.1 o0)), (1, .int x1), (2, .int x2)] [] := by
  unfold f_X10_judge_8 at hf
  refine z_iload_n C dX10_judge_8 rfl 2 rfl ?_
  exact z_if_lt C dX10_judge_9 (by decide) (fun h => z_sub [] rfl (b_X10_judge_17 C hr hk z (q_t hf h))) (fun h => z_sub [0, 1, 2] rfl (b_X10_judge_12 C hr hk z o0 x1 x2 ho0 (q_f hf h)))
def f_X10_judge_0  (z : St) (o0 : Nat) (x1 : Int32) (x2 : Int32) : Option (St × Int64) :=
  ((f_X10_isSheet z o0 x1).bind fun r1 => if r1.2 = 0 then f_X10_judge_17 r1.1 else f_X10_judge_8 r1.1 o0 x1 x2)
theorem b_X10_judge_0 {p : Program} {l : Launch} {e : Env} {s : State} {m : MethodId} {args : Array Value} {below : List Frame} {meth : Method} {c : Code} {g : Ga} {A : Nat → Prop} (C : Cx l g A p s m args c cX10_judge 3 RX10 (rm_X10_judge) (0, 0)) (hr : meth.sig.returnType = (some .long)) (hk : meth.locks = false)   (z : St) (o0 : Nat) (x1 : Int32) (x2 : Int32) (ho0 : kd o0 = 10) {res : St × Int64} (hf : f_X10_judge_0  z o0 x1 x2 = some res) : Zj p l e (rm_X10_judge) s m args below meth c g A 3 (0, 0) (QJ g A below args s res) z 0 [(0, .ref (g.1 o0)), (1, .int x1), (2, .int x2)] [] := by
  unfold f_X10_judge_0 at hf
  refine z_aload_n C dX10_judge_0 rfl 0 rfl ?_
  refine z_iload_n C dX10_judge_1 rfl 1 rfl ?_
  obtain ⟨r1, hc2, hf⟩ := q_bd hf
  refine z_cVi C (st := []) (c_X10_isSheet ho0 hc2) mw_X10_isSheet ml_X10_254 ho0 (by decide) rfl dX10_judge_2 rfl rfl rfl ⟨Nat.le_of_ble_eq_true rfl, Nat.le_of_ble_eq_true rfl⟩ rfl (Nat.le_of_ble_eq_true rfl) ?_
  exact z_if_eq C dX10_judge_5 (by decide) (fun h => z_sub [] rfl (b_X10_judge_17 C hr hk r1.1 (q_t hf h))) (fun h => z_sub [0, 1, 2] rfl (b_X10_judge_8 C hr hk r1.1 o0 x1 x2 ho0 (q_f hf h)))
def f_X10_judge (z : St) (o0 : Nat) (x1 : Int32) (x2 : Int32) : Option (St × Int64) := f_X10_judge_0 z o0 x1 x2
theorem c_X10_judge {l : Launch} {g : Ga} {A : Nat → Prop} {z : St} {o0 : Nat} {x1 : Int32} {x2 : Int32} (ho0 : kd o0 = 10) {res : St × Int64} (hf : f_X10_judge z o0 x1 x2 = some res) : CJ l g A yX10_judge cX10_judge 3 (some .long) rm_X10_judge [.ref (g.1 o0), .int x1, .int x2] z res :=
  e_CJ (by decide) (Nat.le_of_ble_eq_true rfl) rfl (fun p e s m args below meth c C hr hk => z_sub [0, 1, 2] rfl (b_X10_judge_0 C hr hk z o0 x1 x2 ho0 hf))
abbrev rm_X10_film : Room := { frames := 6, cells := 0, slots := 0, locals := 137 }
def f_X10_film_8  (z : St)  : Option (St × Int32) :=
  some (z, (-2))
theorem b_X10_film_8 {p : Program} {l : Launch} {e : Env} {s : State} {m : MethodId} {args : Array Value} {below : List Frame} {meth : Method} {c : Code} {g : Ga} {A : Nat → Prop} (C : Cx l g A p s m args c cX10_film 4 RX10 (rm_X10_film) (0, 0)) (hr : meth.sig.returnType = (some .int)) (hk : meth.locks = false)   (z : St)   {res : St × Int32} (hf : f_X10_film_8  z  = some res) : Zj p l e (rm_X10_film) s m args below meth c g A 4 (0, 0) (QI g A below args s res) z 8 [] [] := by
  unfold f_X10_film_8 at hf
  refine z_bipush C dX10_film_8 (v := (-2)) (by decide) ?_
  cases hf
  exact z_iret C hr hk dX10_film_10
def f_X10_film_62 (K51 : St → Nat → Nat → Int32 → Option (St × Int32)) (z : St) (o0 : Nat) (o2 : Nat) (x3 : Int32) : Option (St × Int32) :=
  ((f_X3_beginOf z (rf o0 7) x3).bind fun r1 => ((f_X7_write r1.1 o2 x3 (Int32.toInt64 r1.2)).bind fun r3 => K51 r3 o0 o2 (x3 + 1)))
theorem b_X10_film_62 {p : Program} {l : Launch} {e : Env} {s : State} {m : MethodId} {args : Array Value} {below : List Frame} {meth : Method} {c : Code} {g : Ga} {A : Nat → Prop} (C : Cx l g A p s m args c cX10_film 4 RX10 (rm_X10_film) (0, 0)) (hr : meth.sig.returnType = (some .int)) (hk : meth.locks = false) {K51 : St → Nat → Nat → Int32 → Option (St × Int32)} (hK51 : ∀ (z : St) (o0 : Nat) (o2 : Nat) (x3 : Int32) (_ : kd o0 = 10) (_ : kd o2 = 7) {res : St × Int32}, K51 z o0 o2 x3 = some res → Zj p l e (rm_X10_film) s m args below meth c g A 4 (0, 0) (QI g A below args s res) z 51 [(0, .ref (g.1 o0)), (2, .ref (g.1 o2)), (3, .int x3)] []) (z : St) (o0 : Nat) (o2 : Nat) (x3 : Int32) (ho0 : kd o0 = 10) (ho2 : kd o2 = 7) {res : St × Int32} (hf : f_X10_film_62 K51 z o0 o2 x3 = some res) : Zj p l e (rm_X10_film) s m args below meth c g A 4 (0, 0) (QI g A below args s res) z 62 [(0, .ref (g.1 o0)), (2, .ref (g.1 o2)), (3, .int x3)] [] := by
  unfold f_X10_film_62 at hf
  refine z_aload_n C dX10_film_62 rfl 1 rfl ?_
  refine z_iload_n C dX10_film_63 rfl 2 rfl ?_
  refine z_aload_n C dX10_film_64 rfl 0 rfl ?_
  refine gf_X10_46 C dX10_film_65 ho0 ?_
  refine z_iload_n C dX10_film_68 rfl 2 rfl ?_
  obtain ⟨r1, hc2, hf⟩ := q_bd hf
  refine z_cVi C (st := [.int x3, .ref (g.1 o2)]) (c_X3_beginOf (rt_10_7 _ (kd_lt ho0 (by decide)) ho0) hc2) mw_X3_beginOf ml_X10_169 (rt_10_7 _ (kd_lt ho0 (by decide)) ho0) (by decide) rfl dX10_film_69 rfl rfl rfl ⟨Nat.le_of_ble_eq_true rfl, Nat.le_of_ble_eq_true rfl⟩ rfl (Nat.le_of_ble_eq_true rfl) ?_
  refine z_i2l C dX10_film_72 ?_
  obtain ⟨r3, hc4, hf⟩ := q_bd hf
  refine z_cVv C (st := []) (c_X7_write ho2 hc4) mw_X7_write ml_X10_282 ho2 (by decide) rfl dX10_film_73 rfl rfl rfl ⟨Nat.le_of_ble_eq_true rfl, Nat.le_of_ble_eq_true rfl⟩ rfl (Nat.le_of_ble_eq_true rfl) ?_
  refine z_iinc C (k := 2) (v := x3 + 1) (lv2 := [(3, .int (x3 + 1)), (0, .ref (g.1 o0)), (2, .ref (g.1 o2))]) dX10_film_76 rfl rfl (by decide) rfl ?_
  exact z_goto C dX10_film_79 (by decide) (z_sub [1, 2, 0] rfl (hK51 r3 o0 o2 (x3 + 1) ho0 ho2 hf))
def f_X10_film_82  (z : St) (o0 : Nat) : Option (St × Int32) :=
  some (z, z.1 (rf o0 0) 1)
theorem b_X10_film_82 {p : Program} {l : Launch} {e : Env} {s : State} {m : MethodId} {args : Array Value} {below : List Frame} {meth : Method} {c : Code} {g : Ga} {A : Nat → Prop} (C : Cx l g A p s m args c cX10_film 4 RX10 (rm_X10_film) (0, 0)) (hr : meth.sig.returnType = (some .int)) (hk : meth.locks = false)   (z : St) (o0 : Nat) (ho0 : kd o0 = 10) {res : St × Int32} (hf : f_X10_film_82  z o0 = some res) : Zj p l e (rm_X10_film) s m args below meth c g A 4 (0, 0) (QI g A below args s res) z 82 [(0, .ref (g.1 o0))] [] := by
  unfold f_X10_film_82 at hf
  refine z_aload_n C dX10_film_82 rfl 0 rfl ?_
  refine gf_X10_10 C dX10_film_83 ho0 ?_
  refine gf_X10_113 C dX10_film_86 (rt_10_0 _ (kd_lt ho0 (by decide)) ho0) ?_
  cases hf
  exact z_iret C hr hk dX10_film_89
def f_X10_film_51  : Nat → St → Nat → Nat → Int32 → Option (St × Int32)
  | 0, _, _, _, _ => none
  | n + 1, z, o0, o2, x3 => if (z.1 (rf o0 0) 1) ≤ x3 then f_X10_film_82 z o0 else f_X10_film_62 (f_X10_film_51 n) z o0 o2 x3
theorem b_X10_film_51 {p : Program} {l : Launch} {e : Env} {s : State} {m : MethodId} {args : Array Value} {below : List Frame} {meth : Method} {c : Code} {g : Ga} {A : Nat → Prop} (C : Cx l g A p s m args c cX10_film 4 RX10 (rm_X10_film) (0, 0)) (hr : meth.sig.returnType = (some .int)) (hk : meth.locks = false)   : ∀ (n : Nat) (z : St) (o0 : Nat) (o2 : Nat) (x3 : Int32) (_ : kd o0 = 10) (_ : kd o2 = 7) {res : St × Int32} (_ : f_X10_film_51  n z o0 o2 x3 = some res), Zj p l e (rm_X10_film) s m args below meth c g A 4 (0, 0) (QI g A below args s res) z 51 [(0, .ref (g.1 o0)), (2, .ref (g.1 o2)), (3, .int x3)] [] := by
  intro n
  induction n with
  | zero =>
    intro z o0 o2 x3 ho0 ho2 res hf
    cases hf
  | succ n ih =>
    intro z o0 o2 x3 ho0 ho2 res hf
    rw [f_X10_film_51] at hf
    refine z_iload_n C dX10_film_51 rfl 2 rfl ?_
    refine z_aload_n C dX10_film_52 rfl 0 rfl ?_
    refine gf_X10_10 C dX10_film_53 ho0 ?_
    refine gf_X10_113 C dX10_film_56 (rt_10_0 _ (kd_lt ho0 (by decide)) ho0) ?_
    exact z_icmp_ge C dX10_film_59 (by decide) (fun h => z_sub [0] rfl (b_X10_film_82 C hr hk z o0 ho0 (q_t hf h))) (fun h => z_sub [0, 1, 2] rfl (b_X10_film_62 C hr hk ih z o0 o2 x3 ho0 ho2 (q_f hf h)))
def f_X10_film_11  (z : St) (o0 : Nat) (x1 : Int32) : Option (St × Int32) :=
  ((f_X10_knowLeast z o0).bind fun r1 => ((f_X5_layFirst r1 (rf o0 11) (rf o0 4) (rf o0 7)).bind fun r3 => if inb x1 4 = true then (((f_X7_become r3 (rf (rf o0 13) (Int32.toNatClampNeg x1)) 0 (r3.1 (rf o0 0) 1)).bind fun r6 => f_X10_film_51 FU r6 o0 (rf (rf o0 13) (Int32.toNatClampNeg x1)) 0)) else none))
theorem b_X10_film_11 {p : Program} {l : Launch} {e : Env} {s : State} {m : MethodId} {args : Array Value} {below : List Frame} {meth : Method} {c : Code} {g : Ga} {A : Nat → Prop} (C : Cx l g A p s m args c cX10_film 4 RX10 (rm_X10_film) (0, 0)) (hr : meth.sig.returnType = (some .int)) (hk : meth.locks = false)   (z : St) (o0 : Nat) (x1 : Int32) (ho0 : kd o0 = 10) {res : St × Int32} (hf : f_X10_film_11  z o0 x1 = some res) : Zj p l e (rm_X10_film) s m args below meth c g A 4 (0, 0) (QI g A below args s res) z 11 [(0, .ref (g.1 o0)), (1, .int x1)] [] := by
  unfold f_X10_film_11 at hf
  refine z_aload_n C dX10_film_11 rfl 0 rfl ?_
  obtain ⟨r1, hc2, hf⟩ := q_bd hf
  refine z_cVv C (st := []) (c_X10_knowLeast ho0 hc2) mw_X10_knowLeast ml_X10_220 ho0 (by decide) rfl dX10_film_12 rfl rfl rfl ⟨Nat.le_of_ble_eq_true rfl, Nat.le_of_ble_eq_true rfl⟩ rfl (Nat.le_of_ble_eq_true rfl) ?_
  refine z_aload_n C dX10_film_15 rfl 0 rfl ?_
  refine gf_X10_73 C dX10_film_16 ho0 ?_
  refine z_aload_n C dX10_film_19 rfl 0 rfl ?_
  refine gf_X10_32 C dX10_film_20 ho0 ?_
  refine z_aload_n C dX10_film_23 rfl 0 rfl ?_
  refine gf_X10_46 C dX10_film_24 ho0 ?_
  obtain ⟨r3, hc4, hf⟩ := q_bd hf
  refine z_cVv C (st := []) (c_X5_layFirst (rt_10_11 _ (kd_lt ho0 (by decide)) ho0) (rt_10_4 _ (kd_lt ho0 (by decide)) ho0) (rt_10_7 _ (kd_lt ho0 (by decide)) ho0) hc4) mw_X5_layFirst ml_X10_236 (rt_10_11 _ (kd_lt ho0 (by decide)) ho0) (by decide) rfl dX10_film_27 rfl rfl rfl ⟨Nat.le_of_ble_eq_true rfl, Nat.le_of_ble_eq_true rfl⟩ rfl (Nat.le_of_ble_eq_true rfl) ?_
  refine z_aload_n C dX10_film_30 rfl 0 rfl ?_
  refine gf_X10_86 C dX10_film_31 ho0 ?_
  refine z_iload_n C dX10_film_34 rfl 1 rfl ?_
  obtain ⟨h5, hf⟩ := q_ck hf
  refine z_aldS C dX10_film_35 (rt_10_13 _ (kd_lt ho0 (by decide)) ho0) h5 ?_
  refine z_astore_n C (lv2 := [(2, .ref (g.1 (rf (rf o0 13) (Int32.toNatClampNeg x1)))), (0, .ref (g.1 o0)), (1, .int x1)]) dX10_film_36 rfl (by decide) rfl ?_
  refine z_aload_n C dX10_film_37 rfl 0 rfl ?_
  refine z_iconst C dX10_film_38 (v := 0) (by decide) ?_
  refine z_aload_n C dX10_film_39 rfl 1 rfl ?_
  refine gf_X10_10 C dX10_film_40 ho0 ?_
  refine gf_X10_113 C dX10_film_43 (rt_10_0 _ (kd_lt ho0 (by decide)) ho0) ?_
  obtain ⟨r6, hc7, hf⟩ := q_bd hf
  refine z_cVv C (st := []) (c_X7_become (rt_50 _ (kd_lt (rt_10_13 _ (kd_lt ho0 (by decide)) ho0) (by decide)) (rt_10_13 _ (kd_lt ho0 (by decide)) ho0) _ (inb_lt h5)) hc7) mw_X7_become ml_X10_278 (rt_50 _ (kd_lt (rt_10_13 _ (kd_lt ho0 (by decide)) ho0) (by decide)) (rt_10_13 _ (kd_lt ho0 (by decide)) ho0) _ (inb_lt h5)) (by decide) rfl dX10_film_46 rfl rfl rfl ⟨Nat.le_of_ble_eq_true rfl, Nat.le_of_ble_eq_true rfl⟩ rfl (Nat.le_of_ble_eq_true rfl) ?_
  refine z_iconst C dX10_film_49 (v := 0) (by decide) ?_
  refine z_istore_n C (lv2 := [(3, .int 0), (2, .ref (g.1 (rf (rf o0 13) (Int32.toNatClampNeg x1)))), (0, .ref (g.1 o0)), (1, .int x1)]) dX10_film_50 rfl (by decide) rfl ?_
  exact z_sub [2, 1, 0] rfl (b_X10_film_51 C hr hk FU r6 o0 (rf (rf o0 13) (Int32.toNatClampNeg x1)) 0 ho0 (rt_50 _ (kd_lt (rt_10_13 _ (kd_lt ho0 (by decide)) ho0) (by decide)) (rt_10_13 _ (kd_lt ho0 (by decide)) ho0) _ (inb_lt h5)) hf)
def f_X10_film_0  (z : St) (o0 : Nat) (x1 : Int32) : Option (St × Int32) :=
  ((f_X10_isSheet z o0 x1).bind fun r1 => if r1.2 = 0 then f_X10_film_8 r1.1 else f_X10_film_11 r1.1 o0 x1)
theorem b_X10_film_0 {p : Program} {l : Launch} {e : Env} {s : State} {m : MethodId} {args : Array Value} {below : List Frame} {meth : Method} {c : Code} {g : Ga} {A : Nat → Prop} (C : Cx l g A p s m args c cX10_film 4 RX10 (rm_X10_film) (0, 0)) (hr : meth.sig.returnType = (some .int)) (hk : meth.locks = false)   (z : St) (o0 : Nat) (x1 : Int32) (ho0 : kd o0 = 10) {res : St × Int32} (hf : f_X10_film_0  z o0 x1 = some res) : Zj p l e (rm_X10_film) s m args below meth c g A 4 (0, 0) (QI g A below args s res) z 0 [(0, .ref (g.1 o0)), (1, .int x1)] [] := by
  unfold f_X10_film_0 at hf
  refine z_aload_n C dX10_film_0 rfl 0 rfl ?_
  refine z_iload_n C dX10_film_1 rfl 1 rfl ?_
  obtain ⟨r1, hc2, hf⟩ := q_bd hf
  refine z_cVi C (st := []) (c_X10_isSheet ho0 hc2) mw_X10_isSheet ml_X10_254 ho0 (by decide) rfl dX10_film_2 rfl rfl rfl ⟨Nat.le_of_ble_eq_true rfl, Nat.le_of_ble_eq_true rfl⟩ rfl (Nat.le_of_ble_eq_true rfl) ?_
  exact z_if_ne C dX10_film_5 (by decide) (fun h => z_sub [0, 1] rfl (b_X10_film_11 C hr hk r1.1 o0 x1 ho0 (q_f hf h))) (fun h => z_sub [] rfl (b_X10_film_8 C hr hk r1.1 (q_t hf h)))
def f_X10_film (z : St) (o0 : Nat) (x1 : Int32) : Option (St × Int32) := f_X10_film_0 z o0 x1
theorem c_X10_film {l : Launch} {g : Ga} {A : Nat → Prop} {z : St} {o0 : Nat} {x1 : Int32} (ho0 : kd o0 = 10) {res : St × Int32} (hf : f_X10_film z o0 x1 = some res) : CI l g A yX10_film cX10_film 4 (some .int) rm_X10_film [.ref (g.1 o0), .int x1] z res :=
  e_CI (by decide) (Nat.le_of_ble_eq_true rfl) rfl (fun p e s m args below meth c C hr hk => z_sub [0, 1] rfl (b_X10_film_0 C hr hk z o0 x1 ho0 hf))
abbrev rm_X10_drawn : Room := { frames := 5, cells := 0, slots := 0, locals := 117 }
def f_X10_drawn_10  (z : St)  : Option (St × Int32) :=
  some (z, (-2))
theorem b_X10_drawn_10 {p : Program} {l : Launch} {e : Env} {s : State} {m : MethodId} {args : Array Value} {below : List Frame} {meth : Method} {c : Code} {g : Ga} {A : Nat → Prop} (C : Cx l g A p s m args c cX10_drawn 3 RX10 (rm_X10_drawn) (0, 0)) (hr : meth.sig.returnType = (some .int)) (hk : meth.locks = false)   (z : St)   {res : St × Int32} (hf : f_X10_drawn_10  z  = some res) : Zj p l e (rm_X10_drawn) s m args below meth c g A 3 (0, 0) (QI g A below args s res) z 10 [] [] := by
  unfold f_X10_drawn_10 at hf
  refine z_bipush C dX10_drawn_10 (v := (-2)) (by decide) ?_
  cases hf
  exact z_iret C hr hk dX10_drawn_12
def f_X10_drawn_13  (z : St) (o0 : Nat) (x1 : Int32) (x2 : Int32) : Option (St × Int32) :=
  ((f_X4_becomeAs z (rf o0 5) (rf o0 4)).bind fun r1 => ((f_X4_comeLater r1 (rf o0 5) x1 x2).bind fun r3 => ((f_X6_run r3 (rf o0 10) (rf o0 5)).bind fun r5 => some (r5, r5.1 (rf o0 10) 8))))
theorem b_X10_drawn_13 {p : Program} {l : Launch} {e : Env} {s : State} {m : MethodId} {args : Array Value} {below : List Frame} {meth : Method} {c : Code} {g : Ga} {A : Nat → Prop} (C : Cx l g A p s m args c cX10_drawn 3 RX10 (rm_X10_drawn) (0, 0)) (hr : meth.sig.returnType = (some .int)) (hk : meth.locks = false)   (z : St) (o0 : Nat) (x1 : Int32) (x2 : Int32) (ho0 : kd o0 = 10) {res : St × Int32} (hf : f_X10_drawn_13  z o0 x1 x2 = some res) : Zj p l e (rm_X10_drawn) s m args below meth c g A 3 (0, 0) (QI g A below args s res) z 13 [(0, .ref (g.1 o0)), (1, .int x1), (2, .int x2)] [] := by
  unfold f_X10_drawn_13 at hf
  refine z_aload_n C dX10_drawn_13 rfl 0 rfl ?_
  refine gf_X10_36 C dX10_drawn_14 ho0 ?_
  refine z_aload_n C dX10_drawn_17 rfl 0 rfl ?_
  refine gf_X10_32 C dX10_drawn_18 ho0 ?_
  obtain ⟨r1, hc2, hf⟩ := q_bd hf
  refine z_cVv C (st := []) (c_X4_becomeAs (rt_10_5 _ (kd_lt ho0 (by decide)) ho0) (rt_10_4 _ (kd_lt ho0 (by decide)) ho0) hc2) mw_X4_becomeAs ml_X10_201 (rt_10_5 _ (kd_lt ho0 (by decide)) ho0) (by decide) rfl dX10_drawn_21 rfl rfl rfl ⟨Nat.le_of_ble_eq_true rfl, Nat.le_of_ble_eq_true rfl⟩ rfl (Nat.le_of_ble_eq_true rfl) ?_
  refine z_aload_n C dX10_drawn_24 rfl 0 rfl ?_
  refine gf_X10_36 C dX10_drawn_25 ho0 ?_
  refine z_iload_n C dX10_drawn_28 rfl 1 rfl ?_
  refine z_iload_n C dX10_drawn_29 rfl 2 rfl ?_
  obtain ⟨r3, hc4, hf⟩ := q_bd hf
  refine z_cVv C (st := []) (c_X4_comeLater (rt_10_5 _ (kd_lt ho0 (by decide)) ho0) hc4) mw_X4_comeLater ml_X10_286 (rt_10_5 _ (kd_lt ho0 (by decide)) ho0) (by decide) rfl dX10_drawn_30 rfl rfl rfl ⟨Nat.le_of_ble_eq_true rfl, Nat.le_of_ble_eq_true rfl⟩ rfl (Nat.le_of_ble_eq_true rfl) ?_
  refine z_aload_n C dX10_drawn_33 rfl 0 rfl ?_
  refine gf_X10_66 C dX10_drawn_34 ho0 ?_
  refine z_aload_n C dX10_drawn_37 rfl 0 rfl ?_
  refine gf_X10_36 C dX10_drawn_38 ho0 ?_
  obtain ⟨r5, hc6, hf⟩ := q_bd hf
  refine z_cVv C (st := []) (c_X6_run (rt_10_10 _ (kd_lt ho0 (by decide)) ho0) (rt_10_5 _ (kd_lt ho0 (by decide)) ho0) hc6) mw_X6_run ml_X10_250 (rt_10_10 _ (kd_lt ho0 (by decide)) ho0) (by decide) rfl dX10_drawn_41 rfl rfl rfl ⟨Nat.le_of_ble_eq_true rfl, Nat.le_of_ble_eq_true rfl⟩ rfl (Nat.le_of_ble_eq_true rfl) ?_
  refine z_aload_n C dX10_drawn_44 rfl 0 rfl ?_
  refine gf_X10_66 C dX10_drawn_45 ho0 ?_
  refine gf_X10_251 C dX10_drawn_48 (rt_10_10 _ (kd_lt ho0 (by decide)) ho0) ?_
  cases hf
  exact z_iret C hr hk dX10_drawn_51
def f_X10_drawn_4  (z : St) (o0 : Nat) (x1 : Int32) (x2 : Int32) : Option (St × Int32) :=
  if x2 ≤ 30 then f_X10_drawn_13 z o0 x1 x2 else f_X10_drawn_10 z
theorem b_X10_drawn_4 {p : Program} {l : Launch} {e : Env} {s : State} {m : MethodId} {args : Array Value} {below : List Frame} {meth : Method} {c : Code} {g : Ga} {A : Nat → Prop} (C : Cx l g A p s m args c cX10_drawn 3 RX10 (rm_X10_drawn) (0, 0)) (hr : meth.sig.returnType = (some .int)) (hk : meth.locks = false)   (z : St) (o0 : Nat) (x1 : Int32) (x2 : Int32) (ho0 : kd o0 = 10) {res : St × Int32} (hf : f_X10_drawn_4  z o0 x1 x2 = some res) : Zj p l e (rm_X10_drawn) s m args below meth c g A 3 (0, 0) (QI g A below args s res) z 4 [(0, .ref (g.1 o0)), (1, .int x1), (2, .int x2)] [] := by
  unfold f_X10_drawn_4 at hf
  refine z_iload_n C dX10_drawn_4 rfl 2 rfl ?_
  refine z_bipush C dX10_drawn_5 (v := 30) (by decide) ?_
  exact z_icmp_le C dX10_drawn_7 (by decide) (fun h => z_sub [0, 1, 2] rfl (b_X10_drawn_13 C hr hk z o0 x1 x2 ho0 (q_t hf h))) (fun h => z_sub [] rfl (b_X10_drawn_10 C hr hk z (q_f hf h)))
def f_X10_drawn_0  (z : St) (o0 : Nat) (x1 : Int32) (x2 : Int32) : Option (St × Int32) :=
  if x2 < 0 then f_X10_drawn_10 z else f_X10_drawn_4 z o0 x1 x2
theorem b_X10_drawn_0 {p : Program} {l : Launch} {e : Env} {s : State} {m : MethodId} {args : Array Value} {below : List Frame} {meth : Method} {c : Code} {g : Ga} {A : Nat → Prop} (C : Cx l g A p s m args c cX10_drawn 3 RX10 (rm_X10_drawn) (0, 0)) (hr : meth.sig.returnType = (some .int)) (hk : meth.locks = false)   (z : St) (o0 : Nat) (x1 : Int32) (x2 : Int32) (ho0 : kd o0 = 10) {res : St × Int32} (hf : f_X10_drawn_0  z o0 x1 x2 = some res) : Zj p l e (rm_X10_drawn) s m args below meth c g A 3 (0, 0) (QI g A below args s res) z 0 [(0, .ref (g.1 o0)), (1, .int x1), (2, .int x2)] [] := by
  unfold f_X10_drawn_0 at hf
  refine z_iload_n C dX10_drawn_0 rfl 2 rfl ?_
  exact z_if_lt C dX10_drawn_1 (by decide) (fun h => z_sub [] rfl (b_X10_drawn_10 C hr hk z (q_t hf h))) (fun h => z_sub [0, 1, 2] rfl (b_X10_drawn_4 C hr hk z o0 x1 x2 ho0 (q_f hf h)))
def f_X10_drawn (z : St) (o0 : Nat) (x1 : Int32) (x2 : Int32) : Option (St × Int32) := f_X10_drawn_0 z o0 x1 x2
theorem c_X10_drawn {l : Launch} {g : Ga} {A : Nat → Prop} {z : St} {o0 : Nat} {x1 : Int32} {x2 : Int32} (ho0 : kd o0 = 10) {res : St × Int32} (hf : f_X10_drawn z o0 x1 x2 = some res) : CI l g A yX10_drawn cX10_drawn 3 (some .int) rm_X10_drawn [.ref (g.1 o0), .int x1, .int x2] z res :=
  e_CI (by decide) (Nat.le_of_ble_eq_true rfl) rfl (fun p e s m args below meth c C hr hk => z_sub [0, 1, 2] rfl (b_X10_drawn_0 C hr hk z o0 x1 x2 ho0 hf))
abbrev rm_X10_go : Room := { frames := 3, cells := 0, slots := 0, locals := 66 }
def f_X10_go_11  (z : St)  : Option (St × Int32) :=
  some (z, (-2))
theorem b_X10_go_11 {p : Program} {l : Launch} {e : Env} {s : State} {m : MethodId} {args : Array Value} {below : List Frame} {meth : Method} {c : Code} {g : Ga} {A : Nat → Prop} (C : Cx l g A p s m args c cX10_go 3 RX10 (rm_X10_go) (0, 0)) (hr : meth.sig.returnType = (some .int)) (hk : meth.locks = false)   (z : St)   {res : St × Int32} (hf : f_X10_go_11  z  = some res) : Zj p l e (rm_X10_go) s m args below meth c g A 3 (0, 0) (QI g A below args s res) z 11 [] [] := by
  unfold f_X10_go_11 at hf
  refine z_bipush C dX10_go_11 (v := (-2)) (by decide) ?_
  cases hf
  exact z_iret C hr hk dX10_go_13
def f_X10_go_29  (z : St)  : Option (St × Int32) :=
  some (z, (-4))
theorem b_X10_go_29 {p : Program} {l : Launch} {e : Env} {s : State} {m : MethodId} {args : Array Value} {below : List Frame} {meth : Method} {c : Code} {g : Ga} {A : Nat → Prop} (C : Cx l g A p s m args c cX10_go 3 RX10 (rm_X10_go) (0, 0)) (hr : meth.sig.returnType = (some .int)) (hk : meth.locks = false)   (z : St)   {res : St × Int32} (hf : f_X10_go_29  z  = some res) : Zj p l e (rm_X10_go) s m args below meth c g A 3 (0, 0) (QI g A below args s res) z 29 [] [] := by
  unfold f_X10_go_29 at hf
  refine z_bipush C dX10_go_29 (v := (-4)) (by decide) ?_
  cases hf
  exact z_iret C hr hk dX10_go_31
def f_X10_go_39 (K34 : St → Nat → Int32 → Int32 → Option (St × Int32)) (z : St) (o0 : Nat) (x1 : Int32) (x2 : Int32) : Option (St × Int32) :=
  ((f_X9_passHour z (rf o0 12) (rf o0 4)).bind fun r1 => K34 r1 o0 x1 (x2 + 1))
theorem b_X10_go_39 {p : Program} {l : Launch} {e : Env} {s : State} {m : MethodId} {args : Array Value} {below : List Frame} {meth : Method} {c : Code} {g : Ga} {A : Nat → Prop} (C : Cx l g A p s m args c cX10_go 3 RX10 (rm_X10_go) (0, 0)) (hr : meth.sig.returnType = (some .int)) (hk : meth.locks = false) {K34 : St → Nat → Int32 → Int32 → Option (St × Int32)} (hK34 : ∀ (z : St) (o0 : Nat) (x1 : Int32) (x2 : Int32) (_ : kd o0 = 10) {res : St × Int32}, K34 z o0 x1 x2 = some res → Zj p l e (rm_X10_go) s m args below meth c g A 3 (0, 0) (QI g A below args s res) z 34 [(0, .ref (g.1 o0)), (1, .int x1), (2, .int x2)] []) (z : St) (o0 : Nat) (x1 : Int32) (x2 : Int32) (ho0 : kd o0 = 10) {res : St × Int32} (hf : f_X10_go_39 K34 z o0 x1 x2 = some res) : Zj p l e (rm_X10_go) s m args below meth c g A 3 (0, 0) (QI g A below args s res) z 39 [(0, .ref (g.1 o0)), (1, .int x1), (2, .int x2)] [] := by
  unfold f_X10_go_39 at hf
  refine z_aload_n C dX10_go_39 rfl 0 rfl ?_
  refine gf_X10_80 C dX10_go_40 ho0 ?_
  refine z_aload_n C dX10_go_43 rfl 0 rfl ?_
  refine gf_X10_32 C dX10_go_44 ho0 ?_
  obtain ⟨r1, hc2, hf⟩ := q_bd hf
  refine z_cVv C (st := []) (c_X9_passHour (rt_10_12 _ (kd_lt ho0 (by decide)) ho0) (rt_10_4 _ (kd_lt ho0 (by decide)) ho0) hc2) mw_X9_passHour ml_X10_292 (rt_10_12 _ (kd_lt ho0 (by decide)) ho0) (by decide) rfl dX10_go_47 rfl rfl rfl ⟨Nat.le_of_ble_eq_true rfl, Nat.le_of_ble_eq_true rfl⟩ rfl (Nat.le_of_ble_eq_true rfl) ?_
  refine z_iinc C (k := 2) (v := x2 + 1) (lv2 := [(2, .int (x2 + 1)), (0, .ref (g.1 o0)), (1, .int x1)]) dX10_go_50 rfl rfl (by decide) rfl ?_
  exact z_goto C dX10_go_53 (by decide) (z_sub [1, 2, 0] rfl (hK34 r1 o0 x1 (x2 + 1) ho0 hf))
def f_X10_go_56  (z : St) (o0 : Nat) : Option (St × Int32) :=
  some (z, z.1 (rf o0 12) 1)
theorem b_X10_go_56 {p : Program} {l : Launch} {e : Env} {s : State} {m : MethodId} {args : Array Value} {below : List Frame} {meth : Method} {c : Code} {g : Ga} {A : Nat → Prop} (C : Cx l g A p s m args c cX10_go 3 RX10 (rm_X10_go) (0, 0)) (hr : meth.sig.returnType = (some .int)) (hk : meth.locks = false)   (z : St) (o0 : Nat) (ho0 : kd o0 = 10) {res : St × Int32} (hf : f_X10_go_56  z o0 = some res) : Zj p l e (rm_X10_go) s m args below meth c g A 3 (0, 0) (QI g A below args s res) z 56 [(0, .ref (g.1 o0))] [] := by
  unfold f_X10_go_56 at hf
  refine z_aload_n C dX10_go_56 rfl 0 rfl ?_
  refine gf_X10_80 C dX10_go_57 ho0 ?_
  refine gf_X10_289 C dX10_go_60 (rt_10_12 _ (kd_lt ho0 (by decide)) ho0) ?_
  cases hf
  exact z_iret C hr hk dX10_go_63
def f_X10_go_34  : Nat → St → Nat → Int32 → Int32 → Option (St × Int32)
  | 0, _, _, _, _ => none
  | n + 1, z, o0, x1, x2 => if x1 ≤ x2 then f_X10_go_56 z o0 else f_X10_go_39 (f_X10_go_34 n) z o0 x1 x2
theorem b_X10_go_34 {p : Program} {l : Launch} {e : Env} {s : State} {m : MethodId} {args : Array Value} {below : List Frame} {meth : Method} {c : Code} {g : Ga} {A : Nat → Prop} (C : Cx l g A p s m args c cX10_go 3 RX10 (rm_X10_go) (0, 0)) (hr : meth.sig.returnType = (some .int)) (hk : meth.locks = false)   : ∀ (n : Nat) (z : St) (o0 : Nat) (x1 : Int32) (x2 : Int32) (_ : kd o0 = 10) {res : St × Int32} (_ : f_X10_go_34  n z o0 x1 x2 = some res), Zj p l e (rm_X10_go) s m args below meth c g A 3 (0, 0) (QI g A below args s res) z 34 [(0, .ref (g.1 o0)), (1, .int x1), (2, .int x2)] [] := by
  intro n
  induction n with
  | zero =>
    intro z o0 x1 x2 ho0 res hf
    cases hf
  | succ n ih =>
    intro z o0 x1 x2 ho0 res hf
    rw [f_X10_go_34] at hf
    refine z_iload_n C dX10_go_34 rfl 2 rfl ?_
    refine z_iload_n C dX10_go_35 rfl 1 rfl ?_
    exact z_icmp_ge C dX10_go_36 (by decide) (fun h => z_sub [0] rfl (b_X10_go_56 C hr hk z o0 ho0 (q_t hf h))) (fun h => z_sub [0, 1, 2] rfl (b_X10_go_39 C hr hk ih z o0 x1 x2 ho0 (q_f hf h)))
def f_X10_go_32  (z : St) (o0 : Nat) (x1 : Int32) : Option (St × Int32) :=
  f_X10_go_34 FU z o0 x1 0
theorem b_X10_go_32 {p : Program} {l : Launch} {e : Env} {s : State} {m : MethodId} {args : Array Value} {below : List Frame} {meth : Method} {c : Code} {g : Ga} {A : Nat → Prop} (C : Cx l g A p s m args c cX10_go 3 RX10 (rm_X10_go) (0, 0)) (hr : meth.sig.returnType = (some .int)) (hk : meth.locks = false)   (z : St) (o0 : Nat) (x1 : Int32) (ho0 : kd o0 = 10) {res : St × Int32} (hf : f_X10_go_32  z o0 x1 = some res) : Zj p l e (rm_X10_go) s m args below meth c g A 3 (0, 0) (QI g A below args s res) z 32 [(0, .ref (g.1 o0)), (1, .int x1)] [] := by
  unfold f_X10_go_32 at hf
  refine z_iconst C dX10_go_32 (v := 0) (by decide) ?_
  refine z_istore_n C (lv2 := [(2, .int 0), (0, .ref (g.1 o0)), (1, .int x1)]) dX10_go_33 rfl (by decide) rfl ?_
  exact z_sub [1, 2, 0] rfl (b_X10_go_34 C hr hk FU z o0 x1 0 ho0 hf)
def f_X10_go_14  (z : St) (o0 : Nat) (x1 : Int32) : Option (St × Int32) :=
  if ((z.1 (rf o0 12) 1) + x1) ≤ 999 then f_X10_go_32 z o0 x1 else f_X10_go_29 z
theorem b_X10_go_14 {p : Program} {l : Launch} {e : Env} {s : State} {m : MethodId} {args : Array Value} {below : List Frame} {meth : Method} {c : Code} {g : Ga} {A : Nat → Prop} (C : Cx l g A p s m args c cX10_go 3 RX10 (rm_X10_go) (0, 0)) (hr : meth.sig.returnType = (some .int)) (hk : meth.locks = false)   (z : St) (o0 : Nat) (x1 : Int32) (ho0 : kd o0 = 10) {res : St × Int32} (hf : f_X10_go_14  z o0 x1 = some res) : Zj p l e (rm_X10_go) s m args below meth c g A 3 (0, 0) (QI g A below args s res) z 14 [(0, .ref (g.1 o0)), (1, .int x1)] [] := by
  unfold f_X10_go_14 at hf
  refine z_aload_n C dX10_go_14 rfl 0 rfl ?_
  refine gf_X10_80 C dX10_go_15 ho0 ?_
  refine gf_X10_289 C dX10_go_18 (rt_10_12 _ (kd_lt ho0 (by decide)) ho0) ?_
  refine z_iload_n C dX10_go_21 rfl 1 rfl ?_
  refine z_iadd C dX10_go_22 ?_
  refine z_sipush C dX10_go_23 (v := 999) (by decide) ?_
  exact z_icmp_le C dX10_go_26 (by decide) (fun h => z_sub [0, 1] rfl (b_X10_go_32 C hr hk z o0 x1 ho0 (q_t hf h))) (fun h => z_sub [] rfl (b_X10_go_29 C hr hk z (q_f hf h)))
def f_X10_go_5  (z : St) (o0 : Nat) (x1 : Int32) : Option (St × Int32) :=
  if x1 ≤ 60 then f_X10_go_14 z o0 x1 else f_X10_go_11 z
theorem b_X10_go_5 {p : Program} {l : Launch} {e : Env} {s : State} {m : MethodId} {args : Array Value} {below : List Frame} {meth : Method} {c : Code} {g : Ga} {A : Nat → Prop} (C : Cx l g A p s m args c cX10_go 3 RX10 (rm_X10_go) (0, 0)) (hr : meth.sig.returnType = (some .int)) (hk : meth.locks = false)   (z : St) (o0 : Nat) (x1 : Int32) (ho0 : kd o0 = 10) {res : St × Int32} (hf : f_X10_go_5  z o0 x1 = some res) : Zj p l e (rm_X10_go) s m args below meth c g A 3 (0, 0) (QI g A below args s res) z 5 [(0, .ref (g.1 o0)), (1, .int x1)] [] := by
  unfold f_X10_go_5 at hf
  refine z_iload_n C dX10_go_5 rfl 1 rfl ?_
  refine z_bipush C dX10_go_6 (v := 60) (by decide) ?_
  exact z_icmp_le C dX10_go_8 (by decide) (fun h => z_sub [0, 1] rfl (b_X10_go_14 C hr hk z o0 x1 ho0 (q_t hf h))) (fun h => z_sub [] rfl (b_X10_go_11 C hr hk z (q_f hf h)))
def f_X10_go_0  (z : St) (o0 : Nat) (x1 : Int32) : Option (St × Int32) :=
  if x1 < 1 then f_X10_go_11 z else f_X10_go_5 z o0 x1
theorem b_X10_go_0 {p : Program} {l : Launch} {e : Env} {s : State} {m : MethodId} {args : Array Value} {below : List Frame} {meth : Method} {c : Code} {g : Ga} {A : Nat → Prop} (C : Cx l g A p s m args c cX10_go 3 RX10 (rm_X10_go) (0, 0)) (hr : meth.sig.returnType = (some .int)) (hk : meth.locks = false)   (z : St) (o0 : Nat) (x1 : Int32) (ho0 : kd o0 = 10) {res : St × Int32} (hf : f_X10_go_0  z o0 x1 = some res) : Zj p l e (rm_X10_go) s m args below meth c g A 3 (0, 0) (QI g A below args s res) z 0 [(0, .ref (g.1 o0)), (1, .int x1)] [] := by
  unfold f_X10_go_0 at hf
  refine z_iload_n C dX10_go_0 rfl 1 rfl ?_
  refine z_iconst C dX10_go_1 (v := 1) (by decide) ?_
  exact z_icmp_lt C dX10_go_2 (by decide) (fun h => z_sub [] rfl (b_X10_go_11 C hr hk z (q_t hf h))) (fun h => z_sub [0, 1] rfl (b_X10_go_5 C hr hk z o0 x1 ho0 (q_f hf h)))
def f_X10_go (z : St) (o0 : Nat) (x1 : Int32) : Option (St × Int32) := f_X10_go_0 z o0 x1
theorem c_X10_go {l : Launch} {g : Ga} {A : Nat → Prop} {z : St} {o0 : Nat} {x1 : Int32} (ho0 : kd o0 = 10) {res : St × Int32} (hf : f_X10_go z o0 x1 = some res) : CI l g A yX10_go cX10_go 3 (some .int) rm_X10_go [.ref (g.1 o0), .int x1] z res :=
  e_CI (by decide) (Nat.le_of_ble_eq_true rfl) rfl (fun p e s m args below meth c C hr hk => z_sub [0, 1] rfl (b_X10_go_0 C hr hk z o0 x1 ho0 hf))
abbrev rm_X10_bench : Room := { frames := 0, cells := 0, slots := 0, locals := 0 }
def f_X10_bench_32  (z : St) (o0 : Nat) : Option (St × Int32) :=
  some (z, z.1 (rf o0 12) 1)
theorem b_X10_bench_32 {p : Program} {l : Launch} {e : Env} {s : State} {m : MethodId} {args : Array Value} {below : List Frame} {meth : Method} {c : Code} {g : Ga} {A : Nat → Prop} (C : Cx l g A p s m args c cX10_bench 2 RX10 (rm_X10_bench) (0, 0)) (hr : meth.sig.returnType = (some .int)) (hk : meth.locks = false)   (z : St) (o0 : Nat) (ho0 : kd o0 = 10) {res : St × Int32} (hf : f_X10_bench_32  z o0 = some res) : Zj p l e (rm_X10_bench) s m args below meth c g A 2 (0, 0) (QI g A below args s res) z 32 [(0, .ref (g.1 o0))] [] := by
  unfold f_X10_bench_32 at hf
  refine z_aload_n C dX10_bench_32 rfl 0 rfl ?_
  refine gf_X10_80 C dX10_bench_33 ho0 ?_
  refine gf_X10_289 C dX10_bench_36 (rt_10_12 _ (kd_lt ho0 (by decide)) ho0) ?_
  cases hf
  exact z_iret C hr hk dX10_bench_39
def f_X10_bench_40  (z : St) (o0 : Nat) : Option (St × Int32) :=
  some (z, z.1 (rf o0 12) 2)
theorem b_X10_bench_40 {p : Program} {l : Launch} {e : Env} {s : State} {m : MethodId} {args : Array Value} {below : List Frame} {meth : Method} {c : Code} {g : Ga} {A : Nat → Prop} (C : Cx l g A p s m args c cX10_bench 2 RX10 (rm_X10_bench) (0, 0)) (hr : meth.sig.returnType = (some .int)) (hk : meth.locks = false)   (z : St) (o0 : Nat) (ho0 : kd o0 = 10) {res : St × Int32} (hf : f_X10_bench_40  z o0 = some res) : Zj p l e (rm_X10_bench) s m args below meth c g A 2 (0, 0) (QI g A below args s res) z 40 [(0, .ref (g.1 o0))] [] := by
  unfold f_X10_bench_40 at hf
  refine z_aload_n C dX10_bench_40 rfl 0 rfl ?_
  refine gf_X10_80 C dX10_bench_41 ho0 ?_
  refine gf_X10_295 C dX10_bench_44 (rt_10_12 _ (kd_lt ho0 (by decide)) ho0) ?_
  cases hf
  exact z_iret C hr hk dX10_bench_47
def f_X10_bench_48  (z : St) (o0 : Nat) : Option (St × Int32) :=
  some (z, z.1 (rf o0 12) 5)
theorem b_X10_bench_48 {p : Program} {l : Launch} {e : Env} {s : State} {m : MethodId} {args : Array Value} {below : List Frame} {meth : Method} {c : Code} {g : Ga} {A : Nat → Prop} (C : Cx l g A p s m args c cX10_bench 2 RX10 (rm_X10_bench) (0, 0)) (hr : meth.sig.returnType = (some .int)) (hk : meth.locks = false)   (z : St) (o0 : Nat) (ho0 : kd o0 = 10) {res : St × Int32} (hf : f_X10_bench_48  z o0 = some res) : Zj p l e (rm_X10_bench) s m args below meth c g A 2 (0, 0) (QI g A below args s res) z 48 [(0, .ref (g.1 o0))] [] := by
  unfold f_X10_bench_48 at hf
  refine z_aload_n C dX10_bench_48 rfl 0 rfl ?_
  refine gf_X10_80 C dX10_bench_49 ho0 ?_
  refine gf_X10_298 C dX10_bench_52 (rt_10_12 _ (kd_lt ho0 (by decide)) ho0) ?_
  cases hf
  exact z_iret C hr hk dX10_bench_55
def f_X10_bench_56  (z : St) (o0 : Nat) : Option (St × Int32) :=
  some (z, z.1 (rf o0 12) 6)
theorem b_X10_bench_56 {p : Program} {l : Launch} {e : Env} {s : State} {m : MethodId} {args : Array Value} {below : List Frame} {meth : Method} {c : Code} {g : Ga} {A : Nat → Prop} (C : Cx l g A p s m args c cX10_bench 2 RX10 (rm_X10_bench) (0, 0)) (hr : meth.sig.returnType = (some .int)) (hk : meth.locks = false)   (z : St) (o0 : Nat) (ho0 : kd o0 = 10) {res : St × Int32} (hf : f_X10_bench_56  z o0 = some res) : Zj p l e (rm_X10_bench) s m args below meth c g A 2 (0, 0) (QI g A below args s res) z 56 [(0, .ref (g.1 o0))] [] := by
  unfold f_X10_bench_56 at hf
  refine z_aload_n C dX10_bench_56 rfl 0 rfl ?_
  refine gf_X10_80 C dX10_bench_57 ho0 ?_
  refine gf_X10_301 C dX10_bench_60 (rt_10_12 _ (kd_lt ho0 (by decide)) ho0) ?_
  cases hf
  exact z_iret C hr hk dX10_bench_63
def f_X10_bench_64  (z : St)  : Option (St × Int32) :=
  some (z, (-2))
theorem b_X10_bench_64 {p : Program} {l : Launch} {e : Env} {s : State} {m : MethodId} {args : Array Value} {below : List Frame} {meth : Method} {c : Code} {g : Ga} {A : Nat → Prop} (C : Cx l g A p s m args c cX10_bench 2 RX10 (rm_X10_bench) (0, 0)) (hr : meth.sig.returnType = (some .int)) (hk : meth.locks = false)   (z : St)   {res : St × Int32} (hf : f_X10_bench_64  z  = some res) : Zj p l e (rm_X10_bench) s m args below meth c g A 2 (0, 0) (QI g A below args s res) z 64 [] [] := by
  unfold f_X10_bench_64 at hf
  refine z_bipush C dX10_bench_64 (v := (-2)) (by decide) ?_
  cases hf
  exact z_iret C hr hk dX10_bench_66
def f_X10_bench_0  (z : St) (o0 : Nat) (x1 : Int32) : Option (St × Int32) :=
  if x1 = 0 then f_X10_bench_32 z o0 else if x1 = 1 then f_X10_bench_40 z o0 else if x1 = 2 then f_X10_bench_48 z o0 else if x1 = 3 then f_X10_bench_56 z o0 else f_X10_bench_64 z
theorem b_X10_bench_0 {p : Program} {l : Launch} {e : Env} {s : State} {m : MethodId} {args : Array Value} {below : List Frame} {meth : Method} {c : Code} {g : Ga} {A : Nat → Prop} (C : Cx l g A p s m args c cX10_bench 2 RX10 (rm_X10_bench) (0, 0)) (hr : meth.sig.returnType = (some .int)) (hk : meth.locks = false)   (z : St) (o0 : Nat) (x1 : Int32) (ho0 : kd o0 = 10) {res : St × Int32} (hf : f_X10_bench_0  z o0 x1 = some res) : Zj p l e (rm_X10_bench) s m args below meth c g A 2 (0, 0) (QI g A below args s res) z 0 [(0, .ref (g.1 o0)), (1, .int x1)] [] := by
  unfold f_X10_bench_0 at hf
  refine z_iload_n C dX10_bench_0 rfl 1 rfl ?_
  by_cases h1 : x1 = 0
  · exact z_tblK C dX10_bench_1 (k := 0) h1 (by decide) (by decide) (off := 31) (by decide) (by decide) (z_sub [0] rfl (b_X10_bench_32 C hr hk z o0 ho0 (q_t hf h1)))
  replace hf := q_f hf h1
  by_cases h2 : x1 = 1
  · exact z_tblK C dX10_bench_1 (k := 1) h2 (by decide) (by decide) (off := 39) (by decide) (by decide) (z_sub [0] rfl (b_X10_bench_40 C hr hk z o0 ho0 (q_t hf h2)))
  replace hf := q_f hf h2
  by_cases h3 : x1 = 2
  · exact z_tblK C dX10_bench_1 (k := 2) h3 (by decide) (by decide) (off := 47) (by decide) (by decide) (z_sub [0] rfl (b_X10_bench_48 C hr hk z o0 ho0 (q_t hf h3)))
  replace hf := q_f hf h3
  by_cases h4 : x1 = 3
  · exact z_tblK C dX10_bench_1 (k := 3) h4 (by decide) (by decide) (off := 55) (by decide) (by decide) (z_sub [0] rfl (b_X10_bench_56 C hr hk z o0 ho0 (q_t hf h4)))
  replace hf := q_f hf h4
  exact z_tblOut C dX10_bench_1 (tbl_out (lo := 0) (hi := 3) (fun k q1 q2 => by
    rcases (show k = 0 ∨ k = 1 ∨ k = 2 ∨ k = 3 by omega) with rfl | rfl | rfl | rfl
    · exact fun e => h1 (e.symm.trans (by decide))
    · exact fun e => h2 (e.symm.trans (by decide))
    · exact fun e => h3 (e.symm.trans (by decide))
    · exact fun e => h4 (e.symm.trans (by decide)))) (by decide) (z_sub [] rfl (b_X10_bench_64 C hr hk z hf))
def f_X10_bench (z : St) (o0 : Nat) (x1 : Int32) : Option (St × Int32) := f_X10_bench_0 z o0 x1
theorem c_X10_bench {l : Launch} {g : Ga} {A : Nat → Prop} {z : St} {o0 : Nat} {x1 : Int32} (ho0 : kd o0 = 10) {res : St × Int32} (hf : f_X10_bench z o0 x1 = some res) : CI l g A yX10_bench cX10_bench 2 (some .int) rm_X10_bench [.ref (g.1 o0), .int x1] z res :=
  e_CI (by decide) (Nat.le_of_ble_eq_true rfl) rfl (fun p e s m args below meth c C hr hk => z_sub [0, 1] rfl (b_X10_bench_0 C hr hk z o0 x1 ho0 hf))
abbrev rm_X10_began : Room := { frames := 1, cells := 0, slots := 0, locals := 21 }
def f_X10_began_11  (z : St)  : Option (St × Int32) :=
  some (z, (-2))
theorem b_X10_began_11 {p : Program} {l : Launch} {e : Env} {s : State} {m : MethodId} {args : Array Value} {below : List Frame} {meth : Method} {c : Code} {g : Ga} {A : Nat → Prop} (C : Cx l g A p s m args c cX10_began 2 RX10 (rm_X10_began) (0, 0)) (hr : meth.sig.returnType = (some .int)) (hk : meth.locks = false)   (z : St)   {res : St × Int32} (hf : f_X10_began_11  z  = some res) : Zj p l e (rm_X10_began) s m args below meth c g A 2 (0, 0) (QI g A below args s res) z 11 [] [] := by
  unfold f_X10_began_11 at hf
  refine z_bipush C dX10_began_11 (v := (-2)) (by decide) ?_
  cases hf
  exact z_iret C hr hk dX10_began_13
def f_X10_began_14  (z : St) (o0 : Nat) (x1 : Int32) : Option (St × Int32) :=
  ((f_X9_hourOf z (rf o0 12) x1).bind fun r1 => some (r1.1, r1.2))
theorem b_X10_began_14 {p : Program} {l : Launch} {e : Env} {s : State} {m : MethodId} {args : Array Value} {below : List Frame} {meth : Method} {c : Code} {g : Ga} {A : Nat → Prop} (C : Cx l g A p s m args c cX10_began 2 RX10 (rm_X10_began) (0, 0)) (hr : meth.sig.returnType = (some .int)) (hk : meth.locks = false)   (z : St) (o0 : Nat) (x1 : Int32) (ho0 : kd o0 = 10) {res : St × Int32} (hf : f_X10_began_14  z o0 x1 = some res) : Zj p l e (rm_X10_began) s m args below meth c g A 2 (0, 0) (QI g A below args s res) z 14 [(0, .ref (g.1 o0)), (1, .int x1)] [] := by
  unfold f_X10_began_14 at hf
  refine z_aload_n C dX10_began_14 rfl 0 rfl ?_
  refine gf_X10_80 C dX10_began_15 ho0 ?_
  refine z_iload_n C dX10_began_18 rfl 1 rfl ?_
  obtain ⟨r1, hc2, hf⟩ := q_bd hf
  refine z_cVi C (st := []) (c_X9_hourOf (rt_10_12 _ (kd_lt ho0 (by decide)) ho0) hc2) mw_X9_hourOf ml_X10_302 (rt_10_12 _ (kd_lt ho0 (by decide)) ho0) (by decide) rfl dX10_began_19 rfl rfl rfl ⟨Nat.le_of_ble_eq_true rfl, Nat.le_of_ble_eq_true rfl⟩ rfl (Nat.le_of_ble_eq_true rfl) ?_
  cases hf
  exact z_iret C hr hk dX10_began_22
def f_X10_began_0  (z : St) (o0 : Nat) (x1 : Int32) : Option (St × Int32) :=
  ((f_X2_holds z (rf o0 0) x1).bind fun r1 => if r1.2 = 0 then f_X10_began_11 r1.1 else f_X10_began_14 r1.1 o0 x1)
theorem b_X10_began_0 {p : Program} {l : Launch} {e : Env} {s : State} {m : MethodId} {args : Array Value} {below : List Frame} {meth : Method} {c : Code} {g : Ga} {A : Nat → Prop} (C : Cx l g A p s m args c cX10_began 2 RX10 (rm_X10_began) (0, 0)) (hr : meth.sig.returnType = (some .int)) (hk : meth.locks = false)   (z : St) (o0 : Nat) (x1 : Int32) (ho0 : kd o0 = 10) {res : St × Int32} (hf : f_X10_began_0  z o0 x1 = some res) : Zj p l e (rm_X10_began) s m args below meth c g A 2 (0, 0) (QI g A below args s res) z 0 [(0, .ref (g.1 o0)), (1, .int x1)] [] := by
  unfold f_X10_began_0 at hf
  refine z_aload_n C dX10_began_0 rfl 0 rfl ?_
  refine gf_X10_10 C dX10_began_1 ho0 ?_
  refine z_iload_n C dX10_began_4 rfl 1 rfl ?_
  obtain ⟨r1, hc2, hf⟩ := q_bd hf
  refine z_cVi C (st := []) (c_X2_holds (rt_10_0 _ (kd_lt ho0 (by decide)) ho0) hc2) mw_X2_holds ml_X10_129 (rt_10_0 _ (kd_lt ho0 (by decide)) ho0) (by decide) rfl dX10_began_5 rfl rfl rfl ⟨Nat.le_of_ble_eq_true rfl, Nat.le_of_ble_eq_true rfl⟩ rfl (Nat.le_of_ble_eq_true rfl) ?_
  exact z_if_ne C dX10_began_8 (by decide) (fun h => z_sub [0, 1] rfl (b_X10_began_14 C hr hk r1.1 o0 x1 ho0 (q_f hf h))) (fun h => z_sub [] rfl (b_X10_began_11 C hr hk r1.1 (q_t hf h)))
def f_X10_began (z : St) (o0 : Nat) (x1 : Int32) : Option (St × Int32) := f_X10_began_0 z o0 x1
theorem c_X10_began {l : Launch} {g : Ga} {A : Nat → Prop} {z : St} {o0 : Nat} {x1 : Int32} (ho0 : kd o0 = 10) {res : St × Int32} (hf : f_X10_began z o0 x1 = some res) : CI l g A yX10_began cX10_began 2 (some .int) rm_X10_began [.ref (g.1 o0), .int x1] z res :=
  e_CI (by decide) (Nat.le_of_ble_eq_true rfl) rfl (fun p e s m args below meth c C hr hk => z_sub [0, 1] rfl (b_X10_began_0 C hr hk z o0 x1 ho0 hf))
abbrev rm_X10_image : Room := { frames := 5, cells := 0, slots := 0, locals := 112 }
def f_X10_image_0  (z : St) (o0 : Nat) : Option (St × Int32) :=
  ((f_X2_becomeAs z (rf o0 1) (rf o0 0)).bind fun r1 => some (zI r1 o0 14 1, (zI r1 o0 14 1).1 (rf o0 1) 1))
theorem b_X10_image_0 {p : Program} {l : Launch} {e : Env} {s : State} {m : MethodId} {args : Array Value} {below : List Frame} {meth : Method} {c : Code} {g : Ga} {A : Nat → Prop} (C : Cx l g A p s m args c cX10_image 1 RX10 (rm_X10_image) (0, 0)) (hr : meth.sig.returnType = (some .int)) (hk : meth.locks = false)   (z : St) (o0 : Nat) (ho0 : kd o0 = 10) {res : St × Int32} (hf : f_X10_image_0  z o0 = some res) : Zj p l e (rm_X10_image) s m args below meth c g A 1 (0, 0) (QI g A below args s res) z 0 [(0, .ref (g.1 o0))] [] := by
  unfold f_X10_image_0 at hf
  refine z_aload_n C dX10_image_0 rfl 0 rfl ?_
  refine gf_X10_16 C dX10_image_1 ho0 ?_
  refine z_aload_n C dX10_image_4 rfl 0 rfl ?_
  refine gf_X10_10 C dX10_image_5 ho0 ?_
  obtain ⟨r1, hc2, hf⟩ := q_bd hf
  refine z_cVv C (st := []) (c_X2_becomeAs (rt_10_1 _ (kd_lt ho0 (by decide)) ho0) (rt_10_0 _ (kd_lt ho0 (by decide)) ho0) hc2) mw_X2_becomeAs ml_X10_305 (rt_10_1 _ (kd_lt ho0 (by decide)) ho0) (by decide) rfl dX10_image_8 rfl rfl rfl ⟨Nat.le_of_ble_eq_true rfl, Nat.le_of_ble_eq_true rfl⟩ rfl (Nat.le_of_ble_eq_true rfl) ?_
  refine z_aload_n C dX10_image_11 rfl 0 rfl ?_
  refine z_iconst C dX10_image_12 (v := 1) (by decide) ?_
  refine pf_X10_307 C dX10_image_13 ho0 rfl rfl ?_
  refine z_aload_n C dX10_image_16 rfl 0 rfl ?_
  refine gf_X10_16 C dX10_image_17 ho0 ?_
  refine gf_X10_113 C dX10_image_20 (rt_10_1 _ (kd_lt ho0 (by decide)) ho0) ?_
  cases hf
  exact z_iret C hr hk dX10_image_23
def f_X10_image (z : St) (o0 : Nat) : Option (St × Int32) := f_X10_image_0 z o0
theorem c_X10_image {l : Launch} {g : Ga} {A : Nat → Prop} {z : St} {o0 : Nat} (ho0 : kd o0 = 10) {res : St × Int32} (hf : f_X10_image z o0 = some res) : CI l g A yX10_image cX10_image 1 (some .int) rm_X10_image [.ref (g.1 o0)] z res :=
  e_CI (by decide) (Nat.le_of_ble_eq_true rfl) rfl (fun p e s m args below meth c C hr hk => z_sub [0] rfl (b_X10_image_0 C hr hk z o0 ho0 hf))
abbrev rm_X10_back : Room := { frames := 6, cells := 0, slots := 0, locals := 132 }
def f_X10_back_7  (z : St)  : Option (St × Int32) :=
  some (z, (-3))
theorem b_X10_back_7 {p : Program} {l : Launch} {e : Env} {s : State} {m : MethodId} {args : Array Value} {below : List Frame} {meth : Method} {c : Code} {g : Ga} {A : Nat → Prop} (C : Cx l g A p s m args c cX10_back 1 RX10 (rm_X10_back) (0, 0)) (hr : meth.sig.returnType = (some .int)) (hk : meth.locks = false)   (z : St)   {res : St × Int32} (hf : f_X10_back_7  z  = some res) : Zj p l e (rm_X10_back) s m args below meth c g A 1 (0, 0) (QI g A below args s res) z 7 [] [] := by
  unfold f_X10_back_7 at hf
  refine z_bipush C dX10_back_7 (v := (-3)) (by decide) ?_
  cases hf
  exact z_iret C hr hk dX10_back_9
def f_X10_back_10  (z : St) (o0 : Nat) : Option (St × Int32) :=
  ((f_X2_becomeAs z (rf o0 0) (rf o0 1)).bind fun r1 => ((f_X10_tellAnew r1 o0).bind fun r3 => some (r3, r3.1 (rf o0 0) 1)))
theorem b_X10_back_10 {p : Program} {l : Launch} {e : Env} {s : State} {m : MethodId} {args : Array Value} {below : List Frame} {meth : Method} {c : Code} {g : Ga} {A : Nat → Prop} (C : Cx l g A p s m args c cX10_back 1 RX10 (rm_X10_back) (0, 0)) (hr : meth.sig.returnType = (some .int)) (hk : meth.locks = false)   (z : St) (o0 : Nat) (ho0 : kd o0 = 10) {res : St × Int32} (hf : f_X10_back_10  z o0 = some res) : Zj p l e (rm_X10_back) s m args below meth c g A 1 (0, 0) (QI g A below args s res) z 10 [(0, .ref (g.1 o0))] [] := by
  unfold f_X10_back_10 at hf
  refine z_aload_n C dX10_back_10 rfl 0 rfl ?_
  refine gf_X10_10 C dX10_back_11 ho0 ?_
  refine z_aload_n C dX10_back_14 rfl 0 rfl ?_
  refine gf_X10_16 C dX10_back_15 ho0 ?_
  obtain ⟨r1, hc2, hf⟩ := q_bd hf
  refine z_cVv C (st := []) (c_X2_becomeAs (rt_10_0 _ (kd_lt ho0 (by decide)) ho0) (rt_10_1 _ (kd_lt ho0 (by decide)) ho0) hc2) mw_X2_becomeAs ml_X10_305 (rt_10_0 _ (kd_lt ho0 (by decide)) ho0) (by decide) rfl dX10_back_18 rfl rfl rfl ⟨Nat.le_of_ble_eq_true rfl, Nat.le_of_ble_eq_true rfl⟩ rfl (Nat.le_of_ble_eq_true rfl) ?_
  refine z_aload_n C dX10_back_21 rfl 0 rfl ?_
  obtain ⟨r3, hc4, hf⟩ := q_bd hf
  refine z_cVv C (st := []) (c_X10_tellAnew ho0 hc4) mw_X10_tellAnew ml_X10_119 ho0 (by decide) rfl dX10_back_22 rfl rfl rfl ⟨Nat.le_of_ble_eq_true rfl, Nat.le_of_ble_eq_true rfl⟩ rfl (Nat.le_of_ble_eq_true rfl) ?_
  refine z_aload_n C dX10_back_25 rfl 0 rfl ?_
  refine gf_X10_10 C dX10_back_26 ho0 ?_
  refine gf_X10_113 C dX10_back_29 (rt_10_0 _ (kd_lt ho0 (by decide)) ho0) ?_
  cases hf
  exact z_iret C hr hk dX10_back_32
def f_X10_back_0  (z : St) (o0 : Nat) : Option (St × Int32) :=
  if (z.1 o0 14) = 0 then f_X10_back_7 z else f_X10_back_10 z o0
theorem b_X10_back_0 {p : Program} {l : Launch} {e : Env} {s : State} {m : MethodId} {args : Array Value} {below : List Frame} {meth : Method} {c : Code} {g : Ga} {A : Nat → Prop} (C : Cx l g A p s m args c cX10_back 1 RX10 (rm_X10_back) (0, 0)) (hr : meth.sig.returnType = (some .int)) (hk : meth.locks = false)   (z : St) (o0 : Nat) (ho0 : kd o0 = 10) {res : St × Int32} (hf : f_X10_back_0  z o0 = some res) : Zj p l e (rm_X10_back) s m args below meth c g A 1 (0, 0) (QI g A below args s res) z 0 [(0, .ref (g.1 o0))] [] := by
  unfold f_X10_back_0 at hf
  refine z_aload_n C dX10_back_0 rfl 0 rfl ?_
  refine gf_X10_307 C dX10_back_1 ho0 ?_
  exact z_if_ne C dX10_back_4 (by decide) (fun h => z_sub [0] rfl (b_X10_back_10 C hr hk z o0 ho0 (q_f hf h))) (fun h => z_sub [] rfl (b_X10_back_7 C hr hk z (q_t hf h)))
def f_X10_back (z : St) (o0 : Nat) : Option (St × Int32) := f_X10_back_0 z o0
theorem c_X10_back {l : Launch} {g : Ga} {A : Nat → Prop} {z : St} {o0 : Nat} (ho0 : kd o0 = 10) {res : St × Int32} (hf : f_X10_back z o0 = some res) : CI l g A yX10_back cX10_back 1 (some .int) rm_X10_back [.ref (g.1 o0)] z res :=
  e_CI (by decide) (Nat.le_of_ble_eq_true rfl) rfl (fun p e s m args below meth c C hr hk => z_sub [0] rfl (b_X10_back_0 C hr hk z o0 ho0 hf))
abbrev rm_X10_count : Room := { frames := 2, cells := 0, slots := 0, locals := 43 }
def f_X10_count_28  (z : St) (o0 : Nat) : Option (St × Int32) :=
  some (z, z.1 (rf o0 0) 1)
theorem b_X10_count_28 {p : Program} {l : Launch} {e : Env} {s : State} {m : MethodId} {args : Array Value} {below : List Frame} {meth : Method} {c : Code} {g : Ga} {A : Nat → Prop} (C : Cx l g A p s m args c cX10_count 2 RX10 (rm_X10_count) (0, 0)) (hr : meth.sig.returnType = (some .int)) (hk : meth.locks = false)   (z : St) (o0 : Nat) (ho0 : kd o0 = 10) {res : St × Int32} (hf : f_X10_count_28  z o0 = some res) : Zj p l e (rm_X10_count) s m args below meth c g A 2 (0, 0) (QI g A below args s res) z 28 [(0, .ref (g.1 o0))] [] := by
  unfold f_X10_count_28 at hf
  refine z_aload_n C dX10_count_28 rfl 0 rfl ?_
  refine gf_X10_10 C dX10_count_29 ho0 ?_
  refine gf_X10_113 C dX10_count_32 (rt_10_0 _ (kd_lt ho0 (by decide)) ho0) ?_
  cases hf
  exact z_iret C hr hk dX10_count_35
def f_X10_count_36  (z : St) (o0 : Nat) : Option (St × Int32) :=
  ((f_X4_takesOfAll z (rf o0 4)).bind fun r1 => some (r1.1, r1.2))
theorem b_X10_count_36 {p : Program} {l : Launch} {e : Env} {s : State} {m : MethodId} {args : Array Value} {below : List Frame} {meth : Method} {c : Code} {g : Ga} {A : Nat → Prop} (C : Cx l g A p s m args c cX10_count 2 RX10 (rm_X10_count) (0, 0)) (hr : meth.sig.returnType = (some .int)) (hk : meth.locks = false)   (z : St) (o0 : Nat) (ho0 : kd o0 = 10) {res : St × Int32} (hf : f_X10_count_36  z o0 = some res) : Zj p l e (rm_X10_count) s m args below meth c g A 2 (0, 0) (QI g A below args s res) z 36 [(0, .ref (g.1 o0))] [] := by
  unfold f_X10_count_36 at hf
  refine z_aload_n C dX10_count_36 rfl 0 rfl ?_
  refine gf_X10_32 C dX10_count_37 ho0 ?_
  obtain ⟨r1, hc2, hf⟩ := q_bd hf
  refine z_cVi C (st := []) (c_X4_takesOfAll (rt_10_4 _ (kd_lt ho0 (by decide)) ho0) hc2) mw_X4_takesOfAll ml_X10_311 (rt_10_4 _ (kd_lt ho0 (by decide)) ho0) (by decide) rfl dX10_count_40 rfl rfl rfl ⟨Nat.le_of_ble_eq_true rfl, Nat.le_of_ble_eq_true rfl⟩ rfl (Nat.le_of_ble_eq_true rfl) ?_
  cases hf
  exact z_iret C hr hk dX10_count_43
def f_X10_count_44  (z : St) (o0 : Nat) : Option (St × Int32) :=
  some (z, z.1 (rf o0 3) 1)
theorem b_X10_count_44 {p : Program} {l : Launch} {e : Env} {s : State} {m : MethodId} {args : Array Value} {below : List Frame} {meth : Method} {c : Code} {g : Ga} {A : Nat → Prop} (C : Cx l g A p s m args c cX10_count 2 RX10 (rm_X10_count) (0, 0)) (hr : meth.sig.returnType = (some .int)) (hk : meth.locks = false)   (z : St) (o0 : Nat) (ho0 : kd o0 = 10) {res : St × Int32} (hf : f_X10_count_44  z o0 = some res) : Zj p l e (rm_X10_count) s m args below meth c g A 2 (0, 0) (QI g A below args s res) z 44 [(0, .ref (g.1 o0))] [] := by
  unfold f_X10_count_44 at hf
  refine z_aload_n C dX10_count_44 rfl 0 rfl ?_
  refine gf_X10_25 C dX10_count_45 ho0 ?_
  refine gf_X10_102 C dX10_count_48 (rt_10_3 _ (kd_lt ho0 (by decide)) ho0) ?_
  cases hf
  exact z_iret C hr hk dX10_count_51
def f_X10_count_52  (z : St)  : Option (St × Int32) :=
  some (z, (-2))
theorem b_X10_count_52 {p : Program} {l : Launch} {e : Env} {s : State} {m : MethodId} {args : Array Value} {below : List Frame} {meth : Method} {c : Code} {g : Ga} {A : Nat → Prop} (C : Cx l g A p s m args c cX10_count 2 RX10 (rm_X10_count) (0, 0)) (hr : meth.sig.returnType = (some .int)) (hk : meth.locks = false)   (z : St)   {res : St × Int32} (hf : f_X10_count_52  z  = some res) : Zj p l e (rm_X10_count) s m args below meth c g A 2 (0, 0) (QI g A below args s res) z 52 [] [] := by
  unfold f_X10_count_52 at hf
  refine z_bipush C dX10_count_52 (v := (-2)) (by decide) ?_
  cases hf
  exact z_iret C hr hk dX10_count_54
def f_X10_count_0  (z : St) (o0 : Nat) (x1 : Int32) : Option (St × Int32) :=
  if x1 = 0 then f_X10_count_28 z o0 else if x1 = 1 then f_X10_count_36 z o0 else if x1 = 2 then f_X10_count_44 z o0 else f_X10_count_52 z
theorem b_X10_count_0 {p : Program} {l : Launch} {e : Env} {s : State} {m : MethodId} {args : Array Value} {below : List Frame} {meth : Method} {c : Code} {g : Ga} {A : Nat → Prop} (C : Cx l g A p s m args c cX10_count 2 RX10 (rm_X10_count) (0, 0)) (hr : meth.sig.returnType = (some .int)) (hk : meth.locks = false)   (z : St) (o0 : Nat) (x1 : Int32) (ho0 : kd o0 = 10) {res : St × Int32} (hf : f_X10_count_0  z o0 x1 = some res) : Zj p l e (rm_X10_count) s m args below meth c g A 2 (0, 0) (QI g A below args s res) z 0 [(0, .ref (g.1 o0)), (1, .int x1)] [] := by
  unfold f_X10_count_0 at hf
  refine z_iload_n C dX10_count_0 rfl 1 rfl ?_
  by_cases h1 : x1 = 0
  · exact z_tblK C dX10_count_1 (k := 0) h1 (by decide) (by decide) (off := 27) (by decide) (by decide) (z_sub [0] rfl (b_X10_count_28 C hr hk z o0 ho0 (q_t hf h1)))
  replace hf := q_f hf h1
  by_cases h2 : x1 = 1
  · exact z_tblK C dX10_count_1 (k := 1) h2 (by decide) (by decide) (off := 35) (by decide) (by decide) (z_sub [0] rfl (b_X10_count_36 C hr hk z o0 ho0 (q_t hf h2)))
  replace hf := q_f hf h2
  by_cases h3 : x1 = 2
  · exact z_tblK C dX10_count_1 (k := 2) h3 (by decide) (by decide) (off := 43) (by decide) (by decide) (z_sub [0] rfl (b_X10_count_44 C hr hk z o0 ho0 (q_t hf h3)))
  replace hf := q_f hf h3
  exact z_tblOut C dX10_count_1 (tbl_out (lo := 0) (hi := 2) (fun k q1 q2 => by
    rcases (show k = 0 ∨ k = 1 ∨ k = 2 by omega) with rfl | rfl | rfl
    · exact fun e => h1 (e.symm.trans (by decide))
    · exact fun e => h2 (e.symm.trans (by decide))
    · exact fun e => h3 (e.symm.trans (by decide)))) (by decide) (z_sub [] rfl (b_X10_count_52 C hr hk z hf))
def f_X10_count (z : St) (o0 : Nat) (x1 : Int32) : Option (St × Int32) := f_X10_count_0 z o0 x1
theorem c_X10_count {l : Launch} {g : Ga} {A : Nat → Prop} {z : St} {o0 : Nat} {x1 : Int32} (ho0 : kd o0 = 10) {res : St × Int32} (hf : f_X10_count z o0 x1 = some res) : CI l g A yX10_count cX10_count 2 (some .int) rm_X10_count [.ref (g.1 o0), .int x1] z res :=
  e_CI (by decide) (Nat.le_of_ble_eq_true rfl) rfl (fun p e s m args below meth c C hr hk => z_sub [0, 1] rfl (b_X10_count_0 C hr hk z o0 x1 ho0 hf))
