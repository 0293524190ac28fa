abbrev rm_X11_follows : Room := { frames := 4, cells := 0, slots := 0, locals := 92 }
def f_X11_follows_25  (z : St)  : Option (St) :=
  some z
theorem b_X11_follows_25 {p : Program} {l : Launch} {e : Env} {s : State} {m : MethodId} {args : Array Value} {below : List Frame} {meth : Method} {c : Code} {g : Ga} {A : Nat → Prop} (C : Cx l g A p s m args c cX11_follows 1 RX11 (rm_X11_follows) (0, 0)) (hr : meth.sig.returnType = none) (hk : meth.locks = false)   (z : St)   {res : St} (hf : f_X11_follows_25  z  = some res) : Zj p l e (rm_X11_follows) s m args below meth c g A 1 (0, 0) (QV g A below args s res) z 25 [] [] := by
  unfold f_X11_follows_25 at hf
  cases hf
  exact z_vret C hr hk dX11_follows_25
def f_X11_follows_11  (z : St) (o0 : Nat) : Option (St) :=
  ((f_X11_visits (zI z o0 30 ((z.1 o0 30) + 1)) o0).bind fun r1 => f_X11_follows_25 r1)
theorem b_X11_follows_11 {p : Program} {l : Launch} {e : Env} {s : State} {m : MethodId} {args : Array Value} {below : List Frame} {meth : Method} {c : Code} {g : Ga} {A : Nat → Prop} (C : Cx l g A p s m args c cX11_follows 1 RX11 (rm_X11_follows) (0, 0)) (hr : meth.sig.returnType = none) (hk : meth.locks = false)   (z : St) (o0 : Nat) (ho0 : kd o0 = 11) {res : St} (hf : f_X11_follows_11  z o0 = some res) : Zj p l e (rm_X11_follows) s m args below meth c g A 1 (0, 0) (QV g A below args s res) z 11 [(0, .ref (g.1 o0))] [] := by
  unfold f_X11_follows_11 at hf
  refine z_aload_n C dX11_follows_11 rfl 0 rfl ?_
  refine z_dup C dX11_follows_12 rfl ?_
  refine gf_X11_265 C dX11_follows_13 ho0 ?_
  refine z_iconst C dX11_follows_16 (v := 1) (by decide) ?_
  refine z_iadd C dX11_follows_17 ?_
  refine pf_X11_265 C dX11_follows_18 ho0 ?_
  refine z_aload_n C dX11_follows_21 rfl 0 rfl ?_
  obtain ⟨r1, hc2, hf⟩ := q_bd hf
  refine z_cVv C (st := []) (c_X11_visits ho0 hc2) mw_X11_visits ml_X11_268 ho0 (by decide) rfl dX11_follows_22 rfl rfl rfl ⟨Nat.le_of_ble_eq_true rfl, Nat.le_of_ble_eq_true rfl⟩ rfl (Nat.le_of_ble_eq_true rfl) ?_
  exact z_sub [] rfl (b_X11_follows_25 C hr hk r1 hf)
def f_X11_follows_0  (z : St) (o0 : Nat) : Option (St) :=
  ((f_X11_breakingly z o0).bind fun r1 => if (r1.1.1 o0 27) ≤ r1.2 then f_X11_follows_25 r1.1 else f_X11_follows_11 r1.1 o0)
theorem b_X11_follows_0 {p : Program} {l : Launch} {e : Env} {s : State} {m : MethodId} {args : Array Value} {below : List Frame} {meth : Method} {c : Code} {g : Ga} {A : Nat → Prop} (C : Cx l g A p s m args c cX11_follows 1 RX11 (rm_X11_follows) (0, 0)) (hr : meth.sig.returnType = none) (hk : meth.locks = false)   (z : St) (o0 : Nat) (ho0 : kd o0 = 11) {res : St} (hf : f_X11_follows_0  z o0 = some res) : Zj p l e (rm_X11_follows) s m args below meth c g A 1 (0, 0) (QV g A below args s res) z 0 [(0, .ref (g.1 o0))] [] := by
  unfold f_X11_follows_0 at hf
  refine z_aload_n C dX11_follows_0 rfl 0 rfl ?_
  obtain ⟨r1, hc2, hf⟩ := q_bd hf
  refine z_cVi C (st := []) (c_X11_breakingly ho0 hc2) mw_X11_breakingly ml_X11_220 ho0 (by decide) rfl dX11_follows_1 rfl rfl rfl ⟨Nat.le_of_ble_eq_true rfl, Nat.le_of_ble_eq_true rfl⟩ rfl (Nat.le_of_ble_eq_true rfl) ?_
  refine z_aload_n C dX11_follows_4 rfl 0 rfl ?_
  refine gf_X11_259 C dX11_follows_5 ho0 ?_
  exact z_icmp_ge C dX11_follows_8 (by decide) (fun h => z_sub [] rfl (b_X11_follows_25 C hr hk r1.1 (q_t hf h))) (fun h => z_sub [0] rfl (b_X11_follows_11 C hr hk r1.1 o0 ho0 (q_f hf h)))
def f_X11_follows (z : St) (o0 : Nat) : Option (St) := f_X11_follows_0 z o0
theorem c_X11_follows {l : Launch} {g : Ga} {A : Nat → Prop} {z : St} {o0 : Nat} (ho0 : kd o0 = 11) {res : St} (hf : f_X11_follows z o0 = some res) : CV l g A yX11_follows cX11_follows 1 none rm_X11_follows [.ref (g.1 o0)] z res :=
  e_CV (by decide) (Nat.le_of_ble_eq_true rfl) rfl (fun p e s m args below meth c C hr hk => z_sub [0] rfl (b_X11_follows_0 C hr hk z o0 ho0 hf))
abbrev rm_X11_search : Room := { frames := 5, cells := 0, slots := 0, locals := 112 }
def f_X11_search_164 (K23 : St → Nat → Option (St)) (z : St) (o0 : Nat) : Option (St) :=
  K23 z o0
theorem b_X11_search_164 {p : Program} {l : Launch} {e : Env} {s : State} {m : MethodId} {args : Array Value} {below : List Frame} {meth : Method} {c : Code} {g : Ga} {A : Nat → Prop} (C : Cx l g A p s m args c cX11_search 3 RX11 (rm_X11_search) (0, 0)) (hr : meth.sig.returnType = none) (hk : meth.locks = false) {K23 : St → Nat → Option (St)} (hK23 : ∀ (z : St) (o0 : Nat) (_ : kd o0 = 11) {res : St}, K23 z o0 = some res → Zj p l e (rm_X11_search) s m args below meth c g A 3 (0, 0) (QV g A below args s res) z 23 [(0, .ref (g.1 o0))] []) (z : St) (o0 : Nat) (ho0 : kd o0 = 11) {res : St} (hf : f_X11_search_164 K23 z o0 = some res) : Zj p l e (rm_X11_search) s m args below meth c g A 3 (0, 0) (QV g A below args s res) z 164 [(0, .ref (g.1 o0))] [] := by
  unfold f_X11_search_164 at hf
  exact z_goto C dX11_search_164 (by decide) (z_sub [0] rfl (hK23 z o0 ho0 hf))
def f_X11_search_46 (K23 : St → Nat → Option (St)) (z : St) (o0 : Nat) : Option (St) :=
  f_X11_search_164 K23 (zI z o0 30 ((z.1 o0 30) - 1)) o0
theorem b_X11_search_46 {p : Program} {l : Launch} {e : Env} {s : State} {m : MethodId} {args : Array Value} {below : List Frame} {meth : Method} {c : Code} {g : Ga} {A : Nat → Prop} (C : Cx l g A p s m args c cX11_search 3 RX11 (rm_X11_search) (0, 0)) (hr : meth.sig.returnType = none) (hk : meth.locks = false) {K23 : St → Nat → Option (St)} (hK23 : ∀ (z : St) (o0 : Nat) (_ : kd o0 = 11) {res : St}, K23 z o0 = some res → Zj p l e (rm_X11_search) s m args below meth c g A 3 (0, 0) (QV g A below args s res) z 23 [(0, .ref (g.1 o0))] []) (z : St) (o0 : Nat) (ho0 : kd o0 = 11) {res : St} (hf : f_X11_search_46 K23 z o0 = some res) : Zj p l e (rm_X11_search) s m args below meth c g A 3 (0, 0) (QV g A below args s res) z 46 [(0, .ref (g.1 o0))] [] := by
  unfold f_X11_search_46 at hf
  refine z_aload_n C dX11_search_46 rfl 0 rfl ?_
  refine z_dup C dX11_search_47 rfl ?_
  refine gf_X11_265 C dX11_search_48 ho0 ?_
  refine z_iconst C dX11_search_51 (v := 1) (by decide) ?_
  refine z_isub C dX11_search_52 ?_
  refine pf_X11_265 C dX11_search_53 ho0 ?_
  exact z_goto C dX11_search_56 (by decide) (z_sub [0] rfl (b_X11_search_164 C hr hk hK23 (zI z o0 30 ((z.1 o0 30) - 1)) o0 ho0 hf))
def f_X11_search_68 (K23 : St → Nat → Option (St)) (z : St) (o0 : Nat) (x1 : Int32) (x2 : Int32) : Option (St) :=
  if inb x1 400 = true then (if inb x1 400 = true then (if inb x2 8 = true then (((f_X11_follows (zI (zI z (rf o0 32) (Int32.toNatClampNeg x1) 1) (rf o0 15) (Int32.toNatClampNeg x2) ((zI z (rf o0 32) (Int32.toNatClampNeg x1) 1).1 (rf o0 35) (Int32.toNatClampNeg x1))) o0).bind fun r4 => f_X11_search_164 K23 r4 o0)) else none) else none) else none
theorem b_X11_search_68 {p : Program} {l : Launch} {e : Env} {s : State} {m : MethodId} {args : Array Value} {below : List Frame} {meth : Method} {c : Code} {g : Ga} {A : Nat → Prop} (C : Cx l g A p s m args c cX11_search 3 RX11 (rm_X11_search) (0, 0)) (hr : meth.sig.returnType = none) (hk : meth.locks = false) {K23 : St → Nat → Option (St)} (hK23 : ∀ (z : St) (o0 : Nat) (_ : kd o0 = 11) {res : St}, K23 z o0 = some res → Zj p l e (rm_X11_search) s m args below meth c g A 3 (0, 0) (QV g A below args s res) z 23 [(0, .ref (g.1 o0))] []) (z : St) (o0 : Nat) (x1 : Int32) (x2 : Int32) (ho0 : kd o0 = 11) {res : St} (hf : f_X11_search_68 K23 z o0 x1 x2 = some res) : Zj p l e (rm_X11_search) s m args below meth c g A 3 (0, 0) (QV g A below args s res) z 68 [(0, .ref (g.1 o0)), (1, .int x1), (2, .int x2)] [] := by
  unfold f_X11_search_68 at hf
  refine z_aload_n C dX11_search_68 rfl 0 rfl ?_
  refine gf_X11_52 C dX11_search_69 ho0 ?_
  refine z_iload_n C dX11_search_72 rfl 1 rfl ?_
  refine z_iconst C dX11_search_73 (v := 1) (by decide) ?_
  obtain ⟨h1, hf⟩ := q_ck hf
  refine z_iast C (n := 400) dX11_search_74 (rt_11_32 _ (kd_lt ho0 (by decide)) ho0) (by decide) h1 ?_
  refine z_aload_n C dX11_search_75 rfl 0 rfl ?_
  refine gf_X11_34 C dX11_search_76 ho0 ?_
  refine z_iload_n C dX11_search_79 rfl 2 rfl ?_
  refine z_aload_n C dX11_search_80 rfl 0 rfl ?_
  refine gf_X11_61 C dX11_search_81 ho0 ?_
  refine z_iload_n C dX11_search_84 rfl 1 rfl ?_
  obtain ⟨h2, hf⟩ := q_ck hf
  refine z_iald C (n := 400) dX11_search_85 (rt_11_35 _ (kd_lt ho0 (by decide)) ho0) (by decide) h2 ?_
  obtain ⟨h3, hf⟩ := q_ck hf
  refine z_iast C (n := 8) dX11_search_86 (rt_11_15 _ (kd_lt ho0 (by decide)) ho0) (by decide) h3 ?_
  refine z_aload_n C dX11_search_87 rfl 0 rfl ?_
  obtain ⟨r4, hc5, hf⟩ := q_bd hf
  refine z_cVv C (st := []) (c_X11_follows ho0 hc5) mw_X11_follows ml_X11_271 ho0 (by decide) rfl dX11_search_88 rfl rfl rfl ⟨Nat.le_of_ble_eq_true rfl, Nat.le_of_ble_eq_true rfl⟩ rfl (Nat.le_of_ble_eq_true rfl) ?_
  exact z_goto C dX11_search_91 (by decide) (z_sub [0] rfl (b_X11_search_164 C hr hk hK23 r4 o0 ho0 hf))
def f_X11_search_104 (K23 : St → Nat → Option (St)) (z : St) (o0 : Nat) (x1 : Int32) (x2 : Int32) : Option (St) :=
  if inb x1 400 = true then (if inb x1 400 = true then (if inb x2 8 = true then (if inb x1 400 = true then (if inb x2 8 = true then (((f_X11_follows (zI (zI (zI z (rf o0 32) (Int32.toNatClampNeg x1) 2) (rf o0 15) (Int32.toNatClampNeg x2) ((zI z (rf o0 32) (Int32.toNatClampNeg x1) 2).1 (rf o0 33) (Int32.toNatClampNeg x1))) (rf o0 13) (Int32.toNatClampNeg x2) ((zI (zI z (rf o0 32) (Int32.toNatClampNeg x1) 2) (rf o0 15) (Int32.toNatClampNeg x2) ((zI z (rf o0 32) (Int32.toNatClampNeg x1) 2).1 (rf o0 33) (Int32.toNatClampNeg x1))).1 (rf o0 36) (Int32.toNatClampNeg x1))) o0).bind fun r6 => f_X11_search_164 K23 r6 o0)) else none) else none) else none) else none) else none
theorem b_X11_search_104 {p : Program} {l : Launch} {e : Env} {s : State} {m : MethodId} {args : Array Value} {below : List Frame} {meth : Method} {c : Code} {g : Ga} {A : Nat → Prop} (C : Cx l g A p s m args c cX11_search 3 RX11 (rm_X11_search) (0, 0)) (hr : meth.sig.returnType = none) (hk : meth.locks = false) {K23 : St → Nat → Option (St)} (hK23 : ∀ (z : St) (o0 : Nat) (_ : kd o0 = 11) {res : St}, K23 z o0 = some res → Zj p l e (rm_X11_search) s m args below meth c g A 3 (0, 0) (QV g A below args s res) z 23 [(0, .ref (g.1 o0))] []) (z : St) (o0 : Nat) (x1 : Int32) (x2 : Int32) (ho0 : kd o0 = 11) {res : St} (hf : f_X11_search_104 K23 z o0 x1 x2 = some res) : Zj p l e (rm_X11_search) s m args below meth c g A 3 (0, 0) (QV g A below args s res) z 104 [(0, .ref (g.1 o0)), (1, .int x1), (2, .int x2)] [] := by
  unfold f_X11_search_104 at hf
  refine z_aload_n C dX11_search_104 rfl 0 rfl ?_
  refine gf_X11_52 C dX11_search_105 ho0 ?_
  refine z_iload_n C dX11_search_108 rfl 1 rfl ?_
  refine z_iconst C dX11_search_109 (v := 2) (by decide) ?_
  obtain ⟨h1, hf⟩ := q_ck hf
  refine z_iast C (n := 400) dX11_search_110 (rt_11_32 _ (kd_lt ho0 (by decide)) ho0) (by decide) h1 ?_
  refine z_aload_n C dX11_search_111 rfl 0 rfl ?_
  refine gf_X11_34 C dX11_search_112 ho0 ?_
  refine z_iload_n C dX11_search_115 rfl 2 rfl ?_
  refine z_aload_n C dX11_search_116 rfl 0 rfl ?_
  refine gf_X11_55 C dX11_search_117 ho0 ?_
  refine z_iload_n C dX11_search_120 rfl 1 rfl ?_
  obtain ⟨h2, hf⟩ := q_ck hf
  refine z_iald C (n := 400) dX11_search_121 (rt_11_33 _ (kd_lt ho0 (by decide)) ho0) (by decide) h2 ?_
  obtain ⟨h3, hf⟩ := q_ck hf
  refine z_iast C (n := 8) dX11_search_122 (rt_11_15 _ (kd_lt ho0 (by decide)) ho0) (by decide) h3 ?_
  refine z_aload_n C dX11_search_123 rfl 0 rfl ?_
  refine gf_X11_28 C dX11_search_124 ho0 ?_
  refine z_iload_n C dX11_search_127 rfl 2 rfl ?_
  refine z_aload_n C dX11_search_128 rfl 0 rfl ?_
  refine gf_X11_64 C dX11_search_129 ho0 ?_
  refine z_iload_n C dX11_search_132 rfl 1 rfl ?_
  obtain ⟨h4, hf⟩ := q_ck hf
  refine z_iald C (n := 400) dX11_search_133 (rt_11_36 _ (kd_lt ho0 (by decide)) ho0) (by decide) h4 ?_
  obtain ⟨h5, hf⟩ := q_ck hf
  refine z_iast C (n := 8) dX11_search_134 (rt_11_13 _ (kd_lt ho0 (by decide)) ho0) (by decide) h5 ?_
  refine z_aload_n C dX11_search_135 rfl 0 rfl ?_
  obtain ⟨r6, hc7, hf⟩ := q_bd hf
  refine z_cVv C (st := []) (c_X11_follows ho0 hc7) mw_X11_follows ml_X11_271 ho0 (by decide) rfl dX11_search_136 rfl rfl rfl ⟨Nat.le_of_ble_eq_true rfl, Nat.le_of_ble_eq_true rfl⟩ rfl (Nat.le_of_ble_eq_true rfl) ?_
  exact z_goto C dX11_search_139 (by decide) (z_sub [0] rfl (b_X11_search_164 C hr hk hK23 r6 o0 ho0 hf))
def f_X11_search_142 (K23 : St → Nat → Option (St)) (z : St) (o0 : Nat) (x1 : Int32) (x2 : Int32) : Option (St) :=
  if inb x1 400 = true then (if inb x2 8 = true then (f_X11_search_164 K23 (zI (zI z (rf o0 13) (Int32.toNatClampNeg x2) (z.1 (rf o0 34) (Int32.toNatClampNeg x1))) o0 30 (((zI z (rf o0 13) (Int32.toNatClampNeg x2) (z.1 (rf o0 34) (Int32.toNatClampNeg x1))).1 o0 30) - 1)) o0) else none) else none
theorem b_X11_search_142 {p : Program} {l : Launch} {e : Env} {s : State} {m : MethodId} {args : Array Value} {below : List Frame} {meth : Method} {c : Code} {g : Ga} {A : Nat → Prop} (C : Cx l g A p s m args c cX11_search 3 RX11 (rm_X11_search) (0, 0)) (hr : meth.sig.returnType = none) (hk : meth.locks = false) {K23 : St → Nat → Option (St)} (hK23 : ∀ (z : St) (o0 : Nat) (_ : kd o0 = 11) {res : St}, K23 z o0 = some res → Zj p l e (rm_X11_search) s m args below meth c g A 3 (0, 0) (QV g A below args s res) z 23 [(0, .ref (g.1 o0))] []) (z : St) (o0 : Nat) (x1 : Int32) (x2 : Int32) (ho0 : kd o0 = 11) {res : St} (hf : f_X11_search_142 K23 z o0 x1 x2 = some res) : Zj p l e (rm_X11_search) s m args below meth c g A 3 (0, 0) (QV g A below args s res) z 142 [(0, .ref (g.1 o0)), (1, .int x1), (2, .int x2)] [] := by
  unfold f_X11_search_142 at hf
  refine z_aload_n C dX11_search_142 rfl 0 rfl ?_
  refine gf_X11_28 C dX11_search_143 ho0 ?_
  refine z_iload_n C dX11_search_146 rfl 2 rfl ?_
  refine z_aload_n C dX11_search_147 rfl 0 rfl ?_
  refine gf_X11_58 C dX11_search_148 ho0 ?_
  refine z_iload_n C dX11_search_151 rfl 1 rfl ?_
  obtain ⟨h1, hf⟩ := q_ck hf
  refine z_iald C (n := 400) dX11_search_152 (rt_11_34 _ (kd_lt ho0 (by decide)) ho0) (by decide) h1 ?_
  obtain ⟨h2, hf⟩ := q_ck hf
  refine z_iast C (n := 8) dX11_search_153 (rt_11_13 _ (kd_lt ho0 (by decide)) ho0) (by decide) h2 ?_
  refine z_aload_n C dX11_search_154 rfl 0 rfl ?_
  refine z_dup C dX11_search_155 rfl ?_
  refine gf_X11_265 C dX11_search_156 ho0 ?_
  refine z_iconst C dX11_search_159 (v := 1) (by decide) ?_
  refine z_isub C dX11_search_160 ?_
  refine pf_X11_265 C dX11_search_161 ho0 ?_
  exact z_sub [0] rfl (b_X11_search_164 C hr hk hK23 (zI (zI z (rf o0 13) (Int32.toNatClampNeg x2) (z.1 (rf o0 34) (Int32.toNatClampNeg x1))) o0 30 (((zI z (rf o0 13) (Int32.toNatClampNeg x2) (z.1 (rf o0 34) (Int32.toNatClampNeg x1))).1 o0 30) - 1)) o0 ho0 hf)
def f_X11_search_94 (K23 : St → Nat → Option (St)) (z : St) (o0 : Nat) (x1 : Int32) (x2 : Int32) : Option (St) :=
  if inb x1 400 = true then (if (z.1 (rf o0 32) (Int32.toNatClampNeg x1)) = 1 then f_X11_search_104 K23 z o0 x1 x2 else f_X11_search_142 K23 z o0 x1 x2) else none
theorem b_X11_search_94 {p : Program} {l : Launch} {e : Env} {s : State} {m : MethodId} {args : Array Value} {below : List Frame} {meth : Method} {c : Code} {g : Ga} {A : Nat → Prop} (C : Cx l g A p s m args c cX11_search 3 RX11 (rm_X11_search) (0, 0)) (hr : meth.sig.returnType = none) (hk : meth.locks = false) {K23 : St → Nat → Option (St)} (hK23 : ∀ (z : St) (o0 : Nat) (_ : kd o0 = 11) {res : St}, K23 z o0 = some res → Zj p l e (rm_X11_search) s m args below meth c g A 3 (0, 0) (QV g A below args s res) z 23 [(0, .ref (g.1 o0))] []) (z : St) (o0 : Nat) (x1 : Int32) (x2 : Int32) (ho0 : kd o0 = 11) {res : St} (hf : f_X11_search_94 K23 z o0 x1 x2 = some res) : Zj p l e (rm_X11_search) s m args below meth c g A 3 (0, 0) (QV g A below args s res) z 94 [(0, .ref (g.1 o0)), (1, .int x1), (2, .int x2)] [] := by
  unfold f_X11_search_94 at hf
  refine z_aload_n C dX11_search_94 rfl 0 rfl ?_
  refine gf_X11_52 C dX11_search_95 ho0 ?_
  refine z_iload_n C dX11_search_98 rfl 1 rfl ?_
  obtain ⟨h1, hf⟩ := q_ck hf
  refine z_iald C (n := 400) dX11_search_99 (rt_11_32 _ (kd_lt ho0 (by decide)) ho0) (by decide) h1 ?_
  refine z_iconst C dX11_search_100 (v := 1) (by decide) ?_
  exact z_icmp_ne C dX11_search_101 (by decide) (fun h => z_sub [0, 1, 2] rfl (b_X11_search_142 C hr hk hK23 z o0 x1 x2 ho0 (q_f hf h))) (fun h => z_sub [0, 1, 2] rfl (b_X11_search_104 C hr hk hK23 z o0 x1 x2 ho0 (q_t hf h)))
def f_X11_search_59 (K23 : St → Nat → Option (St)) (z : St) (o0 : Nat) (x1 : Int32) (x2 : Int32) : Option (St) :=
  if inb x1 400 = true then (if (z.1 (rf o0 32) (Int32.toNatClampNeg x1)) = 0 then f_X11_search_68 K23 z o0 x1 x2 else f_X11_search_94 K23 z o0 x1 x2) else none
theorem b_X11_search_59 {p : Program} {l : Launch} {e : Env} {s : State} {m : MethodId} {args : Array Value} {below : List Frame} {meth : Method} {c : Code} {g : Ga} {A : Nat → Prop} (C : Cx l g A p s m args c cX11_search 3 RX11 (rm_X11_search) (0, 0)) (hr : meth.sig.returnType = none) (hk : meth.locks = false) {K23 : St → Nat → Option (St)} (hK23 : ∀ (z : St) (o0 : Nat) (_ : kd o0 = 11) {res : St}, K23 z o0 = some res → Zj p l e (rm_X11_search) s m args below meth c g A 3 (0, 0) (QV g A below args s res) z 23 [(0, .ref (g.1 o0))] []) (z : St) (o0 : Nat) (x1 : Int32) (x2 : Int32) (ho0 : kd o0 = 11) {res : St} (hf : f_X11_search_59 K23 z o0 x1 x2 = some res) : Zj p l e (rm_X11_search) s m args below meth c g A 3 (0, 0) (QV g A below args s res) z 59 [(0, .ref (g.1 o0)), (1, .int x1), (2, .int x2)] [] := by
  unfold f_X11_search_59 at hf
  refine z_aload_n C dX11_search_59 rfl 0 rfl ?_
  refine gf_X11_52 C dX11_search_60 ho0 ?_
  refine z_iload_n C dX11_search_63 rfl 1 rfl ?_
  obtain ⟨h1, hf⟩ := q_ck hf
  refine z_iald C (n := 400) dX11_search_64 (rt_11_32 _ (kd_lt ho0 (by decide)) ho0) (by decide) h1 ?_
  exact z_if_ne C dX11_search_65 (by decide) (fun h => z_sub [0, 1, 2] rfl (b_X11_search_94 C hr hk hK23 z o0 x1 x2 ho0 (q_f hf h))) (fun h => z_sub [0, 1, 2] rfl (b_X11_search_68 C hr hk hK23 z o0 x1 x2 ho0 (q_t hf h)))
def f_X11_search_30 (K23 : St → Nat → Option (St)) (z : St) (o0 : Nat) : Option (St) :=
  if inb (z.1 o0 30) 400 = true then (if 0 ≤ (z.1 (rf o0 31) (Int32.toNatClampNeg (z.1 o0 30))) then f_X11_search_59 K23 z o0 (z.1 o0 30) (z.1 (rf o0 31) (Int32.toNatClampNeg (z.1 o0 30))) else f_X11_search_46 K23 z o0) else none
theorem b_X11_search_30 {p : Program} {l : Launch} {e : Env} {s : State} {m : MethodId} {args : Array Value} {below : List Frame} {meth : Method} {c : Code} {g : Ga} {A : Nat → Prop} (C : Cx l g A p s m args c cX11_search 3 RX11 (rm_X11_search) (0, 0)) (hr : meth.sig.returnType = none) (hk : meth.locks = false) {K23 : St → Nat → Option (St)} (hK23 : ∀ (z : St) (o0 : Nat) (_ : kd o0 = 11) {res : St}, K23 z o0 = some res → Zj p l e (rm_X11_search) s m args below meth c g A 3 (0, 0) (QV g A below args s res) z 23 [(0, .ref (g.1 o0))] []) (z : St) (o0 : Nat) (ho0 : kd o0 = 11) {res : St} (hf : f_X11_search_30 K23 z o0 = some res) : Zj p l e (rm_X11_search) s m args below meth c g A 3 (0, 0) (QV g A below args s res) z 30 [(0, .ref (g.1 o0))] [] := by
  unfold f_X11_search_30 at hf
  refine z_aload_n C dX11_search_30 rfl 0 rfl ?_
  refine gf_X11_265 C dX11_search_31 ho0 ?_
  refine z_istore_n C (lv2 := [(1, .int (z.1 o0 30)), (0, .ref (g.1 o0))]) dX11_search_34 rfl (by decide) rfl ?_
  refine z_aload_n C dX11_search_35 rfl 1 rfl ?_
  refine gf_X11_49 C dX11_search_36 ho0 ?_
  refine z_iload_n C dX11_search_39 rfl 0 rfl ?_
  obtain ⟨h1, hf⟩ := q_ck hf
  refine z_iald C (n := 400) dX11_search_40 (rt_11_31 _ (kd_lt ho0 (by decide)) ho0) (by decide) h1 ?_
  refine z_istore_n C (lv2 := [(2, .int (z.1 (rf o0 31) (Int32.toNatClampNeg (z.1 o0 30)))), (1, .int (z.1 o0 30)), (0, .ref (g.1 o0))]) dX11_search_41 rfl (by decide) rfl ?_
  refine z_iload_n C dX11_search_42 rfl 0 rfl ?_
  exact z_if_ge C dX11_search_43 (by decide) (fun h => z_sub [2, 1, 0] rfl (b_X11_search_59 C hr hk hK23 z o0 (z.1 o0 30) (z.1 (rf o0 31) (Int32.toNatClampNeg (z.1 o0 30))) ho0 (q_t hf h))) (fun h => z_sub [2] rfl (b_X11_search_46 C hr hk hK23 z o0 ho0 (q_f hf h)))
def f_X11_search_167  (z : St)  : Option (St) :=
  some z
theorem b_X11_search_167 {p : Program} {l : Launch} {e : Env} {s : State} {m : MethodId} {args : Array Value} {below : List Frame} {meth : Method} {c : Code} {g : Ga} {A : Nat → Prop} (C : Cx l g A p s m args c cX11_search 3 RX11 (rm_X11_search) (0, 0)) (hr : meth.sig.returnType = none) (hk : meth.locks = false)   (z : St)   {res : St} (hf : f_X11_search_167  z  = some res) : Zj p l e (rm_X11_search) s m args below meth c g A 3 (0, 0) (QV g A below args s res) z 167 [] [] := by
  unfold f_X11_search_167 at hf
  cases hf
  exact z_vret C hr hk dX11_search_167
def f_X11_search_23  : Nat → St → Nat → Option (St)
  | 0, _, _ => none
  | n + 1, z, o0 => if (z.1 o0 30) < 0 then f_X11_search_167 z else f_X11_search_30 (f_X11_search_23 n) z o0
theorem b_X11_search_23 {p : Program} {l : Launch} {e : Env} {s : State} {m : MethodId} {args : Array Value} {below : List Frame} {meth : Method} {c : Code} {g : Ga} {A : Nat → Prop} (C : Cx l g A p s m args c cX11_search 3 RX11 (rm_X11_search) (0, 0)) (hr : meth.sig.returnType = none) (hk : meth.locks = false)   : ∀ (n : Nat) (z : St) (o0 : Nat) (_ : kd o0 = 11) {res : St} (_ : f_X11_search_23  n z o0 = some res), Zj p l e (rm_X11_search) s m args below meth c g A 3 (0, 0) (QV g A below args s res) z 23 [(0, .ref (g.1 o0))] [] := by
  intro n
  induction n with
  | zero =>
    intro z o0 ho0 res hf
    cases hf
  | succ n ih =>
    intro z o0 ho0 res hf
    rw [f_X11_search_23] at hf
    refine z_aload_n C dX11_search_23 rfl 0 rfl ?_
    refine gf_X11_265 C dX11_search_24 ho0 ?_
    exact z_if_lt C dX11_search_27 (by decide) (fun h => z_sub [] rfl (b_X11_search_167 C hr hk z (q_t hf h))) (fun h => z_sub [0] rfl (b_X11_search_30 C hr hk ih z o0 ho0 (q_f hf h)))
def f_X11_search_0  (z : St) (o0 : Nat) : Option (St) :=
  ((f_X11_thinks z o0).bind fun r1 => ((f_X11_visits (zI (zI (zI r1 o0 27 ((-1))) o0 28 0) o0 30 0) o0).bind fun r3 => f_X11_search_23 FU r3 o0))
theorem b_X11_search_0 {p : Program} {l : Launch} {e : Env} {s : State} {m : MethodId} {args : Array Value} {below : List Frame} {meth : Method} {c : Code} {g : Ga} {A : Nat → Prop} (C : Cx l g A p s m args c cX11_search 3 RX11 (rm_X11_search) (0, 0)) (hr : meth.sig.returnType = none) (hk : meth.locks = false)   (z : St) (o0 : Nat) (ho0 : kd o0 = 11) {res : St} (hf : f_X11_search_0  z o0 = some res) : Zj p l e (rm_X11_search) s m args below meth c g A 3 (0, 0) (QV g A below args s res) z 0 [(0, .ref (g.1 o0))] [] := by
  unfold f_X11_search_0 at hf
  refine z_aload_n C dX11_search_0 rfl 0 rfl ?_
  obtain ⟨r1, hc2, hf⟩ := q_bd hf
  refine z_cVv C (st := []) (c_X11_thinks ho0 hc2) mw_X11_thinks ml_X11_205 ho0 (by decide) rfl dX11_search_1 rfl rfl rfl ⟨Nat.le_of_ble_eq_true rfl, Nat.le_of_ble_eq_true rfl⟩ rfl (Nat.le_of_ble_eq_true rfl) ?_
  refine z_aload_n C dX11_search_4 rfl 0 rfl ?_
  refine z_iconst C dX11_search_5 (v := (-1)) (by decide) ?_
  refine pf_X11_259 C dX11_search_6 ho0 ?_
  refine z_aload_n C dX11_search_9 rfl 0 rfl ?_
  refine z_iconst C dX11_search_10 (v := 0) (by decide) ?_
  refine pf_X11_256 C dX11_search_11 ho0 ?_
  refine z_aload_n C dX11_search_14 rfl 0 rfl ?_
  refine z_iconst C dX11_search_15 (v := 0) (by decide) ?_
  refine pf_X11_265 C dX11_search_16 ho0 ?_
  refine z_aload_n C dX11_search_19 rfl 0 rfl ?_
  obtain ⟨r3, hc4, hf⟩ := q_bd hf
  refine z_cVv C (st := []) (c_X11_visits ho0 hc4) mw_X11_visits ml_X11_268 ho0 (by decide) rfl dX11_search_20 rfl rfl rfl ⟨Nat.le_of_ble_eq_true rfl, Nat.le_of_ble_eq_true rfl⟩ rfl (Nat.le_of_ble_eq_true rfl) ?_
  exact z_sub [0] rfl (b_X11_search_23 C hr hk FU r3 o0 ho0 hf)
def f_X11_search (z : St) (o0 : Nat) : Option (St) := f_X11_search_0 z o0
theorem c_X11_search {l : Launch} {g : Ga} {A : Nat → Prop} {z : St} {o0 : Nat} (ho0 : kd o0 = 11) {res : St} (hf : f_X11_search z o0 = some res) : CV l g A yX11_search cX11_search 3 none rm_X11_search [.ref (g.1 o0)] z res :=
  e_CV (by decide) (Nat.le_of_ble_eq_true rfl) rfl (fun p e s m args below meth c C hr hk => z_sub [0] rfl (b_X11_search_0 C hr hk z o0 ho0 hf))
abbrev rm_X11_least : Room := { frames := 6, cells := 0, slots := 0, locals := 134 }
def f_X11_least_9  (z : St)  : Option (St × Int32) :=
  some (z, (-2))
theorem b_X11_least_9 {p : Program} {l : Launch} {e : Env} {s : State} {m : MethodId} {args : Array Value} {below : List Frame} {meth : Method} {c : Code} {g : Ga} {A : Nat → Prop} (C : Cx l g A p s m args c cX11_least 2 RX11 (rm_X11_least) (0, 0)) (hr : meth.sig.returnType = (some .int)) (hk : meth.locks = false)   (z : St)   {res : St × Int32} (hf : f_X11_least_9  z  = some res) : Zj p l e (rm_X11_least) s m args below meth c g A 2 (0, 0) (QI g A below args s res) z 9 [] [] := by
  unfold f_X11_least_9 at hf
  refine z_bipush C dX11_least_9 (v := (-2)) (by decide) ?_
  cases hf
  exact z_iret C hr hk dX11_least_11
def f_X11_least_43  (z : St) (s0 : Int32) : Option (St × Int32) :=
  some (z, s0)
theorem b_X11_least_43 {p : Program} {l : Launch} {e : Env} {s : State} {m : MethodId} {args : Array Value} {below : List Frame} {meth : Method} {c : Code} {g : Ga} {A : Nat → Prop} (C : Cx l g A p s m args c cX11_least 2 RX11 (rm_X11_least) (0, 0)) (hr : meth.sig.returnType = (some .int)) (hk : meth.locks = false)   (z : St) (s0 : Int32)  {res : St × Int32} (hf : f_X11_least_43  z s0 = some res) : Zj p l e (rm_X11_least) s m args below meth c g A 2 (0, 0) (QI g A below args s res) z 43 [] [.int s0] := by
  unfold f_X11_least_43 at hf
  cases hf
  exact z_iret C hr hk dX11_least_43
def f_X11_least_20  (z : St) (o0 : Nat) : Option (St × Int32) :=
  f_X11_least_43 z (z.1 o0 27)
theorem b_X11_least_20 {p : Program} {l : Launch} {e : Env} {s : State} {m : MethodId} {args : Array Value} {below : List Frame} {meth : Method} {c : Code} {g : Ga} {A : Nat → Prop} (C : Cx l g A p s m args c cX11_least 2 RX11 (rm_X11_least) (0, 0)) (hr : meth.sig.returnType = (some .int)) (hk : meth.locks = false)   (z : St) (o0 : Nat) (ho0 : kd o0 = 11) {res : St × Int32} (hf : f_X11_least_20  z o0 = some res) : Zj p l e (rm_X11_least) s m args below meth c g A 2 (0, 0) (QI g A below args s res) z 20 [(0, .ref (g.1 o0))] [] := by
  unfold f_X11_least_20 at hf
  refine z_aload_n C dX11_least_20 rfl 0 rfl ?_
  refine gf_X11_259 C dX11_least_21 ho0 ?_
  exact z_goto C dX11_least_24 (by decide) (z_sub [] rfl (b_X11_least_43 C hr hk z (z.1 o0 27) hf))
def f_X11_least_32  (z : St) (o0 : Nat) : Option (St × Int32) :=
  f_X11_least_43 z (z.1 o0 28)
theorem b_X11_least_32 {p : Program} {l : Launch} {e : Env} {s : State} {m : MethodId} {args : Array Value} {below : List Frame} {meth : Method} {c : Code} {g : Ga} {A : Nat → Prop} (C : Cx l g A p s m args c cX11_least 2 RX11 (rm_X11_least) (0, 0)) (hr : meth.sig.returnType = (some .int)) (hk : meth.locks = false)   (z : St) (o0 : Nat) (ho0 : kd o0 = 11) {res : St × Int32} (hf : f_X11_least_32  z o0 = some res) : Zj p l e (rm_X11_least) s m args below meth c g A 2 (0, 0) (QI g A below args s res) z 32 [(0, .ref (g.1 o0))] [] := by
  unfold f_X11_least_32 at hf
  refine z_aload_n C dX11_least_32 rfl 0 rfl ?_
  refine gf_X11_256 C dX11_least_33 ho0 ?_
  exact z_goto C dX11_least_36 (by decide) (z_sub [] rfl (b_X11_least_43 C hr hk z (z.1 o0 28) hf))
def f_X11_least_39  (z : St) (o0 : Nat) : Option (St × Int32) :=
  f_X11_least_43 z (z.1 o0 29)
theorem b_X11_least_39 {p : Program} {l : Launch} {e : Env} {s : State} {m : MethodId} {args : Array Value} {below : List Frame} {meth : Method} {c : Code} {g : Ga} {A : Nat → Prop} (C : Cx l g A p s m args c cX11_least 2 RX11 (rm_X11_least) (0, 0)) (hr : meth.sig.returnType = (some .int)) (hk : meth.locks = false)   (z : St) (o0 : Nat) (ho0 : kd o0 = 11) {res : St × Int32} (hf : f_X11_least_39  z o0 = some res) : Zj p l e (rm_X11_least) s m args below meth c g A 2 (0, 0) (QI g A below args s res) z 39 [(0, .ref (g.1 o0))] [] := by
  unfold f_X11_least_39 at hf
  refine z_aload_n C dX11_least_39 rfl 0 rfl ?_
  refine gf_X11_262 C dX11_least_40 ho0 ?_
  exact z_sub [] rfl (b_X11_least_43 C hr hk z (z.1 o0 29) hf)
def f_X11_least_27  (z : St) (o0 : Nat) (x1 : Int32) : Option (St × Int32) :=
  if x1 = 1 then f_X11_least_32 z o0 else f_X11_least_39 z o0
theorem b_X11_least_27 {p : Program} {l : Launch} {e : Env} {s : State} {m : MethodId} {args : Array Value} {below : List Frame} {meth : Method} {c : Code} {g : Ga} {A : Nat → Prop} (C : Cx l g A p s m args c cX11_least 2 RX11 (rm_X11_least) (0, 0)) (hr : meth.sig.returnType = (some .int)) (hk : meth.locks = false)   (z : St) (o0 : Nat) (x1 : Int32) (ho0 : kd o0 = 11) {res : St × Int32} (hf : f_X11_least_27  z o0 x1 = some res) : Zj p l e (rm_X11_least) s m args below meth c g A 2 (0, 0) (QI g A below args s res) z 27 [(0, .ref (g.1 o0)), (1, .int x1)] [] := by
  unfold f_X11_least_27 at hf
  refine z_iload_n C dX11_least_27 rfl 1 rfl ?_
  refine z_iconst C dX11_least_28 (v := 1) (by decide) ?_
  exact z_icmp_ne C dX11_least_29 (by decide) (fun h => z_sub [0] rfl (b_X11_least_39 C hr hk z o0 ho0 (q_f hf h))) (fun h => z_sub [0] rfl (b_X11_least_32 C hr hk z o0 ho0 (q_t hf h)))
def f_X11_least_12  (z : St) (o0 : Nat) (x1 : Int32) : Option (St × Int32) :=
  ((f_X11_search z o0).bind fun r1 => if x1 = 0 then f_X11_least_20 r1 o0 else f_X11_least_27 r1 o0 x1)
theorem b_X11_least_12 {p : Program} {l : Launch} {e : Env} {s : State} {m : MethodId} {args : Array Value} {below : List Frame} {meth : Method} {c : Code} {g : Ga} {A : Nat → Prop} (C : Cx l g A p s m args c cX11_least 2 RX11 (rm_X11_least) (0, 0)) (hr : meth.sig.returnType = (some .int)) (hk : meth.locks = false)   (z : St) (o0 : Nat) (x1 : Int32) (ho0 : kd o0 = 11) {res : St × Int32} (hf : f_X11_least_12  z o0 x1 = some res) : Zj p l e (rm_X11_least) s m args below meth c g A 2 (0, 0) (QI g A below args s res) z 12 [(0, .ref (g.1 o0)), (1, .int x1)] [] := by
  unfold f_X11_least_12 at hf
  refine z_aload_n C dX11_least_12 rfl 0 rfl ?_
  obtain ⟨r1, hc2, hf⟩ := q_bd hf
  refine z_cVv C (st := []) (c_X11_search ho0 hc2) mw_X11_search ml_X11_274 ho0 (by decide) rfl dX11_least_13 rfl rfl rfl ⟨Nat.le_of_ble_eq_true rfl, Nat.le_of_ble_eq_true rfl⟩ rfl (Nat.le_of_ble_eq_true rfl) ?_
  refine z_iload_n C dX11_least_16 rfl 1 rfl ?_
  exact z_if_ne C dX11_least_17 (by decide) (fun h => z_sub [0, 1] rfl (b_X11_least_27 C hr hk r1 o0 x1 ho0 (q_f hf h))) (fun h => z_sub [0] rfl (b_X11_least_20 C hr hk r1 o0 ho0 (q_t hf h)))
def f_X11_least_0  (z : St) (o0 : Nat) (x1 : Int32) : Option (St × Int32) :=
  ((f_X11_in z x1 0 2).bind fun r1 => if r1.2 = 0 then f_X11_least_9 r1.1 else f_X11_least_12 r1.1 o0 x1)
theorem b_X11_least_0 {p : Program} {l : Launch} {e : Env} {s : State} {m : MethodId} {args : Array Value} {below : List Frame} {meth : Method} {c : Code} {g : Ga} {A : Nat → Prop} (C : Cx l g A p s m args c cX11_least 2 RX11 (rm_X11_least) (0, 0)) (hr : meth.sig.returnType = (some .int)) (hk : meth.locks = false)   (z : St) (o0 : Nat) (x1 : Int32) (ho0 : kd o0 = 11) {res : St × Int32} (hf : f_X11_least_0  z o0 x1 = some res) : Zj p l e (rm_X11_least) s m args below meth c g A 2 (0, 0) (QI g A below args s res) z 0 [(0, .ref (g.1 o0)), (1, .int x1)] [] := by
  unfold f_X11_least_0 at hf
  refine z_iload_n C dX11_least_0 rfl 1 rfl ?_
  refine z_iconst C dX11_least_1 (v := 0) (by decide) ?_
  refine z_iconst C dX11_least_2 (v := 2) (by decide) ?_
  obtain ⟨r1, hc2, hf⟩ := q_bd hf
  refine z_cSi C (st := []) (c_X11_in  hc2) mw_X11_in ml_X11_114 dX11_least_3 rfl rfl rfl ⟨Nat.le_of_ble_eq_true rfl, Nat.le_of_ble_eq_true rfl⟩ rfl (Nat.le_of_ble_eq_true rfl) ?_
  exact z_if_ne C dX11_least_6 (by decide) (fun h => z_sub [0, 1] rfl (b_X11_least_12 C hr hk r1.1 o0 x1 ho0 (q_f hf h))) (fun h => z_sub [] rfl (b_X11_least_9 C hr hk r1.1 (q_t hf h)))
def f_X11_least (z : St) (o0 : Nat) (x1 : Int32) : Option (St × Int32) := f_X11_least_0 z o0 x1
theorem c_X11_least {l : Launch} {g : Ga} {A : Nat → Prop} {z : St} {o0 : Nat} {x1 : Int32} (ho0 : kd o0 = 11) {res : St × Int32} (hf : f_X11_least z o0 x1 = some res) : CI l g A yX11_least cX11_least 2 (some .int) rm_X11_least [.ref (g.1 o0), .int x1] z res :=
  e_CI (by decide) (Nat.le_of_ble_eq_true rfl) rfl (fun p e s m args below meth c C hr hk => z_sub [0, 1] rfl (b_X11_least_0 C hr hk z o0 x1 ho0 hf))
abbrev rm_X11_lates : Room := { frames := 1, cells := 0, slots := 0, locals := 21 }
def f_X11_lates_103 (K11 : St → Nat → Int32 → Int32 → Option (St)) (K26 : St → Nat → Int32 → Int32 → Int32 → Int32 → Option (St)) (z : St) (o0 : Nat) (x1 : Int32) (x2 : Int32) (x3 : Int32) (x4 : Int32) : Option (St) :=
  K26 z o0 x1 x2 x3 (x4 + 1)
theorem b_X11_lates_103 {p : Program} {l : Launch} {e : Env} {s : State} {m : MethodId} {args : Array Value} {below : List Frame} {meth : Method} {c : Code} {g : Ga} {A : Nat → Prop} (C : Cx l g A p s m args c cX11_lates 6 RX11 (rm_X11_lates) (0, 0)) (hr : meth.sig.returnType = none) (hk : meth.locks = false) {K11 : St → Nat → Int32 → Int32 → Option (St)} {K26 : St → Nat → Int32 → Int32 → Int32 → Int32 → Option (St)} (hK11 : ∀ (z : St) (o0 : Nat) (x1 : Int32) (x2 : Int32) (_ : kd o0 = 11) {res : St}, K11 z o0 x1 x2 = some res → Zj p l e (rm_X11_lates) s m args below meth c g A 6 (0, 0) (QV g A below args s res) z 11 [(0, .ref (g.1 o0)), (1, .int x1), (2, .int x2)] []) (hK26 : ∀ (z : St) (o0 : Nat) (x1 : Int32) (x2 : Int32) (x3 : Int32) (x4 : Int32) (_ : kd o0 = 11) {res : St}, K26 z o0 x1 x2 x3 x4 = some res → Zj p l e (rm_X11_lates) s m args below meth c g A 6 (0, 0) (QV g A below args s res) z 26 [(0, .ref (g.1 o0)), (1, .int x1), (2, .int x2), (3, .int x3), (4, .int x4)] []) (z : St) (o0 : Nat) (x1 : Int32) (x2 : Int32) (x3 : Int32) (x4 : Int32) (ho0 : kd o0 = 11) {res : St} (hf : f_X11_lates_103 K11 K26 z o0 x1 x2 x3 x4 = some res) : Zj p l e (rm_X11_lates) s m args below meth c g A 6 (0, 0) (QV g A below args s res) z 103 [(0, .ref (g.1 o0)), (1, .int x1), (2, .int x2), (3, .int x3), (4, .int x4)] [] := by
  unfold f_X11_lates_103 at hf
  refine z_iinc C (k := 4) (v := x4 + 1) (lv2 := [(4, .int (x4 + 1)), (0, .ref (g.1 o0)), (1, .int x1), (2, .int x2), (3, .int x3)]) dX11_lates_103 rfl rfl (by decide) rfl ?_
  exact z_goto C dX11_lates_106 (by decide) (z_sub [1, 2, 3, 4, 0] rfl (hK26 z o0 x1 x2 x3 (x4 + 1) ho0 hf))
def f_X11_lates_44 (K11 : St → Nat → Int32 → Int32 → Option (St)) (K26 : St → Nat → Int32 → Int32 → Int32 → Int32 → Option (St)) (z : St) (o0 : Nat) (x1 : Int32) (x2 : Int32) (x3 : Int32) (x4 : Int32) : Option (St) :=
  f_X11_lates_103 K11 K26 z o0 x1 x2 x3 x4
theorem b_X11_lates_44 {p : Program} {l : Launch} {e : Env} {s : State} {m : MethodId} {args : Array Value} {below : List Frame} {meth : Method} {c : Code} {g : Ga} {A : Nat → Prop} (C : Cx l g A p s m args c cX11_lates 6 RX11 (rm_X11_lates) (0, 0)) (hr : meth.sig.returnType = none) (hk : meth.locks = false) {K11 : St → Nat → Int32 → Int32 → Option (St)} {K26 : St → Nat → Int32 → Int32 → Int32 → Int32 → Option (St)} (hK11 : ∀ (z : St) (o0 : Nat) (x1 : Int32) (x2 : Int32) (_ : kd o0 = 11) {res : St}, K11 z o0 x1 x2 = some res → Zj p l e (rm_X11_lates) s m args below meth c g A 6 (0, 0) (QV g A below args s res) z 11 [(0, .ref (g.1 o0)), (1, .int x1), (2, .int x2)] []) (hK26 : ∀ (z : St) (o0 : Nat) (x1 : Int32) (x2 : Int32) (x3 : Int32) (x4 : Int32) (_ : kd o0 = 11) {res : St}, K26 z o0 x1 x2 x3 x4 = some res → Zj p l e (rm_X11_lates) s m args below meth c g A 6 (0, 0) (QV g A below args s res) z 26 [(0, .ref (g.1 o0)), (1, .int x1), (2, .int x2), (3, .int x3), (4, .int x4)] []) (z : St) (o0 : Nat) (x1 : Int32) (x2 : Int32) (x3 : Int32) (x4 : Int32) (ho0 : kd o0 = 11) {res : St} (hf : f_X11_lates_44 K11 K26 z o0 x1 x2 x3 x4 = some res) : Zj p l e (rm_X11_lates) s m args below meth c g A 6 (0, 0) (QV g A below args s res) z 44 [(0, .ref (g.1 o0)), (1, .int x1), (2, .int x2), (3, .int x3), (4, .int x4)] [] := by
  unfold f_X11_lates_44 at hf
  exact z_goto C dX11_lates_44 (by decide) (z_sub [0, 1, 2, 3, 4] rfl (b_X11_lates_103 C hr hk hK11 hK26 z o0 x1 x2 x3 x4 ho0 hf))
def f_X11_lates_102 (K11 : St → Nat → Int32 → Int32 → Option (St)) (K26 : St → Nat → Int32 → Int32 → Int32 → Int32 → Option (St)) (z : St) (o0 : Nat) (x1 : Int32) (x2 : Int32) (x4 : Int32) (s0 : Int32) : Option (St) :=
  f_X11_lates_103 K11 K26 z o0 x1 x2 s0 x4
theorem b_X11_lates_102 {p : Program} {l : Launch} {e : Env} {s : State} {m : MethodId} {args : Array Value} {below : List Frame} {meth : Method} {c : Code} {g : Ga} {A : Nat → Prop} (C : Cx l g A p s m args c cX11_lates 6 RX11 (rm_X11_lates) (0, 0)) (hr : meth.sig.returnType = none) (hk : meth.locks = false) {K11 : St → Nat → Int32 → Int32 → Option (St)} {K26 : St → Nat → Int32 → Int32 → Int32 → Int32 → Option (St)} (hK11 : ∀ (z : St) (o0 : Nat) (x1 : Int32) (x2 : Int32) (_ : kd o0 = 11) {res : St}, K11 z o0 x1 x2 = some res → Zj p l e (rm_X11_lates) s m args below meth c g A 6 (0, 0) (QV g A below args s res) z 11 [(0, .ref (g.1 o0)), (1, .int x1), (2, .int x2)] []) (hK26 : ∀ (z : St) (o0 : Nat) (x1 : Int32) (x2 : Int32) (x3 : Int32) (x4 : Int32) (_ : kd o0 = 11) {res : St}, K26 z o0 x1 x2 x3 x4 = some res → Zj p l e (rm_X11_lates) s m args below meth c g A 6 (0, 0) (QV g A below args s res) z 26 [(0, .ref (g.1 o0)), (1, .int x1), (2, .int x2), (3, .int x3), (4, .int x4)] []) (z : St) (o0 : Nat) (x1 : Int32) (x2 : Int32) (x4 : Int32) (s0 : Int32) (ho0 : kd o0 = 11) {res : St} (hf : f_X11_lates_102 K11 K26 z o0 x1 x2 x4 s0 = some res) : Zj p l e (rm_X11_lates) s m args below meth c g A 6 (0, 0) (QV g A below args s res) z 102 [(0, .ref (g.1 o0)), (1, .int x1), (2, .int x2), (4, .int x4)] [.int s0] := by
  unfold f_X11_lates_102 at hf
  refine z_istore_n C (lv2 := [(3, .int s0), (0, .ref (g.1 o0)), (1, .int x1), (2, .int x2), (4, .int x4)]) dX11_lates_102 rfl (by decide) rfl ?_
  exact z_sub [1, 2, 3, 0, 4] rfl (b_X11_lates_103 C hr hk hK11 hK26 z o0 x1 x2 s0 x4 ho0 hf)
def f_X11_lates_92 (K11 : St → Nat → Int32 → Int32 → Option (St)) (K26 : St → Nat → Int32 → Int32 → Int32 → Int32 → Option (St)) (z : St) (o0 : Nat) (x1 : Int32) (x2 : Int32) (x3 : Int32) (x4 : Int32) (x5 : Int32) : Option (St) :=
  f_X11_lates_102 K11 K26 z o0 x1 x2 x4 (imax x3 x5)
theorem b_X11_lates_92 {p : Program} {l : Launch} {e : Env} {s : State} {m : MethodId} {args : Array Value} {below : List Frame} {meth : Method} {c : Code} {g : Ga} {A : Nat → Prop} (C : Cx l g A p s m args c cX11_lates 6 RX11 (rm_X11_lates) (0, 0)) (hr : meth.sig.returnType = none) (hk : meth.locks = false) {K11 : St → Nat → Int32 → Int32 → Option (St)} {K26 : St → Nat → Int32 → Int32 → Int32 → Int32 → Option (St)} (hK11 : ∀ (z : St) (o0 : Nat) (x1 : Int32) (x2 : Int32) (_ : kd o0 = 11) {res : St}, K11 z o0 x1 x2 = some res → Zj p l e (rm_X11_lates) s m args below meth c g A 6 (0, 0) (QV g A below args s res) z 11 [(0, .ref (g.1 o0)), (1, .int x1), (2, .int x2)] []) (hK26 : ∀ (z : St) (o0 : Nat) (x1 : Int32) (x2 : Int32) (x3 : Int32) (x4 : Int32) (_ : kd o0 = 11) {res : St}, K26 z o0 x1 x2 x3 x4 = some res → Zj p l e (rm_X11_lates) s m args below meth c g A 6 (0, 0) (QV g A below args s res) z 26 [(0, .ref (g.1 o0)), (1, .int x1), (2, .int x2), (3, .int x3), (4, .int x4)] []) (z : St) (o0 : Nat) (x1 : Int32) (x2 : Int32) (x3 : Int32) (x4 : Int32) (x5 : Int32) (ho0 : kd o0 = 11) {res : St} (hf : f_X11_lates_92 K11 K26 z o0 x1 x2 x3 x4 x5 = some res) : Zj p l e (rm_X11_lates) s m args below meth c g A 6 (0, 0) (QV g A below args s res) z 92 [(0, .ref (g.1 o0)), (1, .int x1), (2, .int x2), (3, .int x3), (4, .int x4), (5, .int x5)] [] := by
  unfold f_X11_lates_92 at hf
  refine z_iload_n C dX11_lates_92 rfl 3 rfl ?_
  refine z_iload C dX11_lates_93 5 rfl ?_
  refine z_mmax C (st := []) dX11_lates_95 ml_X11_126 mm_max.1 mm_i mm_max.2 ⟨Nat.le_of_ble_eq_true rfl, Nat.le_of_ble_eq_true rfl⟩ (Nat.le_of_ble_eq_true rfl) ?_
  exact z_goto C dX11_lates_98 (by decide) (z_sub [0, 1, 2, 4] rfl (b_X11_lates_102 C hr hk hK11 hK26 z o0 x1 x2 x4 (imax x3 x5) ho0 hf))
def f_X11_lates_101 (K11 : St → Nat → Int32 → Int32 → Option (St)) (K26 : St → Nat → Int32 → Int32 → Int32 → Int32 → Option (St)) (z : St) (o0 : Nat) (x1 : Int32) (x2 : Int32) (x3 : Int32) (x4 : Int32) : Option (St) :=
  f_X11_lates_102 K11 K26 z o0 x1 x2 x4 x3
theorem b_X11_lates_101 {p : Program} {l : Launch} {e : Env} {s : State} {m : MethodId} {args : Array Value} {below : List Frame} {meth : Method} {c : Code} {g : Ga} {A : Nat → Prop} (C : Cx l g A p s m args c cX11_lates 6 RX11 (rm_X11_lates) (0, 0)) (hr : meth.sig.returnType = none) (hk : meth.locks = false) {K11 : St → Nat → Int32 → Int32 → Option (St)} {K26 : St → Nat → Int32 → Int32 → Int32 → Int32 → Option (St)} (hK11 : ∀ (z : St) (o0 : Nat) (x1 : Int32) (x2 : Int32) (_ : kd o0 = 11) {res : St}, K11 z o0 x1 x2 = some res → Zj p l e (rm_X11_lates) s m args below meth c g A 6 (0, 0) (QV g A below args s res) z 11 [(0, .ref (g.1 o0)), (1, .int x1), (2, .int x2)] []) (hK26 : ∀ (z : St) (o0 : Nat) (x1 : Int32) (x2 : Int32) (x3 : Int32) (x4 : Int32) (_ : kd o0 = 11) {res : St}, K26 z o0 x1 x2 x3 x4 = some res → Zj p l e (rm_X11_lates) s m args below meth c g A 6 (0, 0) (QV g A below args s res) z 26 [(0, .ref (g.1 o0)), (1, .int x1), (2, .int x2), (3, .int x3), (4, .int x4)] []) (z : St) (o0 : Nat) (x1 : Int32) (x2 : Int32) (x3 : Int32) (x4 : Int32) (ho0 : kd o0 = 11) {res : St} (hf : f_X11_lates_101 K11 K26 z o0 x1 x2 x3 x4 = some res) : Zj p l e (rm_X11_lates) s m args below meth c g A 6 (0, 0) (QV g A below args s res) z 101 [(0, .ref (g.1 o0)), (1, .int x1), (2, .int x2), (3, .int x3), (4, .int x4)] [] := by
  unfold f_X11_lates_101 at hf
  refine z_iload_n C dX11_lates_101 rfl 3 rfl ?_
  exact z_sub [0, 1, 2, 4] rfl (b_X11_lates_102 C hr hk hK11 hK26 z o0 x1 x2 x4 x3 ho0 hf)
def f_X11_lates_47 (K11 : St → Nat → Int32 → Int32 → Option (St)) (K26 : St → Nat → Int32 → Int32 → Int32 → Int32 → Option (St)) (z : St) (o0 : Nat) (x1 : Int32) (x2 : Int32) (x3 : Int32) (x4 : Int32) : Option (St) :=
  if inb x4 8 = true then (if inb (x2 ^^^ ((1 : Int32) <<< (x4 &&& 31))) 256 = true then (if inb x4 8 = true then (if inb x4 8 = true then (if ((imin (x1 - (z.1 (rf o0 15) (Int32.toNatClampNeg x4))) (z.1 (rf o0 37) (Int32.toNatClampNeg (x2 ^^^ ((1 : Int32) <<< (x4 &&& 31)))))) - (z.1 (rf o0 14) (Int32.toNatClampNeg x4))) < (z.1 (rf o0 13) (Int32.toNatClampNeg x4)) then f_X11_lates_101 K11 K26 z o0 x1 x2 x3 x4 else f_X11_lates_92 K11 K26 z o0 x1 x2 x3 x4 ((imin (x1 - (z.1 (rf o0 15) (Int32.toNatClampNeg x4))) (z.1 (rf o0 37) (Int32.toNatClampNeg (x2 ^^^ ((1 : Int32) <<< (x4 &&& 31)))))) - (z.1 (rf o0 14) (Int32.toNatClampNeg x4)))) else none) else none) else none) else none
theorem b_X11_lates_47 {p : Program} {l : Launch} {e : Env} {s : State} {m : MethodId} {args : Array Value} {below : List Frame} {meth : Method} {c : Code} {g : Ga} {A : Nat → Prop} (C : Cx l g A p s m args c cX11_lates 6 RX11 (rm_X11_lates) (0, 0)) (hr : meth.sig.returnType = none) (hk : meth.locks = false) {K11 : St → Nat → Int32 → Int32 → Option (St)} {K26 : St → Nat → Int32 → Int32 → Int32 → Int32 → Option (St)} (hK11 : ∀ (z : St) (o0 : Nat) (x1 : Int32) (x2 : Int32) (_ : kd o0 = 11) {res : St}, K11 z o0 x1 x2 = some res → Zj p l e (rm_X11_lates) s m args below meth c g A 6 (0, 0) (QV g A below args s res) z 11 [(0, .ref (g.1 o0)), (1, .int x1), (2, .int x2)] []) (hK26 : ∀ (z : St) (o0 : Nat) (x1 : Int32) (x2 : Int32) (x3 : Int32) (x4 : Int32) (_ : kd o0 = 11) {res : St}, K26 z o0 x1 x2 x3 x4 = some res → Zj p l e (rm_X11_lates) s m args below meth c g A 6 (0, 0) (QV g A below args s res) z 26 [(0, .ref (g.1 o0)), (1, .int x1), (2, .int x2), (3, .int x3), (4, .int x4)] []) (z : St) (o0 : Nat) (x1 : Int32) (x2 : Int32) (x3 : Int32) (x4 : Int32) (ho0 : kd o0 = 11) {res : St} (hf : f_X11_lates_47 K11 K26 z o0 x1 x2 x3 x4 = some res) : Zj p l e (rm_X11_lates) s m args below meth c g A 6 (0, 0) (QV g A below args s res) z 47 [(0, .ref (g.1 o0)), (1, .int x1), (2, .int x2), (3, .int x3), (4, .int x4)] [] := by
  unfold f_X11_lates_47 at hf
  refine z_iload_n C dX11_lates_47 rfl 1 rfl ?_
  refine z_aload_n C dX11_lates_48 rfl 0 rfl ?_
  refine gf_X11_34 C dX11_lates_49 ho0 ?_
  refine z_iload C dX11_lates_52 4 rfl ?_
  obtain ⟨h1, hf⟩ := q_ck hf
  refine z_iald C (n := 8) dX11_lates_54 (rt_11_15 _ (kd_lt ho0 (by decide)) ho0) (by decide) h1 ?_
  refine z_isub C dX11_lates_55 ?_
  refine z_aload_n C dX11_lates_56 rfl 0 rfl ?_
  refine gf_X11_67 C dX11_lates_57 ho0 ?_
  refine z_iload_n C dX11_lates_60 rfl 2 rfl ?_
  refine z_iconst C dX11_lates_61 (v := 1) (by decide) ?_
  refine z_iload C dX11_lates_62 4 rfl ?_
  refine z_ishl C dX11_lates_64 ?_
  refine z_ixor C dX11_lates_65 ?_
  obtain ⟨h2, hf⟩ := q_ck hf
  refine z_iald C (n := 256) dX11_lates_66 (rt_11_37 _ (kd_lt ho0 (by decide)) ho0) (by decide) h2 ?_
  refine z_mmin C (st := []) dX11_lates_67 ml_X11_193 mm_min.1 mm_i mm_min.2 ⟨Nat.le_of_ble_eq_true rfl, Nat.le_of_ble_eq_true rfl⟩ (Nat.le_of_ble_eq_true rfl) ?_
  refine z_aload_n C dX11_lates_70 rfl 0 rfl ?_
  refine gf_X11_31 C dX11_lates_71 ho0 ?_
  refine z_iload C dX11_lates_74 4 rfl ?_
  obtain ⟨h3, hf⟩ := q_ck hf
  refine z_iald C (n := 8) dX11_lates_76 (rt_11_14 _ (kd_lt ho0 (by decide)) ho0) (by decide) h3 ?_
  refine z_isub C dX11_lates_77 ?_
  refine z_istore C (lv2 := [(5, .int ((imin (x1 - (z.1 (rf o0 15) (Int32.toNatClampNeg x4))) (z.1 (rf o0 37) (Int32.toNatClampNeg (x2 ^^^ ((1 : Int32) <<< (x4 &&& 31)))))) - (z.1 (rf o0 14) (Int32.toNatClampNeg x4)))), (0, .ref (g.1 o0)), (1, .int x1), (2, .int x2), (3, .int x3), (4, .int x4)]) dX11_lates_78 (by decide) rfl ?_
  refine z_iload C dX11_lates_80 0 rfl ?_
  refine z_aload_n C dX11_lates_82 rfl 1 rfl ?_
  refine gf_X11_28 C dX11_lates_83 ho0 ?_
  refine z_iload C dX11_lates_86 5 rfl ?_
  obtain ⟨h4, hf⟩ := q_ck hf
  refine z_iald C (n := 8) dX11_lates_88 (rt_11_13 _ (kd_lt ho0 (by decide)) ho0) (by decide) h4 ?_
  exact z_icmp_lt C dX11_lates_89 (by decide) (fun h => z_sub [1, 2, 3, 4, 5] rfl (b_X11_lates_101 C hr hk hK11 hK26 z o0 x1 x2 x3 x4 ho0 (q_t hf h))) (fun h => z_sub [1, 2, 3, 4, 5, 0] rfl (b_X11_lates_92 C hr hk hK11 hK26 z o0 x1 x2 x3 x4 ((imin (x1 - (z.1 (rf o0 15) (Int32.toNatClampNeg x4))) (z.1 (rf o0 37) (Int32.toNatClampNeg (x2 ^^^ ((1 : Int32) <<< (x4 &&& 31)))))) - (z.1 (rf o0 14) (Int32.toNatClampNeg x4))) ho0 (q_f hf h)))
def f_X11_lates_35 (K11 : St → Nat → Int32 → Int32 → Option (St)) (K26 : St → Nat → Int32 → Int32 → Int32 → Int32 → Option (St)) (z : St) (o0 : Nat) (x1 : Int32) (x2 : Int32) (x3 : Int32) (x4 : Int32) : Option (St) :=
  if ((x2 >>> (x4 &&& 31)) &&& 1) = 0 then f_X11_lates_44 K11 K26 z o0 x1 x2 x3 x4 else f_X11_lates_47 K11 K26 z o0 x1 x2 x3 x4
theorem b_X11_lates_35 {p : Program} {l : Launch} {e : Env} {s : State} {m : MethodId} {args : Array Value} {below : List Frame} {meth : Method} {c : Code} {g : Ga} {A : Nat → Prop} (C : Cx l g A p s m args c cX11_lates 6 RX11 (rm_X11_lates) (0, 0)) (hr : meth.sig.returnType = none) (hk : meth.locks = false) {K11 : St → Nat → Int32 → Int32 → Option (St)} {K26 : St → Nat → Int32 → Int32 → Int32 → Int32 → Option (St)} (hK11 : ∀ (z : St) (o0 : Nat) (x1 : Int32) (x2 : Int32) (_ : kd o0 = 11) {res : St}, K11 z o0 x1 x2 = some res → Zj p l e (rm_X11_lates) s m args below meth c g A 6 (0, 0) (QV g A below args s res) z 11 [(0, .ref (g.1 o0)), (1, .int x1), (2, .int x2)] []) (hK26 : ∀ (z : St) (o0 : Nat) (x1 : Int32) (x2 : Int32) (x3 : Int32) (x4 : Int32) (_ : kd o0 = 11) {res : St}, K26 z o0 x1 x2 x3 x4 = some res → Zj p l e (rm_X11_lates) s m args below meth c g A 6 (0, 0) (QV g A below args s res) z 26 [(0, .ref (g.1 o0)), (1, .int x1), (2, .int x2), (3, .int x3), (4, .int x4)] []) (z : St) (o0 : Nat) (x1 : Int32) (x2 : Int32) (x3 : Int32) (x4 : Int32) (ho0 : kd o0 = 11) {res : St} (hf : f_X11_lates_35 K11 K26 z o0 x1 x2 x3 x4 = some res) : Zj p l e (rm_X11_lates) s m args below meth c g A 6 (0, 0) (QV g A below args s res) z 35 [(0, .ref (g.1 o0)), (1, .int x1), (2, .int x2), (3, .int x3), (4, .int x4)] [] := by
  unfold f_X11_lates_35 at hf
  refine z_iload_n C dX11_lates_35 rfl 2 rfl ?_
  refine z_iload C dX11_lates_36 4 rfl ?_
  refine z_ishr C dX11_lates_38 ?_
  refine z_iconst C dX11_lates_39 (v := 1) (by decide) ?_
  refine z_iand C dX11_lates_40 ?_
  exact z_if_ne C dX11_lates_41 (by decide) (fun h => z_sub [0, 1, 2, 3, 4] rfl (b_X11_lates_47 C hr hk hK11 hK26 z o0 x1 x2 x3 x4 ho0 (q_f hf h))) (fun h => z_sub [0, 1, 2, 3, 4] rfl (b_X11_lates_44 C hr hk hK11 hK26 z o0 x1 x2 x3 x4 ho0 (q_t hf h)))
def f_X11_lates_109 (K11 : St → Nat → Int32 → Int32 → Option (St)) (z : St) (o0 : Nat) (x1 : Int32) (x2 : Int32) (x3 : Int32) : Option (St) :=
  if inb x2 256 = true then (K11 (zI z (rf o0 37) (Int32.toNatClampNeg x2) x3) o0 x1 (x2 + 1)) else none
theorem b_X11_lates_109 {p : Program} {l : Launch} {e : Env} {s : State} {m : MethodId} {args : Array Value} {below : List Frame} {meth : Method} {c : Code} {g : Ga} {A : Nat → Prop} (C : Cx l g A p s m args c cX11_lates 6 RX11 (rm_X11_lates) (0, 0)) (hr : meth.sig.returnType = none) (hk : meth.locks = false) {K11 : St → Nat → Int32 → Int32 → Option (St)} (hK11 : ∀ (z : St) (o0 : Nat) (x1 : Int32) (x2 : Int32) (_ : kd o0 = 11) {res : St}, K11 z o0 x1 x2 = some res → Zj p l e (rm_X11_lates) s m args below meth c g A 6 (0, 0) (QV g A below args s res) z 11 [(0, .ref (g.1 o0)), (1, .int x1), (2, .int x2)] []) (z : St) (o0 : Nat) (x1 : Int32) (x2 : Int32) (x3 : Int32) (ho0 : kd o0 = 11) {res : St} (hf : f_X11_lates_109 K11 z o0 x1 x2 x3 = some res) : Zj p l e (rm_X11_lates) s m args below meth c g A 6 (0, 0) (QV g A below args s res) z 109 [(0, .ref (g.1 o0)), (1, .int x1), (2, .int x2), (3, .int x3)] [] := by
  unfold f_X11_lates_109 at hf
  refine z_aload_n C dX11_lates_109 rfl 0 rfl ?_
  refine gf_X11_67 C dX11_lates_110 ho0 ?_
  refine z_iload_n C dX11_lates_113 rfl 2 rfl ?_
  refine z_iload_n C dX11_lates_114 rfl 3 rfl ?_
  obtain ⟨h1, hf⟩ := q_ck hf
  refine z_iast C (n := 256) dX11_lates_115 (rt_11_37 _ (kd_lt ho0 (by decide)) ho0) (by decide) h1 ?_
  refine z_iinc C (k := 2) (v := x2 + 1) (lv2 := [(2, .int (x2 + 1)), (0, .ref (g.1 o0)), (1, .int x1), (3, .int x3)]) dX11_lates_116 rfl rfl (by decide) rfl ?_
  exact z_goto C dX11_lates_119 (by decide) (z_sub [1, 2, 0] rfl (hK11 (zI z (rf o0 37) (Int32.toNatClampNeg x2) x3) o0 x1 (x2 + 1) ho0 hf))
def f_X11_lates_26 (K11 : St → Nat → Int32 → Int32 → Option (St)) : Nat → St → Nat → Int32 → Int32 → Int32 → Int32 → Option (St)
  | 0, _, _, _, _, _, _ => none
  | n + 1, z, o0, x1, x2, x3, x4 => if (z.1 o0 5) ≤ x4 then f_X11_lates_109 K11 z o0 x1 x2 x3 else f_X11_lates_35 K11 (f_X11_lates_26 K11 n) z o0 x1 x2 x3 x4
theorem b_X11_lates_26 {p : Program} {l : Launch} {e : Env} {s : State} {m : MethodId} {args : Array Value} {below : List Frame} {meth : Method} {c : Code} {g : Ga} {A : Nat → Prop} (C : Cx l g A p s m args c cX11_lates 6 RX11 (rm_X11_lates) (0, 0)) (hr : meth.sig.returnType = none) (hk : meth.locks = false) {K11 : St → Nat → Int32 → Int32 → Option (St)} (hK11 : ∀ (z : St) (o0 : Nat) (x1 : Int32) (x2 : Int32) (_ : kd o0 = 11) {res : St}, K11 z o0 x1 x2 = some res → Zj p l e (rm_X11_lates) s m args below meth c g A 6 (0, 0) (QV g A below args s res) z 11 [(0, .ref (g.1 o0)), (1, .int x1), (2, .int x2)] []) : ∀ (n : Nat) (z : St) (o0 : Nat) (x1 : Int32) (x2 : Int32) (x3 : Int32) (x4 : Int32) (_ : kd o0 = 11) {res : St} (_ : f_X11_lates_26 K11 n z o0 x1 x2 x3 x4 = some res), Zj p l e (rm_X11_lates) s m args below meth c g A 6 (0, 0) (QV g A below args s res) z 26 [(0, .ref (g.1 o0)), (1, .int x1), (2, .int x2), (3, .int x3), (4, .int x4)] [] := by
  intro n
  induction n with
  | zero =>
    intro z o0 x1 x2 x3 x4 ho0 res hf
    cases hf
  | succ n ih =>
    intro z o0 x1 x2 x3 x4 ho0 res hf
    rw [f_X11_lates_26] at hf
    refine z_iload C dX11_lates_26 4 rfl ?_
    refine z_aload_n C dX11_lates_28 rfl 0 rfl ?_
    refine gf_X11_111 C dX11_lates_29 ho0 ?_
    exact z_icmp_ge C dX11_lates_32 (by decide) (fun h => z_sub [0, 1, 2, 3] rfl (b_X11_lates_109 C hr hk hK11 z o0 x1 x2 x3 ho0 (q_t hf h))) (fun h => z_sub [0, 1, 2, 3, 4] rfl (b_X11_lates_35 C hr hk hK11 ih z o0 x1 x2 x3 x4 ho0 (q_f hf h)))
def f_X11_lates_21 (K11 : St → Nat → Int32 → Int32 → Option (St)) (z : St) (o0 : Nat) (x1 : Int32) (x2 : Int32) : Option (St) :=
  f_X11_lates_26 K11 FU z o0 x1 x2 ((-1)) 0
theorem b_X11_lates_21 {p : Program} {l : Launch} {e : Env} {s : State} {m : MethodId} {args : Array Value} {below : List Frame} {meth : Method} {c : Code} {g : Ga} {A : Nat → Prop} (C : Cx l g A p s m args c cX11_lates 6 RX11 (rm_X11_lates) (0, 0)) (hr : meth.sig.returnType = none) (hk : meth.locks = false) {K11 : St → Nat → Int32 → Int32 → Option (St)} (hK11 : ∀ (z : St) (o0 : Nat) (x1 : Int32) (x2 : Int32) (_ : kd o0 = 11) {res : St}, K11 z o0 x1 x2 = some res → Zj p l e (rm_X11_lates) s m args below meth c g A 6 (0, 0) (QV g A below args s res) z 11 [(0, .ref (g.1 o0)), (1, .int x1), (2, .int x2)] []) (z : St) (o0 : Nat) (x1 : Int32) (x2 : Int32) (ho0 : kd o0 = 11) {res : St} (hf : f_X11_lates_21 K11 z o0 x1 x2 = some res) : Zj p l e (rm_X11_lates) s m args below meth c g A 6 (0, 0) (QV g A below args s res) z 21 [(0, .ref (g.1 o0)), (1, .int x1), (2, .int x2)] [] := by
  unfold f_X11_lates_21 at hf
  refine z_iconst C dX11_lates_21 (v := (-1)) (by decide) ?_
  refine z_istore_n C (lv2 := [(3, .int ((-1))), (0, .ref (g.1 o0)), (1, .int x1), (2, .int x2)]) dX11_lates_22 rfl (by decide) rfl ?_
  refine z_iconst C dX11_lates_23 (v := 0) (by decide) ?_
  refine z_istore C (lv2 := [(4, .int 0), (3, .int ((-1))), (0, .ref (g.1 o0)), (1, .int x1), (2, .int x2)]) dX11_lates_24 (by decide) rfl ?_
  exact z_sub [2, 3, 4, 1, 0] rfl (b_X11_lates_26 C hr hk hK11 FU z o0 x1 x2 ((-1)) 0 ho0 hf)
def f_X11_lates_122  (z : St)  : Option (St) :=
  some z
theorem b_X11_lates_122 {p : Program} {l : Launch} {e : Env} {s : State} {m : MethodId} {args : Array Value} {below : List Frame} {meth : Method} {c : Code} {g : Ga} {A : Nat → Prop} (C : Cx l g A p s m args c cX11_lates 6 RX11 (rm_X11_lates) (0, 0)) (hr : meth.sig.returnType = none) (hk : meth.locks = false)   (z : St)   {res : St} (hf : f_X11_lates_122  z  = some res) : Zj p l e (rm_X11_lates) s m args below meth c g A 6 (0, 0) (QV g A below args s res) z 122 [] [] := by
  unfold f_X11_lates_122 at hf
  cases hf
  exact z_vret C hr hk dX11_lates_122
def f_X11_lates_11  : Nat → St → Nat → Int32 → Int32 → Option (St)
  | 0, _, _, _, _ => none
  | n + 1, z, o0, x1, x2 => if ((1 : Int32) <<< ((z.1 o0 5) &&& 31)) ≤ x2 then f_X11_lates_122 z else f_X11_lates_21 (f_X11_lates_11 n) z o0 x1 x2
theorem b_X11_lates_11 {p : Program} {l : Launch} {e : Env} {s : State} {m : MethodId} {args : Array Value} {below : List Frame} {meth : Method} {c : Code} {g : Ga} {A : Nat → Prop} (C : Cx l g A p s m args c cX11_lates 6 RX11 (rm_X11_lates) (0, 0)) (hr : meth.sig.returnType = none) (hk : meth.locks = false)   : ∀ (n : Nat) (z : St) (o0 : Nat) (x1 : Int32) (x2 : Int32) (_ : kd o0 = 11) {res : St} (_ : f_X11_lates_11  n z o0 x1 x2 = some res), Zj p l e (rm_X11_lates) s m args below meth c g A 6 (0, 0) (QV g A below args s res) z 11 [(0, .ref (g.1 o0)), (1, .int x1), (2, .int x2)] [] := by
  intro n
  induction n with
  | zero =>
    intro z o0 x1 x2 ho0 res hf
    cases hf
  | succ n ih =>
    intro z o0 x1 x2 ho0 res hf
    rw [f_X11_lates_11] at hf
    refine z_iload_n C dX11_lates_11 rfl 2 rfl ?_
    refine z_iconst C dX11_lates_12 (v := 1) (by decide) ?_
    refine z_aload_n C dX11_lates_13 rfl 0 rfl ?_
    refine gf_X11_111 C dX11_lates_14 ho0 ?_
    refine z_ishl C dX11_lates_17 ?_
    exact z_icmp_ge C dX11_lates_18 (by decide) (fun h => z_sub [] rfl (b_X11_lates_122 C hr hk z (q_t hf h))) (fun h => z_sub [0, 1, 2] rfl (b_X11_lates_21 C hr hk ih z o0 x1 x2 ho0 (q_f hf h)))
def f_X11_lates_0  (z : St) (o0 : Nat) (x1 : Int32) : Option (St) :=
  if inb 0 256 = true then (f_X11_lates_11 FU (zI z (rf o0 37) (Int32.toNatClampNeg 0) 999) o0 x1 1) else none
theorem b_X11_lates_0 {p : Program} {l : Launch} {e : Env} {s : State} {m : MethodId} {args : Array Value} {below : List Frame} {meth : Method} {c : Code} {g : Ga} {A : Nat → Prop} (C : Cx l g A p s m args c cX11_lates 6 RX11 (rm_X11_lates) (0, 0)) (hr : meth.sig.returnType = none) (hk : meth.locks = false)   (z : St) (o0 : Nat) (x1 : Int32) (ho0 : kd o0 = 11) {res : St} (hf : f_X11_lates_0  z o0 x1 = some res) : Zj p l e (rm_X11_lates) s m args below meth c g A 6 (0, 0) (QV g A below args s res) z 0 [(0, .ref (g.1 o0)), (1, .int x1)] [] := by
  unfold f_X11_lates_0 at hf
  refine z_aload_n C dX11_lates_0 rfl 0 rfl ?_
  refine gf_X11_67 C dX11_lates_1 ho0 ?_
  refine z_iconst C dX11_lates_4 (v := 0) (by decide) ?_
  refine z_sipush C dX11_lates_5 (v := 999) (by decide) ?_
  obtain ⟨h1, hf⟩ := q_ck hf
  refine z_iast C (n := 256) dX11_lates_8 (rt_11_37 _ (kd_lt ho0 (by decide)) ho0) (by decide) h1 ?_
  refine z_iconst C dX11_lates_9 (v := 1) (by decide) ?_
  refine z_istore_n C (lv2 := [(2, .int 1), (0, .ref (g.1 o0)), (1, .int x1)]) dX11_lates_10 rfl (by decide) rfl ?_
  exact z_sub [1, 2, 0] rfl (b_X11_lates_11 C hr hk FU (zI z (rf o0 37) (Int32.toNatClampNeg 0) 999) o0 x1 1 ho0 hf)
def f_X11_lates (z : St) (o0 : Nat) (x1 : Int32) : Option (St) := f_X11_lates_0 z o0 x1
theorem c_X11_lates {l : Launch} {g : Ga} {A : Nat → Prop} {z : St} {o0 : Nat} {x1 : Int32} (ho0 : kd o0 = 11) {res : St} (hf : f_X11_lates z o0 x1 = some res) : CV l g A yX11_lates cX11_lates 6 none rm_X11_lates [.ref (g.1 o0), .int x1] z res :=
  e_CV (by decide) (Nat.le_of_ble_eq_true rfl) rfl (fun p e s m args below meth c C hr hk => z_sub [0, 1] rfl (b_X11_lates_0 C hr hk z o0 x1 ho0 hf))
abbrev rm_X11_fits : Room := { frames := 2, cells := 0, slots := 0, locals := 46 }
def f_X11_fits_19  (z : St) (s0 : Int32) : Option (St × Int32) :=
  if zb s0 = true then some (z, s0) else none
theorem b_X11_fits_19 {p : Program} {l : Launch} {e : Env} {s : State} {m : MethodId} {args : Array Value} {below : List Frame} {meth : Method} {c : Code} {g : Ga} {A : Nat → Prop} (C : Cx l g A p s m args c cX11_fits 3 RX11 (rm_X11_fits) (0, 0)) (hr : meth.sig.returnType = (some .boolean)) (hk : meth.locks = false)   (z : St) (s0 : Int32)  {res : St × Int32} (hf : f_X11_fits_19  z s0 = some res) : Zj p l e (rm_X11_fits) s m args below meth c g A 3 (0, 0) (QI g A below args s res) z 19 [] [.int s0] := by
  unfold f_X11_fits_19 at hf
  obtain ⟨h1, hf⟩ := q_ck hf
  cases hf
  exact z_zret C hr hk h1 dX11_fits_19
def f_X11_fits_14  (z : St)  : Option (St × Int32) :=
  f_X11_fits_19 z 1
theorem b_X11_fits_14 {p : Program} {l : Launch} {e : Env} {s : State} {m : MethodId} {args : Array Value} {below : List Frame} {meth : Method} {c : Code} {g : Ga} {A : Nat → Prop} (C : Cx l g A p s m args c cX11_fits 3 RX11 (rm_X11_fits) (0, 0)) (hr : meth.sig.returnType = (some .boolean)) (hk : meth.locks = false)   (z : St)   {res : St × Int32} (hf : f_X11_fits_14  z  = some res) : Zj p l e (rm_X11_fits) s m args below meth c g A 3 (0, 0) (QI g A below args s res) z 14 [] [] := by
  unfold f_X11_fits_14 at hf
  refine z_iconst C dX11_fits_14 (v := 1) (by decide) ?_
  exact z_goto C dX11_fits_15 (by decide) (z_sub [] rfl (b_X11_fits_19 C hr hk z 1 hf))
def f_X11_fits_18  (z : St)  : Option (St × Int32) :=
  f_X11_fits_19 z 0
theorem b_X11_fits_18 {p : Program} {l : Launch} {e : Env} {s : State} {m : MethodId} {args : Array Value} {below : List Frame} {meth : Method} {c : Code} {g : Ga} {A : Nat → Prop} (C : Cx l g A p s m args c cX11_fits 3 RX11 (rm_X11_fits) (0, 0)) (hr : meth.sig.returnType = (some .boolean)) (hk : meth.locks = false)   (z : St)   {res : St × Int32} (hf : f_X11_fits_18  z  = some res) : Zj p l e (rm_X11_fits) s m args below meth c g A 3 (0, 0) (QI g A below args s res) z 18 [] [] := by
  unfold f_X11_fits_18 at hf
  refine z_iconst C dX11_fits_18 (v := 0) (by decide) ?_
  exact z_sub [] rfl (b_X11_fits_19 C hr hk z 0 hf)
def f_X11_fits_0  (z : St) (o0 : Nat) (x1 : Int32) (x2 : Int32) : Option (St × Int32) :=
  ((f_X11_lates z o0 x2).bind fun r1 => if inb x1 256 = true then (if (r1.1 (rf o0 37) (Int32.toNatClampNeg x1)) < 0 then f_X11_fits_18 r1 else f_X11_fits_14 r1) else none)
theorem b_X11_fits_0 {p : Program} {l : Launch} {e : Env} {s : State} {m : MethodId} {args : Array Value} {below : List Frame} {meth : Method} {c : Code} {g : Ga} {A : Nat → Prop} (C : Cx l g A p s m args c cX11_fits 3 RX11 (rm_X11_fits) (0, 0)) (hr : meth.sig.returnType = (some .boolean)) (hk : meth.locks = false)   (z : St) (o0 : Nat) (x1 : Int32) (x2 : Int32) (ho0 : kd o0 = 11) {res : St × Int32} (hf : f_X11_fits_0  z o0 x1 x2 = some res) : Zj p l e (rm_X11_fits) s m args below meth c g A 3 (0, 0) (QI g A below args s res) z 0 [(0, .ref (g.1 o0)), (1, .int x1), (2, .int x2)] [] := by
  unfold f_X11_fits_0 at hf
  refine z_aload_n C dX11_fits_0 rfl 0 rfl ?_
  refine z_iload_n C dX11_fits_1 rfl 2 rfl ?_
  obtain ⟨r1, hc2, hf⟩ := q_bd hf
  refine z_cVv C (st := []) (c_X11_lates ho0 hc2) mw_X11_lates ml_X11_277 ho0 (by decide) rfl dX11_fits_2 rfl rfl rfl ⟨Nat.le_of_ble_eq_true rfl, Nat.le_of_ble_eq_true rfl⟩ rfl (Nat.le_of_ble_eq_true rfl) ?_
  refine z_aload_n C dX11_fits_5 rfl 0 rfl ?_
  refine gf_X11_67 C dX11_fits_6 ho0 ?_
  refine z_iload_n C dX11_fits_9 rfl 1 rfl ?_
  obtain ⟨h3, hf⟩ := q_ck hf
  refine z_iald C (n := 256) dX11_fits_10 (rt_11_37 _ (kd_lt ho0 (by decide)) ho0) (by decide) h3 ?_
  exact z_if_lt C dX11_fits_11 (by decide) (fun h => z_sub [] rfl (b_X11_fits_18 C hr hk r1 (q_t hf h))) (fun h => z_sub [] rfl (b_X11_fits_14 C hr hk r1 (q_f hf h)))
def f_X11_fits (z : St) (o0 : Nat) (x1 : Int32) (x2 : Int32) : Option (St × Int32) := f_X11_fits_0 z o0 x1 x2
theorem c_X11_fits {l : Launch} {g : Ga} {A : Nat → Prop} {z : St} {o0 : Nat} {x1 : Int32} {x2 : Int32} (ho0 : kd o0 = 11) {res : St × Int32} (hf : f_X11_fits z o0 x1 x2 = some res) : CI l g A yX11_fits cX11_fits 3 (some .boolean) rm_X11_fits [.ref (g.1 o0), .int x1, .int x2] z res :=
  e_CI (by decide) (Nat.le_of_ble_eq_true rfl) rfl (fun p e s m args below meth c C hr hk => z_sub [0, 1, 2] rfl (b_X11_fits_0 C hr hk z o0 x1 x2 ho0 hf))
abbrev rm_X11_leastOf : Room := { frames := 3, cells := 0, slots := 0, locals := 68 }
def f_X11_leastOf_41 (K5 : St → Nat → Int32 → Int32 → Int32 → Option (St × Int32)) (z : St) (o0 : Nat) (x1 : Int32) (x3 : Int32) (x4 : Int32) : Option (St × Int32) :=
  K5 z o0 x1 x3 x4
theorem b_X11_leastOf_41 {p : Program} {l : Launch} {e : Env} {s : State} {m : MethodId} {args : Array Value} {below : List Frame} {meth : Method} {c : Code} {g : Ga} {A : Nat → Prop} (C : Cx l g A p s m args c cX11_leastOf 6 RX11 (rm_X11_leastOf) (0, 0)) (hr : meth.sig.returnType = (some .int)) (hk : meth.locks = false) {K5 : St → Nat → Int32 → Int32 → Int32 → Option (St × Int32)} (hK5 : ∀ (z : St) (o0 : Nat) (x1 : Int32) (x3 : Int32) (x4 : Int32) (_ : kd o0 = 11) {res : St × Int32}, K5 z o0 x1 x3 x4 = some res → Zj p l e (rm_X11_leastOf) s m args below meth c g A 6 (0, 0) (QI g A below args s res) z 5 [(0, .ref (g.1 o0)), (1, .int x1), (3, .int x3), (4, .int x4)] []) (z : St) (o0 : Nat) (x1 : Int32) (x3 : Int32) (x4 : Int32) (ho0 : kd o0 = 11) {res : St × Int32} (hf : f_X11_leastOf_41 K5 z o0 x1 x3 x4 = some res) : Zj p l e (rm_X11_leastOf) s m args below meth c g A 6 (0, 0) (QI g A below args s res) z 41 [(0, .ref (g.1 o0)), (1, .int x1), (3, .int x3), (4, .int x4)] [] := by
  unfold f_X11_leastOf_41 at hf
  exact z_goto C dX11_leastOf_41 (by decide) (z_sub [0, 1, 2, 3] rfl (hK5 z o0 x1 x3 x4 ho0 hf))
def f_X11_leastOf_31 (K5 : St → Nat → Int32 → Int32 → Int32 → Option (St × Int32)) (z : St) (o0 : Nat) (x1 : Int32) (x3 : Int32) (x5 : Int32) : Option (St × Int32) :=
  f_X11_leastOf_41 K5 z o0 x1 x3 x5
theorem b_X11_leastOf_31 {p : Program} {l : Launch} {e : Env} {s : State} {m : MethodId} {args : Array Value} {below : List Frame} {meth : Method} {c : Code} {g : Ga} {A : Nat → Prop} (C : Cx l g A p s m args c cX11_leastOf 6 RX11 (rm_X11_leastOf) (0, 0)) (hr : meth.sig.returnType = (some .int)) (hk : meth.locks = false) {K5 : St → Nat → Int32 → Int32 → Int32 → Option (St × Int32)} (hK5 : ∀ (z : St) (o0 : Nat) (x1 : Int32) (x3 : Int32) (x4 : Int32) (_ : kd o0 = 11) {res : St × Int32}, K5 z o0 x1 x3 x4 = some res → Zj p l e (rm_X11_leastOf) s m args below meth c g A 6 (0, 0) (QI g A below args s res) z 5 [(0, .ref (g.1 o0)), (1, .int x1), (3, .int x3), (4, .int x4)] []) (z : St) (o0 : Nat) (x1 : Int32) (x3 : Int32) (x5 : Int32) (ho0 : kd o0 = 11) {res : St × Int32} (hf : f_X11_leastOf_31 K5 z o0 x1 x3 x5 = some res) : Zj p l e (rm_X11_leastOf) s m args below meth c g A 6 (0, 0) (QI g A below args s res) z 31 [(0, .ref (g.1 o0)), (1, .int x1), (3, .int x3), (5, .int x5)] [] := by
  unfold f_X11_leastOf_31 at hf
  refine z_iload C dX11_leastOf_31 3 rfl ?_
  refine z_istore C (lv2 := [(4, .int x5), (0, .ref (g.1 o0)), (1, .int x1), (3, .int x3), (5, .int x5)]) dX11_leastOf_33 (by decide) rfl ?_
  exact z_goto C dX11_leastOf_35 (by decide) (z_sub [1, 2, 3, 0] rfl (b_X11_leastOf_41 C hr hk hK5 z o0 x1 x3 x5 ho0 hf))
def f_X11_leastOf_38 (K5 : St → Nat → Int32 → Int32 → Int32 → Option (St × Int32)) (z : St) (o0 : Nat) (x1 : Int32) (x4 : Int32) (x5 : Int32) : Option (St × Int32) :=
  f_X11_leastOf_41 K5 z o0 x1 x5 x4
theorem b_X11_leastOf_38 {p : Program} {l : Launch} {e : Env} {s : State} {m : MethodId} {args : Array Value} {below : List Frame} {meth : Method} {c : Code} {g : Ga} {A : Nat → Prop} (C : Cx l g A p s m args c cX11_leastOf 6 RX11 (rm_X11_leastOf) (0, 0)) (hr : meth.sig.returnType = (some .int)) (hk : meth.locks = false) {K5 : St → Nat → Int32 → Int32 → Int32 → Option (St × Int32)} (hK5 : ∀ (z : St) (o0 : Nat) (x1 : Int32) (x3 : Int32) (x4 : Int32) (_ : kd o0 = 11) {res : St × Int32}, K5 z o0 x1 x3 x4 = some res → Zj p l e (rm_X11_leastOf) s m args below meth c g A 6 (0, 0) (QI g A below args s res) z 5 [(0, .ref (g.1 o0)), (1, .int x1), (3, .int x3), (4, .int x4)] []) (z : St) (o0 : Nat) (x1 : Int32) (x4 : Int32) (x5 : Int32) (ho0 : kd o0 = 11) {res : St × Int32} (hf : f_X11_leastOf_38 K5 z o0 x1 x4 x5 = some res) : Zj p l e (rm_X11_leastOf) s m args below meth c g A 6 (0, 0) (QI g A below args s res) z 38 [(0, .ref (g.1 o0)), (1, .int x1), (4, .int x4), (5, .int x5)] [] := by
  unfold f_X11_leastOf_38 at hf
  refine z_iload C dX11_leastOf_38 3 rfl ?_
  refine z_istore_n C (lv2 := [(3, .int x5), (0, .ref (g.1 o0)), (1, .int x1), (4, .int x4), (5, .int x5)]) dX11_leastOf_40 rfl (by decide) rfl ?_
  exact z_sub [1, 2, 0, 3] rfl (b_X11_leastOf_41 C hr hk hK5 z o0 x1 x5 x4 ho0 hf)
def f_X11_leastOf_13 (K5 : St → Nat → Int32 → Int32 → Int32 → Option (St × Int32)) (z : St) (o0 : Nat) (x1 : Int32) (x3 : Int32) (x4 : Int32) : Option (St × Int32) :=
  ((f_X11_fits z o0 x1 ((x3 + x4) / 2)).bind fun r1 => if r1.2 = 0 then f_X11_leastOf_38 K5 r1.1 o0 x1 x4 ((x3 + x4) / 2) else f_X11_leastOf_31 K5 r1.1 o0 x1 x3 ((x3 + x4) / 2))
theorem b_X11_leastOf_13 {p : Program} {l : Launch} {e : Env} {s : State} {m : MethodId} {args : Array Value} {below : List Frame} {meth : Method} {c : Code} {g : Ga} {A : Nat → Prop} (C : Cx l g A p s m args c cX11_leastOf 6 RX11 (rm_X11_leastOf) (0, 0)) (hr : meth.sig.returnType = (some .int)) (hk : meth.locks = false) {K5 : St → Nat → Int32 → Int32 → Int32 → Option (St × Int32)} (hK5 : ∀ (z : St) (o0 : Nat) (x1 : Int32) (x3 : Int32) (x4 : Int32) (_ : kd o0 = 11) {res : St × Int32}, K5 z o0 x1 x3 x4 = some res → Zj p l e (rm_X11_leastOf) s m args below meth c g A 6 (0, 0) (QI g A below args s res) z 5 [(0, .ref (g.1 o0)), (1, .int x1), (3, .int x3), (4, .int x4)] []) (z : St) (o0 : Nat) (x1 : Int32) (x3 : Int32) (x4 : Int32) (ho0 : kd o0 = 11) {res : St × Int32} (hf : f_X11_leastOf_13 K5 z o0 x1 x3 x4 = some res) : Zj p l e (rm_X11_leastOf) s m args below meth c g A 6 (0, 0) (QI g A below args s res) z 13 [(0, .ref (g.1 o0)), (1, .int x1), (3, .int x3), (4, .int x4)] [] := by
  unfold f_X11_leastOf_13 at hf
  refine z_iload_n C dX11_leastOf_13 rfl 2 rfl ?_
  refine z_iload C dX11_leastOf_14 3 rfl ?_
  refine z_iadd C dX11_leastOf_16 ?_
  refine z_iconst C dX11_leastOf_17 (v := 2) (by decide) ?_
  refine z_idiv C dX11_leastOf_18 (by decide) ?_
  refine z_istore C (lv2 := [(5, .int ((x3 + x4) / 2)), (0, .ref (g.1 o0)), (1, .int x1), (3, .int x3), (4, .int x4)]) dX11_leastOf_19 (by decide) rfl ?_
  refine z_aload_n C dX11_leastOf_21 rfl 1 rfl ?_
  refine z_iload_n C dX11_leastOf_22 rfl 2 rfl ?_
  refine z_iload C dX11_leastOf_23 0 rfl ?_
  obtain ⟨r1, hc2, hf⟩ := q_bd hf
  refine z_cVi C (st := []) (c_X11_fits ho0 hc2) mw_X11_fits ml_X11_280 ho0 (by decide) rfl dX11_leastOf_25 rfl rfl rfl ⟨Nat.le_of_ble_eq_true rfl, Nat.le_of_ble_eq_true rfl⟩ rfl (Nat.le_of_ble_eq_true rfl) ?_
  exact z_if_eq C dX11_leastOf_28 (by decide) (fun h => z_sub [1, 2, 4, 0] rfl (b_X11_leastOf_38 C hr hk hK5 r1.1 o0 x1 x4 ((x3 + x4) / 2) ho0 (q_t hf h))) (fun h => z_sub [1, 2, 3, 0] rfl (b_X11_leastOf_31 C hr hk hK5 r1.1 o0 x1 x3 ((x3 + x4) / 2) ho0 (q_f hf h)))
def f_X11_leastOf_54  (z : St) (s0 : Int32) : Option (St × Int32) :=
  some (z, s0)
theorem b_X11_leastOf_54 {p : Program} {l : Launch} {e : Env} {s : State} {m : MethodId} {args : Array Value} {below : List Frame} {meth : Method} {c : Code} {g : Ga} {A : Nat → Prop} (C : Cx l g A p s m args c cX11_leastOf 6 RX11 (rm_X11_leastOf) (0, 0)) (hr : meth.sig.returnType = (some .int)) (hk : meth.locks = false)   (z : St) (s0 : Int32)  {res : St × Int32} (hf : f_X11_leastOf_54  z s0 = some res) : Zj p l e (rm_X11_leastOf) s m args below meth c g A 6 (0, 0) (QI g A below args s res) z 54 [] [.int s0] := by
  unfold f_X11_leastOf_54 at hf
  cases hf
  exact z_iret C hr hk dX11_leastOf_54
def f_X11_leastOf_48  (z : St)  : Option (St × Int32) :=
  f_X11_leastOf_54 z 0
theorem b_X11_leastOf_48 {p : Program} {l : Launch} {e : Env} {s : State} {m : MethodId} {args : Array Value} {below : List Frame} {meth : Method} {c : Code} {g : Ga} {A : Nat → Prop} (C : Cx l g A p s m args c cX11_leastOf 6 RX11 (rm_X11_leastOf) (0, 0)) (hr : meth.sig.returnType = (some .int)) (hk : meth.locks = false)   (z : St)   {res : St × Int32} (hf : f_X11_leastOf_48  z  = some res) : Zj p l e (rm_X11_leastOf) s m args below meth c g A 6 (0, 0) (QI g A below args s res) z 48 [] [] := by
  unfold f_X11_leastOf_48 at hf
  refine z_iconst C dX11_leastOf_48 (v := 0) (by decide) ?_
  exact z_goto C dX11_leastOf_49 (by decide) (z_sub [] rfl (b_X11_leastOf_54 C hr hk z 0 hf))
def f_X11_leastOf_52  (z : St) (x4 : Int32) : Option (St × Int32) :=
  f_X11_leastOf_54 z x4
theorem b_X11_leastOf_52 {p : Program} {l : Launch} {e : Env} {s : State} {m : MethodId} {args : Array Value} {below : List Frame} {meth : Method} {c : Code} {g : Ga} {A : Nat → Prop} (C : Cx l g A p s m args c cX11_leastOf 6 RX11 (rm_X11_leastOf) (0, 0)) (hr : meth.sig.returnType = (some .int)) (hk : meth.locks = false)   (z : St) (x4 : Int32)  {res : St × Int32} (hf : f_X11_leastOf_52  z x4 = some res) : Zj p l e (rm_X11_leastOf) s m args below meth c g A 6 (0, 0) (QI g A below args s res) z 52 [(4, .int x4)] [] := by
  unfold f_X11_leastOf_52 at hf
  refine z_iload C dX11_leastOf_52 0 rfl ?_
  exact z_sub [] rfl (b_X11_leastOf_54 C hr hk z x4 hf)
def f_X11_leastOf_44  (z : St) (x1 : Int32) (x4 : Int32) : Option (St × Int32) :=
  if x1 = 0 then f_X11_leastOf_48 z else f_X11_leastOf_52 z x4
theorem b_X11_leastOf_44 {p : Program} {l : Launch} {e : Env} {s : State} {m : MethodId} {args : Array Value} {below : List Frame} {meth : Method} {c : Code} {g : Ga} {A : Nat → Prop} (C : Cx l g A p s m args c cX11_leastOf 6 RX11 (rm_X11_leastOf) (0, 0)) (hr : meth.sig.returnType = (some .int)) (hk : meth.locks = false)   (z : St) (x1 : Int32) (x4 : Int32)  {res : St × Int32} (hf : f_X11_leastOf_44  z x1 x4 = some res) : Zj p l e (rm_X11_leastOf) s m args below meth c g A 6 (0, 0) (QI g A below args s res) z 44 [(1, .int x1), (4, .int x4)] [] := by
  unfold f_X11_leastOf_44 at hf
  refine z_iload_n C dX11_leastOf_44 rfl 0 rfl ?_
  exact z_if_ne C dX11_leastOf_45 (by decide) (fun h => z_sub [1] rfl (b_X11_leastOf_52 C hr hk z x4 (q_f hf h))) (fun h => z_sub [] rfl (b_X11_leastOf_48 C hr hk z (q_t hf h)))
def f_X11_leastOf_5  : Nat → St → Nat → Int32 → Int32 → Int32 → Option (St × Int32)
  | 0, _, _, _, _, _ => none
  | n + 1, z, o0, x1, x3, x4 => if x4 ≤ (x3 + 1) then f_X11_leastOf_44 z x1 x4 else f_X11_leastOf_13 (f_X11_leastOf_5 n) z o0 x1 x3 x4
theorem b_X11_leastOf_5 {p : Program} {l : Launch} {e : Env} {s : State} {m : MethodId} {args : Array Value} {below : List Frame} {meth : Method} {c : Code} {g : Ga} {A : Nat → Prop} (C : Cx l g A p s m args c cX11_leastOf 6 RX11 (rm_X11_leastOf) (0, 0)) (hr : meth.sig.returnType = (some .int)) (hk : meth.locks = false)   : ∀ (n : Nat) (z : St) (o0 : Nat) (x1 : Int32) (x3 : Int32) (x4 : Int32) (_ : kd o0 = 11) {res : St × Int32} (_ : f_X11_leastOf_5  n z o0 x1 x3 x4 = some res), Zj p l e (rm_X11_leastOf) s m args below meth c g A 6 (0, 0) (QI g A below args s res) z 5 [(0, .ref (g.1 o0)), (1, .int x1), (3, .int x3), (4, .int x4)] [] := by
  intro n
  induction n with
  | zero =>
    intro z o0 x1 x3 x4 ho0 res hf
    cases hf
  | succ n ih =>
    intro z o0 x1 x3 x4 ho0 res hf
    rw [f_X11_leastOf_5] at hf
    refine z_iload_n C dX11_leastOf_5 rfl 2 rfl ?_
    refine z_iconst C dX11_leastOf_6 (v := 1) (by decide) ?_
    refine z_iadd C dX11_leastOf_7 ?_
    refine z_iload C dX11_leastOf_8 3 rfl ?_
    exact z_icmp_ge C dX11_leastOf_10 (by decide) (fun h => z_sub [1, 3] rfl (b_X11_leastOf_44 C hr hk z x1 x4 (q_t hf h))) (fun h => z_sub [0, 1, 2, 3] rfl (b_X11_leastOf_13 C hr hk ih z o0 x1 x3 x4 ho0 (q_f hf h)))
def f_X11_leastOf_0  (z : St) (o0 : Nat) (x1 : Int32) (x2 : Int32) : Option (St × Int32) :=
  f_X11_leastOf_5 FU z o0 x1 ((-1)) x2
theorem b_X11_leastOf_0 {p : Program} {l : Launch} {e : Env} {s : State} {m : MethodId} {args : Array Value} {below : List Frame} {meth : Method} {c : Code} {g : Ga} {A : Nat → Prop} (C : Cx l g A p s m args c cX11_leastOf 6 RX11 (rm_X11_leastOf) (0, 0)) (hr : meth.sig.returnType = (some .int)) (hk : meth.locks = false)   (z : St) (o0 : Nat) (x1 : Int32) (x2 : Int32) (ho0 : kd o0 = 11) {res : St × Int32} (hf : f_X11_leastOf_0  z o0 x1 x2 = some res) : Zj p l e (rm_X11_leastOf) s m args below meth c g A 6 (0, 0) (QI g A below args s res) z 0 [(0, .ref (g.1 o0)), (1, .int x1), (2, .int x2)] [] := by
  unfold f_X11_leastOf_0 at hf
  refine z_iconst C dX11_leastOf_0 (v := (-1)) (by decide) ?_
  refine z_istore_n C (lv2 := [(3, .int ((-1))), (0, .ref (g.1 o0)), (1, .int x1), (2, .int x2)]) dX11_leastOf_1 rfl (by decide) rfl ?_
  refine z_iload_n C dX11_leastOf_2 rfl 3 rfl ?_
  refine z_istore C (lv2 := [(4, .int x2), (3, .int ((-1))), (0, .ref (g.1 o0)), (1, .int x1), (2, .int x2)]) dX11_leastOf_3 (by decide) rfl ?_
  exact z_sub [2, 3, 1, 0] rfl (b_X11_leastOf_5 C hr hk FU z o0 x1 ((-1)) x2 ho0 hf)
def f_X11_leastOf (z : St) (o0 : Nat) (x1 : Int32) (x2 : Int32) : Option (St × Int32) := f_X11_leastOf_0 z o0 x1 x2
theorem c_X11_leastOf {l : Launch} {g : Ga} {A : Nat → Prop} {z : St} {o0 : Nat} {x1 : Int32} {x2 : Int32} (ho0 : kd o0 = 11) {res : St × Int32} (hf : f_X11_leastOf z o0 x1 x2 = some res) : CI l g A yX11_leastOf cX11_leastOf 6 (some .int) rm_X11_leastOf [.ref (g.1 o0), .int x1, .int x2] z res :=
  e_CI (by decide) (Nat.le_of_ble_eq_true rfl) rfl (fun p e s m args below meth c C hr hk => z_sub [0, 1, 2] rfl (b_X11_leastOf_0 C hr hk z o0 x1 x2 ho0 hf))
abbrev rm_X11_all : Room := { frames := 0, cells := 0, slots := 0, locals := 0 }
def f_X11_all_0  (z : St) (o0 : Nat) : Option (St × Int32) :=
  some (z, ((1 : Int32) <<< ((z.1 o0 5) &&& 31)) - 1)
theorem b_X11_all_0 {p : Program} {l : Launch} {e : Env} {s : State} {m : MethodId} {args : Array Value} {below : List Frame} {meth : Method} {c : Code} {g : Ga} {A : Nat → Prop} (C : Cx l g A p s m args c cX11_all 1 RX11 (rm_X11_all) (0, 0)) (hr : meth.sig.returnType = (some .int)) (hk : meth.locks = false)   (z : St) (o0 : Nat) (ho0 : kd o0 = 11) {res : St × Int32} (hf : f_X11_all_0  z o0 = some res) : Zj p l e (rm_X11_all) s m args below meth c g A 1 (0, 0) (QI g A below args s res) z 0 [(0, .ref (g.1 o0))] [] := by
  unfold f_X11_all_0 at hf
  refine z_iconst C dX11_all_0 (v := 1) (by decide) ?_
  refine z_aload_n C dX11_all_1 rfl 0 rfl ?_
  refine gf_X11_111 C dX11_all_2 ho0 ?_
  refine z_ishl C dX11_all_5 ?_
  refine z_iconst C dX11_all_6 (v := 1) (by decide) ?_
  refine z_isub C dX11_all_7 ?_
  cases hf
  exact z_iret C hr hk dX11_all_8
def f_X11_all (z : St) (o0 : Nat) : Option (St × Int32) := f_X11_all_0 z o0
theorem c_X11_all {l : Launch} {g : Ga} {A : Nat → Prop} {z : St} {o0 : Nat} (ho0 : kd o0 = 11) {res : St × Int32} (hf : f_X11_all z o0 = some res) : CI l g A yX11_all cX11_all 1 (some .int) rm_X11_all [.ref (g.1 o0)] z res :=
  e_CI (by decide) (Nat.le_of_ble_eq_true rfl) rfl (fun p e s m args below meth c C hr hk => z_sub [0] rfl (b_X11_all_0 C hr hk z o0 ho0 hf))
abbrev rm_X11_leastNow : Room := { frames := 4, cells := 0, slots := 0, locals := 93 }
def f_X11_leastNow_0  (z : St) (o0 : Nat) : Option (St × Int32) :=
  ((f_X11_all z o0).bind fun r1 => ((f_X11_greedily r1.1 o0).bind fun r3 => ((f_X11_leastOf r3.1 o0 r1.2 r3.2).bind fun r5 => some (r5.1, r5.2))))
theorem b_X11_leastNow_0 {p : Program} {l : Launch} {e : Env} {s : State} {m : MethodId} {args : Array Value} {below : List Frame} {meth : Method} {c : Code} {g : Ga} {A : Nat → Prop} (C : Cx l g A p s m args c cX11_leastNow 1 RX11 (rm_X11_leastNow) (0, 0)) (hr : meth.sig.returnType = (some .int)) (hk : meth.locks = false)   (z : St) (o0 : Nat) (ho0 : kd o0 = 11) {res : St × Int32} (hf : f_X11_leastNow_0  z o0 = some res) : Zj p l e (rm_X11_leastNow) s m args below meth c g A 1 (0, 0) (QI g A below args s res) z 0 [(0, .ref (g.1 o0))] [] := by
  unfold f_X11_leastNow_0 at hf
  refine z_aload_n C dX11_leastNow_0 rfl 0 rfl ?_
  refine z_aload_n C dX11_leastNow_1 rfl 0 rfl ?_
  obtain ⟨r1, hc2, hf⟩ := q_bd hf
  refine z_cVi C (st := [.ref (g.1 o0)]) (c_X11_all ho0 hc2) mw_X11_all ml_X11_283 ho0 (by decide) rfl dX11_leastNow_2 rfl rfl rfl ⟨Nat.le_of_ble_eq_true rfl, Nat.le_of_ble_eq_true rfl⟩ rfl (Nat.le_of_ble_eq_true rfl) ?_
  refine z_aload_n C dX11_leastNow_5 rfl 0 rfl ?_
  obtain ⟨r3, hc4, hf⟩ := q_bd hf
  refine z_cVi C (st := [.int r1.2, .ref (g.1 o0)]) (c_X11_greedily ho0 hc4) mw_X11_greedily ml_X11_208 ho0 (by decide) rfl dX11_leastNow_6 rfl rfl rfl ⟨Nat.le_of_ble_eq_true rfl, Nat.le_of_ble_eq_true rfl⟩ rfl (Nat.le_of_ble_eq_true rfl) ?_
  obtain ⟨r5, hc6, hf⟩ := q_bd hf
  refine z_cVi C (st := []) (c_X11_leastOf ho0 hc6) mw_X11_leastOf ml_X11_286 ho0 (by decide) rfl dX11_leastNow_9 rfl rfl rfl ⟨Nat.le_of_ble_eq_true rfl, Nat.le_of_ble_eq_true rfl⟩ rfl (Nat.le_of_ble_eq_true rfl) ?_
  cases hf
  exact z_iret C hr hk dX11_leastNow_12
def f_X11_leastNow (z : St) (o0 : Nat) : Option (St × Int32) := f_X11_leastNow_0 z o0
theorem c_X11_leastNow {l : Launch} {g : Ga} {A : Nat → Prop} {z : St} {o0 : Nat} (ho0 : kd o0 = 11) {res : St × Int32} (hf : f_X11_leastNow z o0 = some res) : CI l g A yX11_leastNow cX11_leastNow 1 (some .int) rm_X11_leastNow [.ref (g.1 o0)] z res :=
  e_CI (by decide) (Nat.le_of_ble_eq_true rfl) rfl (fun p e s m args below meth c C hr hk => z_sub [0] rfl (b_X11_leastNow_0 C hr hk z o0 ho0 hf))
abbrev rm_X11_spreads : Room := { frames := 1, cells := 0, slots := 0, locals := 21 }
def f_X11_spreads_110 (K3 : St → Nat → Int32 → Int32 → Int32 → Int32 → Option (St)) (z : St) (o0 : Nat) (x1 : Int32) (x2 : Int32) (x3 : Int32) (x4 : Int32) : Option (St) :=
  K3 z o0 x1 x2 x3 (x4 + 1)
theorem b_X11_spreads_110 {p : Program} {l : Launch} {e : Env} {s : State} {m : MethodId} {args : Array Value} {below : List Frame} {meth : Method} {c : Code} {g : Ga} {A : Nat → Prop} (C : Cx l g A p s m args c cX11_spreads 7 RX11 (rm_X11_spreads) (0, 0)) (hr : meth.sig.returnType = none) (hk : meth.locks = false) {K3 : St → Nat → Int32 → Int32 → Int32 → Int32 → Option (St)} (hK3 : ∀ (z : St) (o0 : Nat) (x1 : Int32) (x2 : Int32) (x3 : Int32) (x4 : Int32) (_ : kd o0 = 11) {res : St}, K3 z o0 x1 x2 x3 x4 = some res → Zj p l e (rm_X11_spreads) s m args below meth c g A 7 (0, 0) (QV g A below args s res) z 3 [(0, .ref (g.1 o0)), (1, .int x1), (2, .int x2), (3, .int x3), (4, .int x4)] []) (z : St) (o0 : Nat) (x1 : Int32) (x2 : Int32) (x3 : Int32) (x4 : Int32) (ho0 : kd o0 = 11) {res : St} (hf : f_X11_spreads_110 K3 z o0 x1 x2 x3 x4 = some res) : Zj p l e (rm_X11_spreads) s m args below meth c g A 7 (0, 0) (QV g A below args s res) z 110 [(0, .ref (g.1 o0)), (1, .int x1), (2, .int x2), (3, .int x3), (4, .int x4)] [] := by
  unfold f_X11_spreads_110 at hf
  refine z_iinc C (k := 4) (v := x4 + 1) (lv2 := [(4, .int (x4 + 1)), (0, .ref (g.1 o0)), (1, .int x1), (2, .int x2), (3, .int x3)]) dX11_spreads_110 rfl rfl (by decide) rfl ?_
  exact z_goto C dX11_spreads_113 (by decide) (z_sub [1, 2, 3, 4, 0] rfl (hK3 z o0 x1 x2 x3 (x4 + 1) ho0 hf))
def f_X11_spreads_22 (K3 : St → Nat → Int32 → Int32 → Int32 → Int32 → Option (St)) (z : St) (o0 : Nat) (x1 : Int32) (x2 : Int32) (x3 : Int32) (x4 : Int32) : Option (St) :=
  f_X11_spreads_110 K3 z o0 x1 x2 x3 x4
theorem b_X11_spreads_22 {p : Program} {l : Launch} {e : Env} {s : State} {m : MethodId} {args : Array Value} {below : List Frame} {meth : Method} {c : Code} {g : Ga} {A : Nat → Prop} (C : Cx l g A p s m args c cX11_spreads 7 RX11 (rm_X11_spreads) (0, 0)) (hr : meth.sig.returnType = none) (hk : meth.locks = false) {K3 : St → Nat → Int32 → Int32 → Int32 → Int32 → Option (St)} (hK3 : ∀ (z : St) (o0 : Nat) (x1 : Int32) (x2 : Int32) (x3 : Int32) (x4 : Int32) (_ : kd o0 = 11) {res : St}, K3 z o0 x1 x2 x3 x4 = some res → Zj p l e (rm_X11_spreads) s m args below meth c g A 7 (0, 0) (QV g A below args s res) z 3 [(0, .ref (g.1 o0)), (1, .int x1), (2, .int x2), (3, .int x3), (4, .int x4)] []) (z : St) (o0 : Nat) (x1 : Int32) (x2 : Int32) (x3 : Int32) (x4 : Int32) (ho0 : kd o0 = 11) {res : St} (hf : f_X11_spreads_22 K3 z o0 x1 x2 x3 x4 = some res) : Zj p l e (rm_X11_spreads) s m args below meth c g A 7 (0, 0) (QV g A below args s res) z 22 [(0, .ref (g.1 o0)), (1, .int x1), (2, .int x2), (3, .int x3), (4, .int x4)] [] := by
  unfold f_X11_spreads_22 at hf
  exact z_goto C dX11_spreads_22 (by decide) (z_sub [0, 1, 2, 3, 4] rfl (b_X11_spreads_110 C hr hk hK3 z o0 x1 x2 x3 x4 ho0 hf))
def f_X11_spreads_75 (K3 : St → Nat → Int32 → Int32 → Int32 → Int32 → Option (St)) (z : St) (o0 : Nat) (x1 : Int32) (x2 : Int32) (x3 : Int32) (x4 : Int32) (x5 : Int32) (x6 : Int32) : Option (St) :=
  if inb x6 256 = true then (if inb (((64 * x6) + x5) - (z.1 (rf o0 39) (Int32.toNatClampNeg x6))) 16384 = true then (if inb ((64 * x1) + x2) 16384 = true then (if inb (((64 * x6) + x5) - (z.1 (rf o0 39) (Int32.toNatClampNeg x6))) 16384 = true then (f_X11_spreads_110 K3 (zI z (rf o0 40) (Int32.toNatClampNeg (((64 * x6) + x5) - (z.1 (rf o0 39) (Int32.toNatClampNeg x6)))) ((z.1 (rf o0 40) (Int32.toNatClampNeg (((64 * x6) + x5) - (z.1 (rf o0 39) (Int32.toNatClampNeg x6))))) + (z.1 (rf o0 40) (Int32.toNatClampNeg ((64 * x1) + x2))))) o0 x1 x2 x3 x4) else none) else none) else none) else none
theorem b_X11_spreads_75 {p : Program} {l : Launch} {e : Env} {s : State} {m : MethodId} {args : Array Value} {below : List Frame} {meth : Method} {c : Code} {g : Ga} {A : Nat → Prop} (C : Cx l g A p s m args c cX11_spreads 7 RX11 (rm_X11_spreads) (0, 0)) (hr : meth.sig.returnType = none) (hk : meth.locks = false) {K3 : St → Nat → Int32 → Int32 → Int32 → Int32 → Option (St)} (hK3 : ∀ (z : St) (o0 : Nat) (x1 : Int32) (x2 : Int32) (x3 : Int32) (x4 : Int32) (_ : kd o0 = 11) {res : St}, K3 z o0 x1 x2 x3 x4 = some res → Zj p l e (rm_X11_spreads) s m args below meth c g A 7 (0, 0) (QV g A below args s res) z 3 [(0, .ref (g.1 o0)), (1, .int x1), (2, .int x2), (3, .int x3), (4, .int x4)] []) (z : St) (o0 : Nat) (x1 : Int32) (x2 : Int32) (x3 : Int32) (x4 : Int32) (x5 : Int32) (x6 : Int32) (ho0 : kd o0 = 11) {res : St} (hf : f_X11_spreads_75 K3 z o0 x1 x2 x3 x4 x5 x6 = some res) : Zj p l e (rm_X11_spreads) s m args below meth c g A 7 (0, 0) (QV g A below args s res) z 75 [(0, .ref (g.1 o0)), (1, .int x1), (2, .int x2), (3, .int x3), (4, .int x4), (5, .int x5), (6, .int x6)] [] := by
  unfold f_X11_spreads_75 at hf
  refine z_aload_n C dX11_spreads_75 rfl 0 rfl ?_
  refine gf_X11_76 C dX11_spreads_76 ho0 ?_
  refine z_bipush C dX11_spreads_79 (v := 64) (by decide) ?_
  refine z_iload C dX11_spreads_81 6 rfl ?_
  refine z_imul C dX11_spreads_83 ?_
  refine z_iload C dX11_spreads_84 5 rfl ?_
  refine z_iadd C dX11_spreads_86 ?_
  refine z_aload_n C dX11_spreads_87 rfl 0 rfl ?_
  refine gf_X11_73 C dX11_spreads_88 ho0 ?_
  refine z_iload C dX11_spreads_91 6 rfl ?_
  obtain ⟨h1, hf⟩ := q_ck hf
  refine z_iald C (n := 256) dX11_spreads_93 (rt_11_39 _ (kd_lt ho0 (by decide)) ho0) (by decide) h1 ?_
  refine z_isub C dX11_spreads_94 ?_
  refine z_dup2 C dX11_spreads_95 rfl rfl ?_
  obtain ⟨h2, hf⟩ := q_ck hf
  refine z_iald C (n := 16384) dX11_spreads_96 (rt_11_40 _ (kd_lt ho0 (by decide)) ho0) (by decide) h2 ?_
  refine z_aload_n C dX11_spreads_97 rfl 0 rfl ?_
  refine gf_X11_76 C dX11_spreads_98 ho0 ?_
  refine z_bipush C dX11_spreads_101 (v := 64) (by decide) ?_
  refine z_iload_n C dX11_spreads_103 rfl 1 rfl ?_
  refine z_imul C dX11_spreads_104 ?_
  refine z_iload_n C dX11_spreads_105 rfl 2 rfl ?_
  refine z_iadd C dX11_spreads_106 ?_
  obtain ⟨h3, hf⟩ := q_ck hf
  refine z_iald C (n := 16384) dX11_spreads_107 (rt_11_40 _ (kd_lt ho0 (by decide)) ho0) (by decide) h3 ?_
  refine z_iadd C dX11_spreads_108 ?_
  obtain ⟨h4, hf⟩ := q_ck hf
  refine z_iast C (n := 16384) dX11_spreads_109 (rt_11_40 _ (kd_lt ho0 (by decide)) ho0) (by decide) h4 ?_
  exact z_sub [0, 1, 2, 3, 4] rfl (b_X11_spreads_110 C hr hk hK3 (zI z (rf o0 40) (Int32.toNatClampNeg (((64 * x6) + x5) - (z.1 (rf o0 39) (Int32.toNatClampNeg x6)))) ((z.1 (rf o0 40) (Int32.toNatClampNeg (((64 * x6) + x5) - (z.1 (rf o0 39) (Int32.toNatClampNeg x6))))) + (z.1 (rf o0 40) (Int32.toNatClampNeg ((64 * x1) + x2))))) o0 x1 x2 x3 x4 ho0 hf)
def f_X11_spreads_25 (K3 : St → Nat → Int32 → Int32 → Int32 → Int32 → Option (St)) (z : St) (o0 : Nat) (x1 : Int32) (x2 : Int32) (x3 : Int32) (x4 : Int32) : Option (St) :=
  if inb x1 256 = true then (if inb x4 8 = true then (if inb x4 8 = true then (if inb x4 8 = true then (if x3 < (((imax ((z.1 (rf o0 39) (Int32.toNatClampNeg x1)) + x2) (z.1 (rf o0 13) (Int32.toNatClampNeg x4))) + (z.1 (rf o0 14) (Int32.toNatClampNeg x4))) + (z.1 (rf o0 15) (Int32.toNatClampNeg x4))) then f_X11_spreads_110 K3 z o0 x1 x2 x3 x4 else f_X11_spreads_75 K3 z o0 x1 x2 x3 x4 ((imax ((z.1 (rf o0 39) (Int32.toNatClampNeg x1)) + x2) (z.1 (rf o0 13) (Int32.toNatClampNeg x4))) + (z.1 (rf o0 14) (Int32.toNatClampNeg x4))) (x1 ||| ((1 : Int32) <<< (x4 &&& 31)))) else none) else none) else none) else none
theorem b_X11_spreads_25 {p : Program} {l : Launch} {e : Env} {s : State} {m : MethodId} {args : Array Value} {below : List Frame} {meth : Method} {c : Code} {g : Ga} {A : Nat → Prop} (C : Cx l g A p s m args c cX11_spreads 7 RX11 (rm_X11_spreads) (0, 0)) (hr : meth.sig.returnType = none) (hk : meth.locks = false) {K3 : St → Nat → Int32 → Int32 → Int32 → Int32 → Option (St)} (hK3 : ∀ (z : St) (o0 : Nat) (x1 : Int32) (x2 : Int32) (x3 : Int32) (x4 : Int32) (_ : kd o0 = 11) {res : St}, K3 z o0 x1 x2 x3 x4 = some res → Zj p l e (rm_X11_spreads) s m args below meth c g A 7 (0, 0) (QV g A below args s res) z 3 [(0, .ref (g.1 o0)), (1, .int x1), (2, .int x2), (3, .int x3), (4, .int x4)] []) (z : St) (o0 : Nat) (x1 : Int32) (x2 : Int32) (x3 : Int32) (x4 : Int32) (ho0 : kd o0 = 11) {res : St} (hf : f_X11_spreads_25 K3 z o0 x1 x2 x3 x4 = some res) : Zj p l e (rm_X11_spreads) s m args below meth c g A 7 (0, 0) (QV g A below args s res) z 25 [(0, .ref (g.1 o0)), (1, .int x1), (2, .int x2), (3, .int x3), (4, .int x4)] [] := by
  unfold f_X11_spreads_25 at hf
  refine z_aload_n C dX11_spreads_25 rfl 0 rfl ?_
  refine gf_X11_73 C dX11_spreads_26 ho0 ?_
  refine z_iload_n C dX11_spreads_29 rfl 1 rfl ?_
  obtain ⟨h1, hf⟩ := q_ck hf
  refine z_iald C (n := 256) dX11_spreads_30 (rt_11_39 _ (kd_lt ho0 (by decide)) ho0) (by decide) h1 ?_
  refine z_iload_n C dX11_spreads_31 rfl 2 rfl ?_
  refine z_iadd C dX11_spreads_32 ?_
  refine z_aload_n C dX11_spreads_33 rfl 0 rfl ?_
  refine gf_X11_28 C dX11_spreads_34 ho0 ?_
  refine z_iload C dX11_spreads_37 4 rfl ?_
  obtain ⟨h2, hf⟩ := q_ck hf
  refine z_iald C (n := 8) dX11_spreads_39 (rt_11_13 _ (kd_lt ho0 (by decide)) ho0) (by decide) h2 ?_
  refine z_mmax C (st := []) dX11_spreads_40 ml_X11_126 mm_max.1 mm_i mm_max.2 ⟨Nat.le_of_ble_eq_true rfl, Nat.le_of_ble_eq_true rfl⟩ (Nat.le_of_ble_eq_true rfl) ?_
  refine z_aload_n C dX11_spreads_43 rfl 0 rfl ?_
  refine gf_X11_31 C dX11_spreads_44 ho0 ?_
  refine z_iload C dX11_spreads_47 4 rfl ?_
  obtain ⟨h3, hf⟩ := q_ck hf
  refine z_iald C (n := 8) dX11_spreads_49 (rt_11_14 _ (kd_lt ho0 (by decide)) ho0) (by decide) h3 ?_
  refine z_iadd C dX11_spreads_50 ?_
  refine z_istore C (lv2 := [(5, .int ((imax ((z.1 (rf o0 39) (Int32.toNatClampNeg x1)) + x2) (z.1 (rf o0 13) (Int32.toNatClampNeg x4))) + (z.1 (rf o0 14) (Int32.toNatClampNeg x4)))), (0, .ref (g.1 o0)), (1, .int x1), (2, .int x2), (3, .int x3), (4, .int x4)]) dX11_spreads_51 (by decide) rfl ?_
  refine z_iload_n C dX11_spreads_53 rfl 2 rfl ?_
  refine z_iconst C dX11_spreads_54 (v := 1) (by decide) ?_
  refine z_iload C dX11_spreads_55 5 rfl ?_
  refine z_ishl C dX11_spreads_57 ?_
  refine z_ior C dX11_spreads_58 ?_
  refine z_istore C (lv2 := [(6, .int (x1 ||| ((1 : Int32) <<< (x4 &&& 31)))), (5, .int ((imax ((z.1 (rf o0 39) (Int32.toNatClampNeg x1)) + x2) (z.1 (rf o0 13) (Int32.toNatClampNeg x4))) + (z.1 (rf o0 14) (Int32.toNatClampNeg x4)))), (0, .ref (g.1 o0)), (1, .int x1), (2, .int x2), (3, .int x3), (4, .int x4)]) dX11_spreads_59 (by decide) rfl ?_
  refine z_iload C dX11_spreads_61 1 rfl ?_
  refine z_aload_n C dX11_spreads_63 rfl 2 rfl ?_
  refine gf_X11_34 C dX11_spreads_64 ho0 ?_
  refine z_iload C dX11_spreads_67 6 rfl ?_
  obtain ⟨h4, hf⟩ := q_ck hf
  refine z_iald C (n := 8) dX11_spreads_69 (rt_11_15 _ (kd_lt ho0 (by decide)) ho0) (by decide) h4 ?_
  refine z_iadd C dX11_spreads_70 ?_
  refine z_iload_n C dX11_spreads_71 rfl 5 rfl ?_
  exact z_icmp_gt C dX11_spreads_72 (by decide) (fun h => z_sub [2, 3, 4, 5, 6] rfl (b_X11_spreads_110 C hr hk hK3 z o0 x1 x2 x3 x4 ho0 (q_t hf h))) (fun h => z_sub [2, 3, 4, 5, 6, 1, 0] rfl (b_X11_spreads_75 C hr hk hK3 z o0 x1 x2 x3 x4 ((imax ((z.1 (rf o0 39) (Int32.toNatClampNeg x1)) + x2) (z.1 (rf o0 13) (Int32.toNatClampNeg x4))) + (z.1 (rf o0 14) (Int32.toNatClampNeg x4))) (x1 ||| ((1 : Int32) <<< (x4 &&& 31))) ho0 (q_f hf h)))
def f_X11_spreads_12 (K3 : St → Nat → Int32 → Int32 → Int32 → Int32 → Option (St)) (z : St) (o0 : Nat) (x1 : Int32) (x2 : Int32) (x3 : Int32) (x4 : Int32) : Option (St) :=
  if ((x1 >>> (x4 &&& 31)) &&& 1) = 1 then f_X11_spreads_22 K3 z o0 x1 x2 x3 x4 else f_X11_spreads_25 K3 z o0 x1 x2 x3 x4
theorem b_X11_spreads_12 {p : Program} {l : Launch} {e : Env} {s : State} {m : MethodId} {args : Array Value} {below : List Frame} {meth : Method} {c : Code} {g : Ga} {A : Nat → Prop} (C : Cx l g A p s m args c cX11_spreads 7 RX11 (rm_X11_spreads) (0, 0)) (hr : meth.sig.returnType = none) (hk : meth.locks = false) {K3 : St → Nat → Int32 → Int32 → Int32 → Int32 → Option (St)} (hK3 : ∀ (z : St) (o0 : Nat) (x1 : Int32) (x2 : Int32) (x3 : Int32) (x4 : Int32) (_ : kd o0 = 11) {res : St}, K3 z o0 x1 x2 x3 x4 = some res → Zj p l e (rm_X11_spreads) s m args below meth c g A 7 (0, 0) (QV g A below args s res) z 3 [(0, .ref (g.1 o0)), (1, .int x1), (2, .int x2), (3, .int x3), (4, .int x4)] []) (z : St) (o0 : Nat) (x1 : Int32) (x2 : Int32) (x3 : Int32) (x4 : Int32) (ho0 : kd o0 = 11) {res : St} (hf : f_X11_spreads_12 K3 z o0 x1 x2 x3 x4 = some res) : Zj p l e (rm_X11_spreads) s m args below meth c g A 7 (0, 0) (QV g A below args s res) z 12 [(0, .ref (g.1 o0)), (1, .int x1), (2, .int x2), (3, .int x3), (4, .int x4)] [] := by
  unfold f_X11_spreads_12 at hf
  refine z_iload_n C dX11_spreads_12 rfl 1 rfl ?_
  refine z_iload C dX11_spreads_13 4 rfl ?_
  refine z_ishr C dX11_spreads_15 ?_
  refine z_iconst C dX11_spreads_16 (v := 1) (by decide) ?_
  refine z_iand C dX11_spreads_17 ?_
  refine z_iconst C dX11_spreads_18 (v := 1) (by decide) ?_
  exact z_icmp_ne C dX11_spreads_19 (by decide) (fun h => z_sub [0, 1, 2, 3, 4] rfl (b_X11_spreads_25 C hr hk hK3 z o0 x1 x2 x3 x4 ho0 (q_f hf h))) (fun h => z_sub [0, 1, 2, 3, 4] rfl (b_X11_spreads_22 C hr hk hK3 z o0 x1 x2 x3 x4 ho0 (q_t hf h)))
def f_X11_spreads_116  (z : St)  : Option (St) :=
  some z
theorem b_X11_spreads_116 {p : Program} {l : Launch} {e : Env} {s : State} {m : MethodId} {args : Array Value} {below : List Frame} {meth : Method} {c : Code} {g : Ga} {A : Nat → Prop} (C : Cx l g A p s m args c cX11_spreads 7 RX11 (rm_X11_spreads) (0, 0)) (hr : meth.sig.returnType = none) (hk : meth.locks = false)   (z : St)   {res : St} (hf : f_X11_spreads_116  z  = some res) : Zj p l e (rm_X11_spreads) s m args below meth c g A 7 (0, 0) (QV g A below args s res) z 116 [] [] := by
  unfold f_X11_spreads_116 at hf
  cases hf
  exact z_vret C hr hk dX11_spreads_116
def f_X11_spreads_3  : Nat → St → Nat → Int32 → Int32 → Int32 → Int32 → Option (St)
  | 0, _, _, _, _, _, _ => none
  | n + 1, z, o0, x1, x2, x3, x4 => if (z.1 o0 5) ≤ x4 then f_X11_spreads_116 z else f_X11_spreads_12 (f_X11_spreads_3 n) z o0 x1 x2 x3 x4
theorem b_X11_spreads_3 {p : Program} {l : Launch} {e : Env} {s : State} {m : MethodId} {args : Array Value} {below : List Frame} {meth : Method} {c : Code} {g : Ga} {A : Nat → Prop} (C : Cx l g A p s m args c cX11_spreads 7 RX11 (rm_X11_spreads) (0, 0)) (hr : meth.sig.returnType = none) (hk : meth.locks = false)   : ∀ (n : Nat) (z : St) (o0 : Nat) (x1 : Int32) (x2 : Int32) (x3 : Int32) (x4 : Int32) (_ : kd o0 = 11) {res : St} (_ : f_X11_spreads_3  n z o0 x1 x2 x3 x4 = some res), Zj p l e (rm_X11_spreads) s m args below meth c g A 7 (0, 0) (QV g A below args s res) z 3 [(0, .ref (g.1 o0)), (1, .int x1), (2, .int x2), (3, .int x3), (4, .int x4)] [] := by
  intro n
  induction n with
  | zero =>
    intro z o0 x1 x2 x3 x4 ho0 res hf
    cases hf
  | succ n ih =>
    intro z o0 x1 x2 x3 x4 ho0 res hf
    rw [f_X11_spreads_3] at hf
    refine z_iload C dX11_spreads_3 4 rfl ?_
    refine z_aload_n C dX11_spreads_5 rfl 0 rfl ?_
    refine gf_X11_111 C dX11_spreads_6 ho0 ?_
    exact z_icmp_ge C dX11_spreads_9 (by decide) (fun h => z_sub [] rfl (b_X11_spreads_116 C hr hk z (q_t hf h))) (fun h => z_sub [0, 1, 2, 3, 4] rfl (b_X11_spreads_12 C hr hk ih z o0 x1 x2 x3 x4 ho0 (q_f hf h)))
def f_X11_spreads_0  (z : St) (o0 : Nat) (x1 : Int32) (x2 : Int32) (x3 : Int32) : Option (St) :=
  f_X11_spreads_3 FU z o0 x1 x2 x3 0
theorem b_X11_spreads_0 {p : Program} {l : Launch} {e : Env} {s : State} {m : MethodId} {args : Array Value} {below : List Frame} {meth : Method} {c : Code} {g : Ga} {A : Nat → Prop} (C : Cx l g A p s m args c cX11_spreads 7 RX11 (rm_X11_spreads) (0, 0)) (hr : meth.sig.returnType = none) (hk : meth.locks = false)   (z : St) (o0 : Nat) (x1 : Int32) (x2 : Int32) (x3 : Int32) (ho0 : kd o0 = 11) {res : St} (hf : f_X11_spreads_0  z o0 x1 x2 x3 = some res) : Zj p l e (rm_X11_spreads) s m args below meth c g A 7 (0, 0) (QV g A below args s res) z 0 [(0, .ref (g.1 o0)), (1, .int x1), (2, .int x2), (3, .int x3)] [] := by
  unfold f_X11_spreads_0 at hf
  refine z_iconst C dX11_spreads_0 (v := 0) (by decide) ?_
  refine z_istore C (lv2 := [(4, .int 0), (0, .ref (g.1 o0)), (1, .int x1), (2, .int x2), (3, .int x3)]) dX11_spreads_1 (by decide) rfl ?_
  exact z_sub [1, 2, 3, 4, 0] rfl (b_X11_spreads_3 C hr hk FU z o0 x1 x2 x3 0 ho0 hf)
def f_X11_spreads (z : St) (o0 : Nat) (x1 : Int32) (x2 : Int32) (x3 : Int32) : Option (St) := f_X11_spreads_0 z o0 x1 x2 x3
theorem c_X11_spreads {l : Launch} {g : Ga} {A : Nat → Prop} {z : St} {o0 : Nat} {x1 : Int32} {x2 : Int32} {x3 : Int32} (ho0 : kd o0 = 11) {res : St} (hf : f_X11_spreads z o0 x1 x2 x3 = some res) : CV l g A yX11_spreads cX11_spreads 7 none rm_X11_spreads [.ref (g.1 o0), .int x1, .int x2, .int x3] z res :=
  e_CV (by decide) (Nat.le_of_ble_eq_true rfl) rfl (fun p e s m args below meth c C hr hk => z_sub [0, 1, 2, 3] rfl (b_X11_spreads_0 C hr hk z o0 x1 x2 x3 ho0 hf))
abbrev rm_X11_many_ : Room := { frames := 5, cells := 0, slots := 0, locals := 113 }
def f_X11_many__62 (K11 : St → Nat → Int32 → Int32 → Option (St × Int32)) (K28 : St → Nat → Int32 → Int32 → Int32 → Option (St × Int32)) (z : St) (o0 : Nat) (x1 : Int32) (x2 : Int32) (x3 : Int32) (s0 : Nat) (s1 : Int32) (s2 : Int32) (s3 : Int32) : Option (St × Int32) :=
  if inb s1 256 = true then (K28 (zI z s0 (Int32.toNatClampNeg s1) (s2 + s3)) o0 x1 x2 (x3 + 1)) else none
theorem b_X11_many__62 {p : Program} {l : Launch} {e : Env} {s : State} {m : MethodId} {args : Array Value} {below : List Frame} {meth : Method} {c : Code} {g : Ga} {A : Nat → Prop} (C : Cx l g A p s m args c cX11_many_ 4 RX11 (rm_X11_many_) (0, 0)) (hr : meth.sig.returnType = (some .int)) (hk : meth.locks = false) {K11 : St → Nat → Int32 → Int32 → Option (St × Int32)} {K28 : St → Nat → Int32 → Int32 → Int32 → Option (St × Int32)} (hK11 : ∀ (z : St) (o0 : Nat) (x1 : Int32) (x2 : Int32) (_ : kd o0 = 11) {res : St × Int32}, K11 z o0 x1 x2 = some res → Zj p l e (rm_X11_many_) s m args below meth c g A 4 (0, 0) (QI g A below args s res) z 11 [(0, .ref (g.1 o0)), (1, .int x1), (2, .int x2)] []) (hK28 : ∀ (z : St) (o0 : Nat) (x1 : Int32) (x2 : Int32) (x3 : Int32) (_ : kd o0 = 11) {res : St × Int32}, K28 z o0 x1 x2 x3 = some res → Zj p l e (rm_X11_many_) s m args below meth c g A 4 (0, 0) (QI g A below args s res) z 28 [(0, .ref (g.1 o0)), (1, .int x1), (2, .int x2), (3, .int x3)] []) (z : St) (o0 : Nat) (x1 : Int32) (x2 : Int32) (x3 : Int32) (s0 : Nat) (s1 : Int32) (s2 : Int32) (s3 : Int32) (ho0 : kd o0 = 11) (hs0 : kd s0 = 1256) {res : St × Int32} (hf : f_X11_many__62 K11 K28 z o0 x1 x2 x3 s0 s1 s2 s3 = some res) : Zj p l e (rm_X11_many_) s m args below meth c g A 4 (0, 0) (QI g A below args s res) z 62 [(0, .ref (g.1 o0)), (1, .int x1), (2, .int x2), (3, .int x3)] [.int s3, .int s2, .int s1, .ref (g.1 s0)] := by
  unfold f_X11_many__62 at hf
  refine z_iadd C dX11_many__62 ?_
  obtain ⟨h1, hf⟩ := q_ck hf
  refine z_iast C (n := 256) dX11_many__63 hs0 (by decide) h1 ?_
  refine z_iinc C (k := 3) (v := x3 + 1) (lv2 := [(3, .int (x3 + 1)), (0, .ref (g.1 o0)), (1, .int x1), (2, .int x2)]) dX11_many__64 rfl rfl (by decide) rfl ?_
  exact z_goto C dX11_many__67 (by decide) (z_sub [1, 2, 3, 0] rfl (hK28 (zI z s0 (Int32.toNatClampNeg s1) (s2 + s3)) o0 x1 x2 (x3 + 1) ho0 hf))
def f_X11_many__52 (K11 : St → Nat → Int32 → Int32 → Option (St × Int32)) (K28 : St → Nat → Int32 → Int32 → Int32 → Option (St × Int32)) (z : St) (o0 : Nat) (x1 : Int32) (x2 : Int32) (x3 : Int32) (s0 : Nat) (s1 : Int32) (s2 : Int32) : Option (St × Int32) :=
  if inb x3 8 = true then (f_X11_many__62 K11 K28 z o0 x1 x2 x3 s0 s1 s2 (z.1 (rf o0 14) (Int32.toNatClampNeg x3))) else none
theorem b_X11_many__52 {p : Program} {l : Launch} {e : Env} {s : State} {m : MethodId} {args : Array Value} {below : List Frame} {meth : Method} {c : Code} {g : Ga} {A : Nat → Prop} (C : Cx l g A p s m args c cX11_many_ 4 RX11 (rm_X11_many_) (0, 0)) (hr : meth.sig.returnType = (some .int)) (hk : meth.locks = false) {K11 : St → Nat → Int32 → Int32 → Option (St × Int32)} {K28 : St → Nat → Int32 → Int32 → Int32 → Option (St × Int32)} (hK11 : ∀ (z : St) (o0 : Nat) (x1 : Int32) (x2 : Int32) (_ : kd o0 = 11) {res : St × Int32}, K11 z o0 x1 x2 = some res → Zj p l e (rm_X11_many_) s m args below meth c g A 4 (0, 0) (QI g A below args s res) z 11 [(0, .ref (g.1 o0)), (1, .int x1), (2, .int x2)] []) (hK28 : ∀ (z : St) (o0 : Nat) (x1 : Int32) (x2 : Int32) (x3 : Int32) (_ : kd o0 = 11) {res : St × Int32}, K28 z o0 x1 x2 x3 = some res → Zj p l e (rm_X11_many_) s m args below meth c g A 4 (0, 0) (QI g A below args s res) z 28 [(0, .ref (g.1 o0)), (1, .int x1), (2, .int x2), (3, .int x3)] []) (z : St) (o0 : Nat) (x1 : Int32) (x2 : Int32) (x3 : Int32) (s0 : Nat) (s1 : Int32) (s2 : Int32) (ho0 : kd o0 = 11) (hs0 : kd s0 = 1256) {res : St × Int32} (hf : f_X11_many__52 K11 K28 z o0 x1 x2 x3 s0 s1 s2 = some res) : Zj p l e (rm_X11_many_) s m args below meth c g A 4 (0, 0) (QI g A below args s res) z 52 [(0, .ref (g.1 o0)), (1, .int x1), (2, .int x2), (3, .int x3)] [.int s2, .int s1, .ref (g.1 s0)] := by
  unfold f_X11_many__52 at hf
  refine z_aload_n C dX11_many__52 rfl 0 rfl ?_
  refine gf_X11_31 C dX11_many__53 ho0 ?_
  refine z_iload_n C dX11_many__56 rfl 3 rfl ?_
  obtain ⟨h1, hf⟩ := q_ck hf
  refine z_iald C (n := 8) dX11_many__57 (rt_11_14 _ (kd_lt ho0 (by decide)) ho0) (by decide) h1 ?_
  exact z_goto C dX11_many__58 (by decide) (z_sub [0, 1, 2, 3] rfl (b_X11_many__62 C hr hk hK11 hK28 z o0 x1 x2 x3 s0 s1 s2 (z.1 (rf o0 14) (Int32.toNatClampNeg x3)) ho0 hs0 hf))
def f_X11_many__61 (K11 : St → Nat → Int32 → Int32 → Option (St × Int32)) (K28 : St → Nat → Int32 → Int32 → Int32 → Option (St × Int32)) (z : St) (o0 : Nat) (x1 : Int32) (x2 : Int32) (x3 : Int32) (s0 : Nat) (s1 : Int32) (s2 : Int32) : Option (St × Int32) :=
  f_X11_many__62 K11 K28 z o0 x1 x2 x3 s0 s1 s2 0
theorem b_X11_many__61 {p : Program} {l : Launch} {e : Env} {s : State} {m : MethodId} {args : Array Value} {below : List Frame} {meth : Method} {c : Code} {g : Ga} {A : Nat → Prop} (C : Cx l g A p s m args c cX11_many_ 4 RX11 (rm_X11_many_) (0, 0)) (hr : meth.sig.returnType = (some .int)) (hk : meth.locks = false) {K11 : St → Nat → Int32 → Int32 → Option (St × Int32)} {K28 : St → Nat → Int32 → Int32 → Int32 → Option (St × Int32)} (hK11 : ∀ (z : St) (o0 : Nat) (x1 : Int32) (x2 : Int32) (_ : kd o0 = 11) {res : St × Int32}, K11 z o0 x1 x2 = some res → Zj p l e (rm_X11_many_) s m args below meth c g A 4 (0, 0) (QI g A below args s res) z 11 [(0, .ref (g.1 o0)), (1, .int x1), (2, .int x2)] []) (hK28 : ∀ (z : St) (o0 : Nat) (x1 : Int32) (x2 : Int32) (x3 : Int32) (_ : kd o0 = 11) {res : St × Int32}, K28 z o0 x1 x2 x3 = some res → Zj p l e (rm_X11_many_) s m args below meth c g A 4 (0, 0) (QI g A below args s res) z 28 [(0, .ref (g.1 o0)), (1, .int x1), (2, .int x2), (3, .int x3)] []) (z : St) (o0 : Nat) (x1 : Int32) (x2 : Int32) (x3 : Int32) (s0 : Nat) (s1 : Int32) (s2 : Int32) (ho0 : kd o0 = 11) (hs0 : kd s0 = 1256) {res : St × Int32} (hf : f_X11_many__61 K11 K28 z o0 x1 x2 x3 s0 s1 s2 = some res) : Zj p l e (rm_X11_many_) s m args below meth c g A 4 (0, 0) (QI g A below args s res) z 61 [(0, .ref (g.1 o0)), (1, .int x1), (2, .int x2), (3, .int x3)] [.int s2, .int s1, .ref (g.1 s0)] := by
  unfold f_X11_many__61 at hf
  refine z_iconst C dX11_many__61 (v := 0) (by decide) ?_
  exact z_sub [0, 1, 2, 3] rfl (b_X11_many__62 C hr hk hK11 hK28 z o0 x1 x2 x3 s0 s1 s2 0 ho0 hs0 hf)
def f_X11_many__36 (K11 : St → Nat → Int32 → Int32 → Option (St × Int32)) (K28 : St → Nat → Int32 → Int32 → Int32 → Option (St × Int32)) (z : St) (o0 : Nat) (x1 : Int32) (x2 : Int32) (x3 : Int32) : Option (St × Int32) :=
  if inb x2 256 = true then (if ((x2 >>> (x3 &&& 31)) &&& 1) = 1 then f_X11_many__52 K11 K28 z o0 x1 x2 x3 (rf o0 39) x2 (z.1 (rf o0 39) (Int32.toNatClampNeg x2)) else f_X11_many__61 K11 K28 z o0 x1 x2 x3 (rf o0 39) x2 (z.1 (rf o0 39) (Int32.toNatClampNeg x2))) else none
theorem b_X11_many__36 {p : Program} {l : Launch} {e : Env} {s : State} {m : MethodId} {args : Array Value} {below : List Frame} {meth : Method} {c : Code} {g : Ga} {A : Nat → Prop} (C : Cx l g A p s m args c cX11_many_ 4 RX11 (rm_X11_many_) (0, 0)) (hr : meth.sig.returnType = (some .int)) (hk : meth.locks = false) {K11 : St → Nat → Int32 → Int32 → Option (St × Int32)} {K28 : St → Nat → Int32 → Int32 → Int32 → Option (St × Int32)} (hK11 : ∀ (z : St) (o0 : Nat) (x1 : Int32) (x2 : Int32) (_ : kd o0 = 11) {res : St × Int32}, K11 z o0 x1 x2 = some res → Zj p l e (rm_X11_many_) s m args below meth c g A 4 (0, 0) (QI g A below args s res) z 11 [(0, .ref (g.1 o0)), (1, .int x1), (2, .int x2)] []) (hK28 : ∀ (z : St) (o0 : Nat) (x1 : Int32) (x2 : Int32) (x3 : Int32) (_ : kd o0 = 11) {res : St × Int32}, K28 z o0 x1 x2 x3 = some res → Zj p l e (rm_X11_many_) s m args below meth c g A 4 (0, 0) (QI g A below args s res) z 28 [(0, .ref (g.1 o0)), (1, .int x1), (2, .int x2), (3, .int x3)] []) (z : St) (o0 : Nat) (x1 : Int32) (x2 : Int32) (x3 : Int32) (ho0 : kd o0 = 11) {res : St × Int32} (hf : f_X11_many__36 K11 K28 z o0 x1 x2 x3 = some res) : Zj p l e (rm_X11_many_) s m args below meth c g A 4 (0, 0) (QI g A below args s res) z 36 [(0, .ref (g.1 o0)), (1, .int x1), (2, .int x2), (3, .int x3)] [] := by
  unfold f_X11_many__36 at hf
  refine z_aload_n C dX11_many__36 rfl 0 rfl ?_
  refine gf_X11_73 C dX11_many__37 ho0 ?_
  refine z_iload_n C dX11_many__40 rfl 2 rfl ?_
  refine z_dup2 C dX11_many__41 rfl rfl ?_
  obtain ⟨h1, hf⟩ := q_ck hf
  refine z_iald C (n := 256) dX11_many__42 (rt_11_39 _ (kd_lt ho0 (by decide)) ho0) (by decide) h1 ?_
  refine z_iload_n C dX11_many__43 rfl 2 rfl ?_
  refine z_iload_n C dX11_many__44 rfl 3 rfl ?_
  refine z_ishr C dX11_many__45 ?_
  refine z_iconst C dX11_many__46 (v := 1) (by decide) ?_
  refine z_iand C dX11_many__47 ?_
  refine z_iconst C dX11_many__48 (v := 1) (by decide) ?_
  exact z_icmp_ne C dX11_many__49 (by decide) (fun h => z_sub [0, 1, 2, 3] rfl (b_X11_many__61 C hr hk hK11 hK28 z o0 x1 x2 x3 (rf o0 39) x2 (z.1 (rf o0 39) (Int32.toNatClampNeg x2)) ho0 (rt_11_39 _ (kd_lt ho0 (by decide)) ho0) (q_f hf h))) (fun h => z_sub [0, 1, 2, 3] rfl (b_X11_many__52 C hr hk hK11 hK28 z o0 x1 x2 x3 (rf o0 39) x2 (z.1 (rf o0 39) (Int32.toNatClampNeg x2)) ho0 (rt_11_39 _ (kd_lt ho0 (by decide)) ho0) (q_t hf h)))
def f_X11_many__78 (K11 : St → Nat → Int32 → Int32 → Option (St × Int32)) (K72 : St → Nat → Int32 → Int32 → Int32 → Option (St × Int32)) (z : St) (o0 : Nat) (x1 : Int32) (x2 : Int32) (x3 : Int32) : Option (St × Int32) :=
  if inb ((64 * x2) + x3) 16384 = true then (K72 (zI z (rf o0 40) (Int32.toNatClampNeg ((64 * x2) + x3)) 0) o0 x1 x2 (x3 + 1)) else none
theorem b_X11_many__78 {p : Program} {l : Launch} {e : Env} {s : State} {m : MethodId} {args : Array Value} {below : List Frame} {meth : Method} {c : Code} {g : Ga} {A : Nat → Prop} (C : Cx l g A p s m args c cX11_many_ 4 RX11 (rm_X11_many_) (0, 0)) (hr : meth.sig.returnType = (some .int)) (hk : meth.locks = false) {K11 : St → Nat → Int32 → Int32 → Option (St × Int32)} {K72 : St → Nat → Int32 → Int32 → Int32 → Option (St × Int32)} (hK11 : ∀ (z : St) (o0 : Nat) (x1 : Int32) (x2 : Int32) (_ : kd o0 = 11) {res : St × Int32}, K11 z o0 x1 x2 = some res → Zj p l e (rm_X11_many_) s m args below meth c g A 4 (0, 0) (QI g A below args s res) z 11 [(0, .ref (g.1 o0)), (1, .int x1), (2, .int x2)] []) (hK72 : ∀ (z : St) (o0 : Nat) (x1 : Int32) (x2 : Int32) (x3 : Int32) (_ : kd o0 = 11) {res : St × Int32}, K72 z o0 x1 x2 x3 = some res → Zj p l e (rm_X11_many_) s m args below meth c g A 4 (0, 0) (QI g A below args s res) z 72 [(0, .ref (g.1 o0)), (1, .int x1), (2, .int x2), (3, .int x3)] []) (z : St) (o0 : Nat) (x1 : Int32) (x2 : Int32) (x3 : Int32) (ho0 : kd o0 = 11) {res : St × Int32} (hf : f_X11_many__78 K11 K72 z o0 x1 x2 x3 = some res) : Zj p l e (rm_X11_many_) s m args below meth c g A 4 (0, 0) (QI g A below args s res) z 78 [(0, .ref (g.1 o0)), (1, .int x1), (2, .int x2), (3, .int x3)] [] := by
  unfold f_X11_many__78 at hf
  refine z_aload_n C dX11_many__78 rfl 0 rfl ?_
  refine gf_X11_76 C dX11_many__79 ho0 ?_
  refine z_bipush C dX11_many__82 (v := 64) (by decide) ?_
  refine z_iload_n C dX11_many__84 rfl 2 rfl ?_
  refine z_imul C dX11_many__85 ?_
  refine z_iload_n C dX11_many__86 rfl 3 rfl ?_
  refine z_iadd C dX11_many__87 ?_
  refine z_iconst C dX11_many__88 (v := 0) (by decide) ?_
  obtain ⟨h1, hf⟩ := q_ck hf
  refine z_iast C (n := 16384) dX11_many__89 (rt_11_40 _ (kd_lt ho0 (by decide)) ho0) (by decide) h1 ?_
  refine z_iinc C (k := 3) (v := x3 + 1) (lv2 := [(3, .int (x3 + 1)), (0, .ref (g.1 o0)), (1, .int x1), (2, .int x2)]) dX11_many__90 rfl rfl (by decide) rfl ?_
  exact z_goto C dX11_many__93 (by decide) (z_sub [1, 2, 3, 0] rfl (hK72 (zI z (rf o0 40) (Int32.toNatClampNeg ((64 * x2) + x3)) 0) o0 x1 x2 (x3 + 1) ho0 hf))
def f_X11_many__96 (K11 : St → Nat → Int32 → Int32 → Option (St × Int32)) (z : St) (o0 : Nat) (x1 : Int32) (x2 : Int32) : Option (St × Int32) :=
  K11 z o0 x1 (x2 + 1)
theorem b_X11_many__96 {p : Program} {l : Launch} {e : Env} {s : State} {m : MethodId} {args : Array Value} {below : List Frame} {meth : Method} {c : Code} {g : Ga} {A : Nat → Prop} (C : Cx l g A p s m args c cX11_many_ 4 RX11 (rm_X11_many_) (0, 0)) (hr : meth.sig.returnType = (some .int)) (hk : meth.locks = false) {K11 : St → Nat → Int32 → Int32 → Option (St × Int32)} (hK11 : ∀ (z : St) (o0 : Nat) (x1 : Int32) (x2 : Int32) (_ : kd o0 = 11) {res : St × Int32}, K11 z o0 x1 x2 = some res → Zj p l e (rm_X11_many_) s m args below meth c g A 4 (0, 0) (QI g A below args s res) z 11 [(0, .ref (g.1 o0)), (1, .int x1), (2, .int x2)] []) (z : St) (o0 : Nat) (x1 : Int32) (x2 : Int32) (ho0 : kd o0 = 11) {res : St × Int32} (hf : f_X11_many__96 K11 z o0 x1 x2 = some res) : Zj p l e (rm_X11_many_) s m args below meth c g A 4 (0, 0) (QI g A below args s res) z 96 [(0, .ref (g.1 o0)), (1, .int x1), (2, .int x2)] [] := by
  unfold f_X11_many__96 at hf
  refine z_iinc C (k := 2) (v := x2 + 1) (lv2 := [(2, .int (x2 + 1)), (0, .ref (g.1 o0)), (1, .int x1)]) dX11_many__96 rfl rfl (by decide) rfl ?_
  exact z_goto C dX11_many__99 (by decide) (z_sub [1, 2, 0] rfl (hK11 z o0 x1 (x2 + 1) ho0 hf))
def f_X11_many__72 (K11 : St → Nat → Int32 → Int32 → Option (St × Int32)) : Nat → St → Nat → Int32 → Int32 → Int32 → Option (St × Int32)
  | 0, _, _, _, _, _ => none
  | n + 1, z, o0, x1, x2, x3 => if 64 ≤ x3 then f_X11_many__96 K11 z o0 x1 x2 else f_X11_many__78 K11 (f_X11_many__72 K11 n) z o0 x1 x2 x3
theorem b_X11_many__72 {p : Program} {l : Launch} {e : Env} {s : State} {m : MethodId} {args : Array Value} {below : List Frame} {meth : Method} {c : Code} {g : Ga} {A : Nat → Prop} (C : Cx l g A p s m args c cX11_many_ 4 RX11 (rm_X11_many_) (0, 0)) (hr : meth.sig.returnType = (some .int)) (hk : meth.locks = false) {K11 : St → Nat → Int32 → Int32 → Option (St × Int32)} (hK11 : ∀ (z : St) (o0 : Nat) (x1 : Int32) (x2 : Int32) (_ : kd o0 = 11) {res : St × Int32}, K11 z o0 x1 x2 = some res → Zj p l e (rm_X11_many_) s m args below meth c g A 4 (0, 0) (QI g A below args s res) z 11 [(0, .ref (g.1 o0)), (1, .int x1), (2, .int x2)] []) : ∀ (n : Nat) (z : St) (o0 : Nat) (x1 : Int32) (x2 : Int32) (x3 : Int32) (_ : kd o0 = 11) {res : St × Int32} (_ : f_X11_many__72 K11 n z o0 x1 x2 x3 = some res), Zj p l e (rm_X11_many_) s m args below meth c g A 4 (0, 0) (QI g A below args s res) z 72 [(0, .ref (g.1 o0)), (1, .int x1), (2, .int x2), (3, .int x3)] [] := by
  intro n
  induction n with
  | zero =>
    intro z o0 x1 x2 x3 ho0 res hf
    cases hf
  | succ n ih =>
    intro z o0 x1 x2 x3 ho0 res hf
    rw [f_X11_many__72] at hf
    refine z_iload_n C dX11_many__72 rfl 3 rfl ?_
    refine z_bipush C dX11_many__73 (v := 64) (by decide) ?_
    exact z_icmp_ge C dX11_many__75 (by decide) (fun h => z_sub [0, 1, 2] rfl (b_X11_many__96 C hr hk hK11 z o0 x1 x2 ho0 (q_t hf h))) (fun h => z_sub [0, 1, 2, 3] rfl (b_X11_many__78 C hr hk hK11 ih z o0 x1 x2 x3 ho0 (q_f hf h)))
def f_X11_many__70 (K11 : St → Nat → Int32 → Int32 → Option (St × Int32)) (z : St) (o0 : Nat) (x1 : Int32) (x2 : Int32) : Option (St × Int32) :=
  f_X11_many__72 K11 FU z o0 x1 x2 0
theorem b_X11_many__70 {p : Program} {l : Launch} {e : Env} {s : State} {m : MethodId} {args : Array Value} {below : List Frame} {meth : Method} {c : Code} {g : Ga} {A : Nat → Prop} (C : Cx l g A p s m args c cX11_many_ 4 RX11 (rm_X11_many_) (0, 0)) (hr : meth.sig.returnType = (some .int)) (hk : meth.locks = false) {K11 : St → Nat → Int32 → Int32 → Option (St × Int32)} (hK11 : ∀ (z : St) (o0 : Nat) (x1 : Int32) (x2 : Int32) (_ : kd o0 = 11) {res : St × Int32}, K11 z o0 x1 x2 = some res → Zj p l e (rm_X11_many_) s m args below meth c g A 4 (0, 0) (QI g A below args s res) z 11 [(0, .ref (g.1 o0)), (1, .int x1), (2, .int x2)] []) (z : St) (o0 : Nat) (x1 : Int32) (x2 : Int32) (ho0 : kd o0 = 11) {res : St × Int32} (hf : f_X11_many__70 K11 z o0 x1 x2 = some res) : Zj p l e (rm_X11_many_) s m args below meth c g A 4 (0, 0) (QI g A below args s res) z 70 [(0, .ref (g.1 o0)), (1, .int x1), (2, .int x2)] [] := by
  unfold f_X11_many__70 at hf
  refine z_iconst C dX11_many__70 (v := 0) (by decide) ?_
  refine z_istore_n C (lv2 := [(3, .int 0), (0, .ref (g.1 o0)), (1, .int x1), (2, .int x2)]) dX11_many__71 rfl (by decide) rfl ?_
  exact z_sub [1, 2, 3, 0] rfl (b_X11_many__72 C hr hk hK11 FU z o0 x1 x2 0 ho0 hf)
def f_X11_many__28 (K11 : St → Nat → Int32 → Int32 → Option (St × Int32)) : Nat → St → Nat → Int32 → Int32 → Int32 → Option (St × Int32)
  | 0, _, _, _, _, _ => none
  | n + 1, z, o0, x1, x2, x3 => if (z.1 o0 5) ≤ x3 then f_X11_many__70 K11 z o0 x1 x2 else f_X11_many__36 K11 (f_X11_many__28 K11 n) z o0 x1 x2 x3
theorem b_X11_many__28 {p : Program} {l : Launch} {e : Env} {s : State} {m : MethodId} {args : Array Value} {below : List Frame} {meth : Method} {c : Code} {g : Ga} {A : Nat → Prop} (C : Cx l g A p s m args c cX11_many_ 4 RX11 (rm_X11_many_) (0, 0)) (hr : meth.sig.returnType = (some .int)) (hk : meth.locks = false) {K11 : St → Nat → Int32 → Int32 → Option (St × Int32)} (hK11 : ∀ (z : St) (o0 : Nat) (x1 : Int32) (x2 : Int32) (_ : kd o0 = 11) {res : St × Int32}, K11 z o0 x1 x2 = some res → Zj p l e (rm_X11_many_) s m args below meth c g A 4 (0, 0) (QI g A below args s res) z 11 [(0, .ref (g.1 o0)), (1, .int x1), (2, .int x2)] []) : ∀ (n : Nat) (z : St) (o0 : Nat) (x1 : Int32) (x2 : Int32) (x3 : Int32) (_ : kd o0 = 11) {res : St × Int32} (_ : f_X11_many__28 K11 n z o0 x1 x2 x3 = some res), Zj p l e (rm_X11_many_) s m args below meth c g A 4 (0, 0) (QI g A below args s res) z 28 [(0, .ref (g.1 o0)), (1, .int x1), (2, .int x2), (3, .int x3)] [] := by
  intro n
  induction n with
  | zero =>
    intro z o0 x1 x2 x3 ho0 res hf
    cases hf
  | succ n ih =>
    intro z o0 x1 x2 x3 ho0 res hf
    rw [f_X11_many__28] at hf
    refine z_iload_n C dX11_many__28 rfl 3 rfl ?_
    refine z_aload_n C dX11_many__29 rfl 0 rfl ?_
    refine gf_X11_111 C dX11_many__30 ho0 ?_
    exact z_icmp_ge C dX11_many__33 (by decide) (fun h => z_sub [0, 1, 2] rfl (b_X11_many__70 C hr hk hK11 z o0 x1 x2 ho0 (q_t hf h))) (fun h => z_sub [0, 1, 2, 3] rfl (b_X11_many__36 C hr hk hK11 ih z o0 x1 x2 x3 ho0 (q_f hf h)))
def f_X11_many__19 (K11 : St → Nat → Int32 → Int32 → Option (St × Int32)) (z : St) (o0 : Nat) (x1 : Int32) (x2 : Int32) : Option (St × Int32) :=
  if inb x2 256 = true then (f_X11_many__28 K11 FU (zI z (rf o0 39) (Int32.toNatClampNeg x2) 0) o0 x1 x2 0) else none
theorem b_X11_many__19 {p : Program} {l : Launch} {e : Env} {s : State} {m : MethodId} {args : Array Value} {below : List Frame} {meth : Method} {c : Code} {g : Ga} {A : Nat → Prop} (C : Cx l g A p s m args c cX11_many_ 4 RX11 (rm_X11_many_) (0, 0)) (hr : meth.sig.returnType = (some .int)) (hk : meth.locks = false) {K11 : St → Nat → Int32 → Int32 → Option (St × Int32)} (hK11 : ∀ (z : St) (o0 : Nat) (x1 : Int32) (x2 : Int32) (_ : kd o0 = 11) {res : St × Int32}, K11 z o0 x1 x2 = some res → Zj p l e (rm_X11_many_) s m args below meth c g A 4 (0, 0) (QI g A below args s res) z 11 [(0, .ref (g.1 o0)), (1, .int x1), (2, .int x2)] []) (z : St) (o0 : Nat) (x1 : Int32) (x2 : Int32) (ho0 : kd o0 = 11) {res : St × Int32} (hf : f_X11_many__19 K11 z o0 x1 x2 = some res) : Zj p l e (rm_X11_many_) s m args below meth c g A 4 (0, 0) (QI g A below args s res) z 19 [(0, .ref (g.1 o0)), (1, .int x1), (2, .int x2)] [] := by
  unfold f_X11_many__19 at hf
  refine z_aload_n C dX11_many__19 rfl 0 rfl ?_
  refine gf_X11_73 C dX11_many__20 ho0 ?_
  refine z_iload_n C dX11_many__23 rfl 2 rfl ?_
  refine z_iconst C dX11_many__24 (v := 0) (by decide) ?_
  obtain ⟨h1, hf⟩ := q_ck hf
  refine z_iast C (n := 256) dX11_many__25 (rt_11_39 _ (kd_lt ho0 (by decide)) ho0) (by decide) h1 ?_
  refine z_iconst C dX11_many__26 (v := 0) (by decide) ?_
  refine z_istore_n C (lv2 := [(3, .int 0), (0, .ref (g.1 o0)), (1, .int x1), (2, .int x2)]) dX11_many__27 rfl (by decide) rfl ?_
  exact z_sub [1, 2, 3, 0] rfl (b_X11_many__28 C hr hk hK11 FU (zI z (rf o0 39) (Int32.toNatClampNeg x2) 0) o0 x1 x2 0 ho0 hf)
def f_X11_many__148 (K111 : St → Nat → Int32 → Int32 → Option (St × Int32)) (K121 : St → Nat → Int32 → Int32 → Int32 → Option (St × Int32)) (z : St) (o0 : Nat) (x1 : Int32) (x2 : Int32) (x3 : Int32) : Option (St × Int32) :=
  K121 z o0 x1 x2 (x3 + 1)
theorem b_X11_many__148 {p : Program} {l : Launch} {e : Env} {s : State} {m : MethodId} {args : Array Value} {below : List Frame} {meth : Method} {c : Code} {g : Ga} {A : Nat → Prop} (C : Cx l g A p s m args c cX11_many_ 4 RX11 (rm_X11_many_) (0, 0)) (hr : meth.sig.returnType = (some .int)) (hk : meth.locks = false) {K111 : St → Nat → Int32 → Int32 → Option (St × Int32)} {K121 : St → Nat → Int32 → Int32 → Int32 → Option (St × Int32)} (hK111 : ∀ (z : St) (o0 : Nat) (x1 : Int32) (x2 : Int32) (_ : kd o0 = 11) {res : St × Int32}, K111 z o0 x1 x2 = some res → Zj p l e (rm_X11_many_) s m args below meth c g A 4 (0, 0) (QI g A below args s res) z 111 [(0, .ref (g.1 o0)), (1, .int x1), (2, .int x2)] []) (hK121 : ∀ (z : St) (o0 : Nat) (x1 : Int32) (x2 : Int32) (x3 : Int32) (_ : kd o0 = 11) {res : St × Int32}, K121 z o0 x1 x2 x3 = some res → Zj p l e (rm_X11_many_) s m args below meth c g A 4 (0, 0) (QI g A below args s res) z 121 [(0, .ref (g.1 o0)), (1, .int x1), (2, .int x2), (3, .int x3)] []) (z : St) (o0 : Nat) (x1 : Int32) (x2 : Int32) (x3 : Int32) (ho0 : kd o0 = 11) {res : St × Int32} (hf : f_X11_many__148 K111 K121 z o0 x1 x2 x3 = some res) : Zj p l e (rm_X11_many_) s m args below meth c g A 4 (0, 0) (QI g A below args s res) z 148 [(0, .ref (g.1 o0)), (1, .int x1), (2, .int x2), (3, .int x3)] [] := by
  unfold f_X11_many__148 at hf
  refine z_iinc C (k := 3) (v := x3 + 1) (lv2 := [(3, .int (x3 + 1)), (0, .ref (g.1 o0)), (1, .int x1), (2, .int x2)]) dX11_many__148 rfl rfl (by decide) rfl ?_
  exact z_goto C dX11_many__151 (by decide) (z_sub [1, 2, 3, 0] rfl (hK121 z o0 x1 x2 (x3 + 1) ho0 hf))
def f_X11_many__141 (K111 : St → Nat → Int32 → Int32 → Option (St × Int32)) (K121 : St → Nat → Int32 → Int32 → Int32 → Option (St × Int32)) (z : St) (o0 : Nat) (x1 : Int32) (x2 : Int32) (x3 : Int32) : Option (St × Int32) :=
  ((f_X11_spreads z o0 x2 x3 x1).bind fun r1 => f_X11_many__148 K111 K121 r1 o0 x1 x2 x3)
theorem b_X11_many__141 {p : Program} {l : Launch} {e : Env} {s : State} {m : MethodId} {args : Array Value} {below : List Frame} {meth : Method} {c : Code} {g : Ga} {A : Nat → Prop} (C : Cx l g A p s m args c cX11_many_ 4 RX11 (rm_X11_many_) (0, 0)) (hr : meth.sig.returnType = (some .int)) (hk : meth.locks = false) {K111 : St → Nat → Int32 → Int32 → Option (St × Int32)} {K121 : St → Nat → Int32 → Int32 → Int32 → Option (St × Int32)} (hK111 : ∀ (z : St) (o0 : Nat) (x1 : Int32) (x2 : Int32) (_ : kd o0 = 11) {res : St × Int32}, K111 z o0 x1 x2 = some res → Zj p l e (rm_X11_many_) s m args below meth c g A 4 (0, 0) (QI g A below args s res) z 111 [(0, .ref (g.1 o0)), (1, .int x1), (2, .int x2)] []) (hK121 : ∀ (z : St) (o0 : Nat) (x1 : Int32) (x2 : Int32) (x3 : Int32) (_ : kd o0 = 11) {res : St × Int32}, K121 z o0 x1 x2 x3 = some res → Zj p l e (rm_X11_many_) s m args below meth c g A 4 (0, 0) (QI g A below args s res) z 121 [(0, .ref (g.1 o0)), (1, .int x1), (2, .int x2), (3, .int x3)] []) (z : St) (o0 : Nat) (x1 : Int32) (x2 : Int32) (x3 : Int32) (ho0 : kd o0 = 11) {res : St × Int32} (hf : f_X11_many__141 K111 K121 z o0 x1 x2 x3 = some res) : Zj p l e (rm_X11_many_) s m args below meth c g A 4 (0, 0) (QI g A below args s res) z 141 [(0, .ref (g.1 o0)), (1, .int x1), (2, .int x2), (3, .int x3)] [] := by
  unfold f_X11_many__141 at hf
  refine z_aload_n C dX11_many__141 rfl 0 rfl ?_
  refine z_iload_n C dX11_many__142 rfl 2 rfl ?_
  refine z_iload_n C dX11_many__143 rfl 3 rfl ?_
  refine z_iload_n C dX11_many__144 rfl 1 rfl ?_
  obtain ⟨r1, hc2, hf⟩ := q_bd hf
  refine z_cVv C (st := []) (c_X11_spreads ho0 hc2) mw_X11_spreads ml_X11_292 ho0 (by decide) rfl dX11_many__145 rfl rfl rfl ⟨Nat.le_of_ble_eq_true rfl, Nat.le_of_ble_eq_true rfl⟩ rfl (Nat.le_of_ble_eq_true rfl) ?_
  exact z_sub [0, 1, 2, 3] rfl (b_X11_many__148 C hr hk hK111 hK121 r1 o0 x1 x2 x3 ho0 hf)
def f_X11_many__127 (K111 : St → Nat → Int32 → Int32 → Option (St × Int32)) (K121 : St → Nat → Int32 → Int32 → Int32 → Option (St × Int32)) (z : St) (o0 : Nat) (x1 : Int32) (x2 : Int32) (x3 : Int32) : Option (St × Int32) :=
  if inb ((64 * x2) + x3) 16384 = true then (if (z.1 (rf o0 40) (Int32.toNatClampNeg ((64 * x2) + x3))) ≤ 0 then f_X11_many__148 K111 K121 z o0 x1 x2 x3 else f_X11_many__141 K111 K121 z o0 x1 x2 x3) else none
theorem b_X11_many__127 {p : Program} {l : Launch} {e : Env} {s : State} {m : MethodId} {args : Array Value} {below : List Frame} {meth : Method} {c : Code} {g : Ga} {A : Nat → Prop} (C : Cx l g A p s m args c cX11_many_ 4 RX11 (rm_X11_many_) (0, 0)) (hr : meth.sig.returnType = (some .int)) (hk : meth.locks = false) {K111 : St → Nat → Int32 → Int32 → Option (St × Int32)} {K121 : St → Nat → Int32 → Int32 → Int32 → Option (St × Int32)} (hK111 : ∀ (z : St) (o0 : Nat) (x1 : Int32) (x2 : Int32) (_ : kd o0 = 11) {res : St × Int32}, K111 z o0 x1 x2 = some res → Zj p l e (rm_X11_many_) s m args below meth c g A 4 (0, 0) (QI g A below args s res) z 111 [(0, .ref (g.1 o0)), (1, .int x1), (2, .int x2)] []) (hK121 : ∀ (z : St) (o0 : Nat) (x1 : Int32) (x2 : Int32) (x3 : Int32) (_ : kd o0 = 11) {res : St × Int32}, K121 z o0 x1 x2 x3 = some res → Zj p l e (rm_X11_many_) s m args below meth c g A 4 (0, 0) (QI g A below args s res) z 121 [(0, .ref (g.1 o0)), (1, .int x1), (2, .int x2), (3, .int x3)] []) (z : St) (o0 : Nat) (x1 : Int32) (x2 : Int32) (x3 : Int32) (ho0 : kd o0 = 11) {res : St × Int32} (hf : f_X11_many__127 K111 K121 z o0 x1 x2 x3 = some res) : Zj p l e (rm_X11_many_) s m args below meth c g A 4 (0, 0) (QI g A below args s res) z 127 [(0, .ref (g.1 o0)), (1, .int x1), (2, .int x2), (3, .int x3)] [] := by
  unfold f_X11_many__127 at hf
  refine z_aload_n C dX11_many__127 rfl 0 rfl ?_
  refine gf_X11_76 C dX11_many__128 ho0 ?_
  refine z_bipush C dX11_many__131 (v := 64) (by decide) ?_
  refine z_iload_n C dX11_many__133 rfl 2 rfl ?_
  refine z_imul C dX11_many__134 ?_
  refine z_iload_n C dX11_many__135 rfl 3 rfl ?_
  refine z_iadd C dX11_many__136 ?_
  obtain ⟨h1, hf⟩ := q_ck hf
  refine z_iald C (n := 16384) dX11_many__137 (rt_11_40 _ (kd_lt ho0 (by decide)) ho0) (by decide) h1 ?_
  exact z_if_le C dX11_many__138 (by decide) (fun h => z_sub [0, 1, 2, 3] rfl (b_X11_many__148 C hr hk hK111 hK121 z o0 x1 x2 x3 ho0 (q_t hf h))) (fun h => z_sub [0, 1, 2, 3] rfl (b_X11_many__141 C hr hk hK111 hK121 z o0 x1 x2 x3 ho0 (q_f hf h)))
def f_X11_many__154 (K111 : St → Nat → Int32 → Int32 → Option (St × Int32)) (z : St) (o0 : Nat) (x1 : Int32) (x2 : Int32) : Option (St × Int32) :=
  K111 z o0 x1 (x2 + 1)
theorem b_X11_many__154 {p : Program} {l : Launch} {e : Env} {s : State} {m : MethodId} {args : Array Value} {below : List Frame} {meth : Method} {c : Code} {g : Ga} {A : Nat → Prop} (C : Cx l g A p s m args c cX11_many_ 4 RX11 (rm_X11_many_) (0, 0)) (hr : meth.sig.returnType = (some .int)) (hk : meth.locks = false) {K111 : St → Nat → Int32 → Int32 → Option (St × Int32)} (hK111 : ∀ (z : St) (o0 : Nat) (x1 : Int32) (x2 : Int32) (_ : kd o0 = 11) {res : St × Int32}, K111 z o0 x1 x2 = some res → Zj p l e (rm_X11_many_) s m args below meth c g A 4 (0, 0) (QI g A below args s res) z 111 [(0, .ref (g.1 o0)), (1, .int x1), (2, .int x2)] []) (z : St) (o0 : Nat) (x1 : Int32) (x2 : Int32) (ho0 : kd o0 = 11) {res : St × Int32} (hf : f_X11_many__154 K111 z o0 x1 x2 = some res) : Zj p l e (rm_X11_many_) s m args below meth c g A 4 (0, 0) (QI g A below args s res) z 154 [(0, .ref (g.1 o0)), (1, .int x1), (2, .int x2)] [] := by
  unfold f_X11_many__154 at hf
  refine z_iinc C (k := 2) (v := x2 + 1) (lv2 := [(2, .int (x2 + 1)), (0, .ref (g.1 o0)), (1, .int x1)]) dX11_many__154 rfl rfl (by decide) rfl ?_
  exact z_goto C dX11_many__157 (by decide) (z_sub [1, 2, 0] rfl (hK111 z o0 x1 (x2 + 1) ho0 hf))
def f_X11_many__121 (K111 : St → Nat → Int32 → Int32 → Option (St × Int32)) : Nat → St → Nat → Int32 → Int32 → Int32 → Option (St × Int32)
  | 0, _, _, _, _, _ => none
  | n + 1, z, o0, x1, x2, x3 => if 64 ≤ x3 then f_X11_many__154 K111 z o0 x1 x2 else f_X11_many__127 K111 (f_X11_many__121 K111 n) z o0 x1 x2 x3
theorem b_X11_many__121 {p : Program} {l : Launch} {e : Env} {s : State} {m : MethodId} {args : Array Value} {below : List Frame} {meth : Method} {c : Code} {g : Ga} {A : Nat → Prop} (C : Cx l g A p s m args c cX11_many_ 4 RX11 (rm_X11_many_) (0, 0)) (hr : meth.sig.returnType = (some .int)) (hk : meth.locks = false) {K111 : St → Nat → Int32 → Int32 → Option (St × Int32)} (hK111 : ∀ (z : St) (o0 : Nat) (x1 : Int32) (x2 : Int32) (_ : kd o0 = 11) {res : St × Int32}, K111 z o0 x1 x2 = some res → Zj p l e (rm_X11_many_) s m args below meth c g A 4 (0, 0) (QI g A below args s res) z 111 [(0, .ref (g.1 o0)), (1, .int x1), (2, .int x2)] []) : ∀ (n : Nat) (z : St) (o0 : Nat) (x1 : Int32) (x2 : Int32) (x3 : Int32) (_ : kd o0 = 11) {res : St × Int32} (_ : f_X11_many__121 K111 n z o0 x1 x2 x3 = some res), Zj p l e (rm_X11_many_) s m args below meth c g A 4 (0, 0) (QI g A below args s res) z 121 [(0, .ref (g.1 o0)), (1, .int x1), (2, .int x2), (3, .int x3)] [] := by
  intro n
  induction n with
  | zero =>
    intro z o0 x1 x2 x3 ho0 res hf
    cases hf
  | succ n ih =>
    intro z o0 x1 x2 x3 ho0 res hf
    rw [f_X11_many__121] at hf
    refine z_iload_n C dX11_many__121 rfl 3 rfl ?_
    refine z_bipush C dX11_many__122 (v := 64) (by decide) ?_
    exact z_icmp_ge C dX11_many__124 (by decide) (fun h => z_sub [0, 1, 2] rfl (b_X11_many__154 C hr hk hK111 z o0 x1 x2 ho0 (q_t hf h))) (fun h => z_sub [0, 1, 2, 3] rfl (b_X11_many__127 C hr hk hK111 ih z o0 x1 x2 x3 ho0 (q_f hf h)))
def f_X11_many__119 (K111 : St → Nat → Int32 → Int32 → Option (St × Int32)) (z : St) (o0 : Nat) (x1 : Int32) (x2 : Int32) : Option (St × Int32) :=
  f_X11_many__121 K111 FU z o0 x1 x2 0
theorem b_X11_many__119 {p : Program} {l : Launch} {e : Env} {s : State} {m : MethodId} {args : Array Value} {below : List Frame} {meth : Method} {c : Code} {g : Ga} {A : Nat → Prop} (C : Cx l g A p s m args c cX11_many_ 4 RX11 (rm_X11_many_) (0, 0)) (hr : meth.sig.returnType = (some .int)) (hk : meth.locks = false) {K111 : St → Nat → Int32 → Int32 → Option (St × Int32)} (hK111 : ∀ (z : St) (o0 : Nat) (x1 : Int32) (x2 : Int32) (_ : kd o0 = 11) {res : St × Int32}, K111 z o0 x1 x2 = some res → Zj p l e (rm_X11_many_) s m args below meth c g A 4 (0, 0) (QI g A below args s res) z 111 [(0, .ref (g.1 o0)), (1, .int x1), (2, .int x2)] []) (z : St) (o0 : Nat) (x1 : Int32) (x2 : Int32) (ho0 : kd o0 = 11) {res : St × Int32} (hf : f_X11_many__119 K111 z o0 x1 x2 = some res) : Zj p l e (rm_X11_many_) s m args below meth c g A 4 (0, 0) (QI g A below args s res) z 119 [(0, .ref (g.1 o0)), (1, .int x1), (2, .int x2)] [] := by
  unfold f_X11_many__119 at hf
  refine z_iconst C dX11_many__119 (v := 0) (by decide) ?_
  refine z_istore_n C (lv2 := [(3, .int 0), (0, .ref (g.1 o0)), (1, .int x1), (2, .int x2)]) dX11_many__120 rfl (by decide) rfl ?_
  exact z_sub [1, 2, 3, 0] rfl (b_X11_many__121 C hr hk hK111 FU z o0 x1 x2 0 ho0 hf)
def f_X11_many__170 (K164 : St → Nat → Int32 → Int32 → Option (St × Int32)) (z : St) (o0 : Nat) (x2 : Int32) (x3 : Int32) : Option (St × Int32) :=
  ((f_X11_all z o0).bind fun r1 => if inb ((64 * r1.2) + x3) 16384 = true then (K164 r1.1 o0 (x2 + (r1.1.1 (rf o0 40) (Int32.toNatClampNeg ((64 * r1.2) + x3)))) (x3 + 1)) else none)
theorem b_X11_many__170 {p : Program} {l : Launch} {e : Env} {s : State} {m : MethodId} {args : Array Value} {below : List Frame} {meth : Method} {c : Code} {g : Ga} {A : Nat → Prop} (C : Cx l g A p s m args c cX11_many_ 4 RX11 (rm_X11_many_) (0, 0)) (hr : meth.sig.returnType = (some .int)) (hk : meth.locks = false) {K164 : St → Nat → Int32 → Int32 → Option (St × Int32)} (hK164 : ∀ (z : St) (o0 : Nat) (x2 : Int32) (x3 : Int32) (_ : kd o0 = 11) {res : St × Int32}, K164 z o0 x2 x3 = some res → Zj p l e (rm_X11_many_) s m args below meth c g A 4 (0, 0) (QI g A below args s res) z 164 [(0, .ref (g.1 o0)), (2, .int x2), (3, .int x3)] []) (z : St) (o0 : Nat) (x2 : Int32) (x3 : Int32) (ho0 : kd o0 = 11) {res : St × Int32} (hf : f_X11_many__170 K164 z o0 x2 x3 = some res) : Zj p l e (rm_X11_many_) s m args below meth c g A 4 (0, 0) (QI g A below args s res) z 170 [(0, .ref (g.1 o0)), (2, .int x2), (3, .int x3)] [] := by
  unfold f_X11_many__170 at hf
  refine z_iload_n C dX11_many__170 rfl 1 rfl ?_
  refine z_aload_n C dX11_many__171 rfl 0 rfl ?_
  refine gf_X11_76 C dX11_many__172 ho0 ?_
  refine z_bipush C dX11_many__175 (v := 64) (by decide) ?_
  refine z_aload_n C dX11_many__177 rfl 0 rfl ?_
  obtain ⟨r1, hc2, hf⟩ := q_bd hf
  refine z_cVi C (st := [.int 64, .ref (g.1 (rf o0 40)), .int x2]) (c_X11_all ho0 hc2) mw_X11_all ml_X11_283 ho0 (by decide) rfl dX11_many__178 rfl rfl rfl ⟨Nat.le_of_ble_eq_true rfl, Nat.le_of_ble_eq_true rfl⟩ rfl (Nat.le_of_ble_eq_true rfl) ?_
  refine z_imul C dX11_many__181 ?_
  refine z_iload_n C dX11_many__182 rfl 2 rfl ?_
  refine z_iadd C dX11_many__183 ?_
  obtain ⟨h3, hf⟩ := q_ck hf
  refine z_iald C (n := 16384) dX11_many__184 (rt_11_40 _ (kd_lt ho0 (by decide)) ho0) (by decide) h3 ?_
  refine z_iadd C dX11_many__185 ?_
  refine z_istore_n C (lv2 := [(2, .int (x2 + (r1.1.1 (rf o0 40) (Int32.toNatClampNeg ((64 * r1.2) + x3))))), (0, .ref (g.1 o0)), (3, .int x3)]) dX11_many__186 rfl (by decide) rfl ?_
  refine z_iinc C (k := 2) (v := x3 + 1) (lv2 := [(3, .int (x3 + 1)), (2, .int (x2 + (r1.1.1 (rf o0 40) (Int32.toNatClampNeg ((64 * r1.2) + x3))))), (0, .ref (g.1 o0))]) dX11_many__187 rfl rfl (by decide) rfl ?_
  exact z_goto C dX11_many__190 (by decide) (z_sub [2, 1, 0] rfl (hK164 r1.1 o0 (x2 + (r1.1.1 (rf o0 40) (Int32.toNatClampNeg ((64 * r1.2) + x3)))) (x3 + 1) ho0 hf))
def f_X11_many__193  (z : St) (x2 : Int32) : Option (St × Int32) :=
  some (z, x2)
theorem b_X11_many__193 {p : Program} {l : Launch} {e : Env} {s : State} {m : MethodId} {args : Array Value} {below : List Frame} {meth : Method} {c : Code} {g : Ga} {A : Nat → Prop} (C : Cx l g A p s m args c cX11_many_ 4 RX11 (rm_X11_many_) (0, 0)) (hr : meth.sig.returnType = (some .int)) (hk : meth.locks = false)   (z : St) (x2 : Int32)  {res : St × Int32} (hf : f_X11_many__193  z x2 = some res) : Zj p l e (rm_X11_many_) s m args below meth c g A 4 (0, 0) (QI g A below args s res) z 193 [(2, .int x2)] [] := by
  unfold f_X11_many__193 at hf
  refine z_iload_n C dX11_many__193 rfl 0 rfl ?_
  cases hf
  exact z_iret C hr hk dX11_many__194
def f_X11_many__164  : Nat → St → Nat → Int32 → Int32 → Option (St × Int32)
  | 0, _, _, _, _ => none
  | n + 1, z, o0, x2, x3 => if 64 ≤ x3 then f_X11_many__193 z x2 else f_X11_many__170 (f_X11_many__164 n) z o0 x2 x3
theorem b_X11_many__164 {p : Program} {l : Launch} {e : Env} {s : State} {m : MethodId} {args : Array Value} {below : List Frame} {meth : Method} {c : Code} {g : Ga} {A : Nat → Prop} (C : Cx l g A p s m args c cX11_many_ 4 RX11 (rm_X11_many_) (0, 0)) (hr : meth.sig.returnType = (some .int)) (hk : meth.locks = false)   : ∀ (n : Nat) (z : St) (o0 : Nat) (x2 : Int32) (x3 : Int32) (_ : kd o0 = 11) {res : St × Int32} (_ : f_X11_many__164  n z o0 x2 x3 = some res), Zj p l e (rm_X11_many_) s m args below meth c g A 4 (0, 0) (QI g A below args s res) z 164 [(0, .ref (g.1 o0)), (2, .int x2), (3, .int x3)] [] := by
  intro n
  induction n with
  | zero =>
    intro z o0 x2 x3 ho0 res hf
    cases hf
  | succ n ih =>
    intro z o0 x2 x3 ho0 res hf
    rw [f_X11_many__164] at hf
    refine z_iload_n C dX11_many__164 rfl 2 rfl ?_
    refine z_bipush C dX11_many__165 (v := 64) (by decide) ?_
    exact z_icmp_ge C dX11_many__167 (by decide) (fun h => z_sub [1] rfl (b_X11_many__193 C hr hk z x2 (q_t hf h))) (fun h => z_sub [0, 1, 2] rfl (b_X11_many__170 C hr hk ih z o0 x2 x3 ho0 (q_f hf h)))
def f_X11_many__160  (z : St) (o0 : Nat) : Option (St × Int32) :=
  f_X11_many__164 FU z o0 0 0
theorem b_X11_many__160 {p : Program} {l : Launch} {e : Env} {s : State} {m : MethodId} {args : Array Value} {below : List Frame} {meth : Method} {c : Code} {g : Ga} {A : Nat → Prop} (C : Cx l g A p s m args c cX11_many_ 4 RX11 (rm_X11_many_) (0, 0)) (hr : meth.sig.returnType = (some .int)) (hk : meth.locks = false)   (z : St) (o0 : Nat) (ho0 : kd o0 = 11) {res : St × Int32} (hf : f_X11_many__160  z o0 = some res) : Zj p l e (rm_X11_many_) s m args below meth c g A 4 (0, 0) (QI g A below args s res) z 160 [(0, .ref (g.1 o0))] [] := by
  unfold f_X11_many__160 at hf
  refine z_iconst C dX11_many__160 (v := 0) (by decide) ?_
  refine z_istore_n C (lv2 := [(2, .int 0), (0, .ref (g.1 o0))]) dX11_many__161 rfl (by decide) rfl ?_
  refine z_iconst C dX11_many__162 (v := 0) (by decide) ?_
  refine z_istore_n C (lv2 := [(3, .int 0), (2, .int 0), (0, .ref (g.1 o0))]) dX11_many__163 rfl (by decide) rfl ?_
  exact z_sub [2, 1, 0] rfl (b_X11_many__164 C hr hk FU z o0 0 0 ho0 hf)
def f_X11_many__111  : Nat → St → Nat → Int32 → Int32 → Option (St × Int32)
  | 0, _, _, _, _ => none
  | n + 1, z, o0, x1, x2 => ((f_X11_all z o0).bind fun r1 => if r1.2 ≤ x2 then f_X11_many__160 r1.1 o0 else f_X11_many__119 (f_X11_many__111 n) r1.1 o0 x1 x2)
theorem b_X11_many__111 {p : Program} {l : Launch} {e : Env} {s : State} {m : MethodId} {args : Array Value} {below : List Frame} {meth : Method} {c : Code} {g : Ga} {A : Nat → Prop} (C : Cx l g A p s m args c cX11_many_ 4 RX11 (rm_X11_many_) (0, 0)) (hr : meth.sig.returnType = (some .int)) (hk : meth.locks = false)   : ∀ (n : Nat) (z : St) (o0 : Nat) (x1 : Int32) (x2 : Int32) (_ : kd o0 = 11) {res : St × Int32} (_ : f_X11_many__111  n z o0 x1 x2 = some res), Zj p l e (rm_X11_many_) s m args below meth c g A 4 (0, 0) (QI g A below args s res) z 111 [(0, .ref (g.1 o0)), (1, .int x1), (2, .int x2)] [] := by
  intro n
  induction n with
  | zero =>
    intro z o0 x1 x2 ho0 res hf
    cases hf
  | succ n ih =>
    intro z o0 x1 x2 ho0 res hf
    rw [f_X11_many__111] at hf
    refine z_iload_n C dX11_many__111 rfl 2 rfl ?_
    refine z_aload_n C dX11_many__112 rfl 0 rfl ?_
    obtain ⟨r1, hc2, hf⟩ := q_bd hf
    refine z_cVi C (st := [.int x2]) (c_X11_all ho0 hc2) mw_X11_all ml_X11_283 ho0 (by decide) rfl dX11_many__113 rfl rfl rfl ⟨Nat.le_of_ble_eq_true rfl, Nat.le_of_ble_eq_true rfl⟩ rfl (Nat.le_of_ble_eq_true rfl) ?_
    exact z_icmp_ge C dX11_many__116 (by decide) (fun h => z_sub [0] rfl (b_X11_many__160 C hr hk r1.1 o0 ho0 (q_t hf h))) (fun h => z_sub [0, 1, 2] rfl (b_X11_many__119 C hr hk ih r1.1 o0 x1 x2 ho0 (q_f hf h)))
def f_X11_many__102  (z : St) (o0 : Nat) (x1 : Int32) : Option (St × Int32) :=
  if inb 0 16384 = true then (f_X11_many__111 FU (zI z (rf o0 40) (Int32.toNatClampNeg 0) 1) o0 x1 0) else none
theorem b_X11_many__102 {p : Program} {l : Launch} {e : Env} {s : State} {m : MethodId} {args : Array Value} {below : List Frame} {meth : Method} {c : Code} {g : Ga} {A : Nat → Prop} (C : Cx l g A p s m args c cX11_many_ 4 RX11 (rm_X11_many_) (0, 0)) (hr : meth.sig.returnType = (some .int)) (hk : meth.locks = false)   (z : St) (o0 : Nat) (x1 : Int32) (ho0 : kd o0 = 11) {res : St × Int32} (hf : f_X11_many__102  z o0 x1 = some res) : Zj p l e (rm_X11_many_) s m args below meth c g A 4 (0, 0) (QI g A below args s res) z 102 [(0, .ref (g.1 o0)), (1, .int x1)] [] := by
  unfold f_X11_many__102 at hf
  refine z_aload_n C dX11_many__102 rfl 0 rfl ?_
  refine gf_X11_76 C dX11_many__103 ho0 ?_
  refine z_iconst C dX11_many__106 (v := 0) (by decide) ?_
  refine z_iconst C dX11_many__107 (v := 1) (by decide) ?_
  obtain ⟨h1, hf⟩ := q_ck hf
  refine z_iast C (n := 16384) dX11_many__108 (rt_11_40 _ (kd_lt ho0 (by decide)) ho0) (by decide) h1 ?_
  refine z_iconst C dX11_many__109 (v := 0) (by decide) ?_
  refine z_istore_n C (lv2 := [(2, .int 0), (0, .ref (g.1 o0)), (1, .int x1)]) dX11_many__110 rfl (by decide) rfl ?_
  exact z_sub [1, 2, 0] rfl (b_X11_many__111 C hr hk FU (zI z (rf o0 40) (Int32.toNatClampNeg 0) 1) o0 x1 0 ho0 hf)
def f_X11_many__11  : Nat → St → Nat → Int32 → Int32 → Option (St × Int32)
  | 0, _, _, _, _ => none
  | n + 1, z, o0, x1, x2 => ((f_X11_all z o0).bind fun r1 => if r1.2 < x2 then f_X11_many__102 r1.1 o0 x1 else f_X11_many__19 (f_X11_many__11 n) r1.1 o0 x1 x2)
theorem b_X11_many__11 {p : Program} {l : Launch} {e : Env} {s : State} {m : MethodId} {args : Array Value} {below : List Frame} {meth : Method} {c : Code} {g : Ga} {A : Nat → Prop} (C : Cx l g A p s m args c cX11_many_ 4 RX11 (rm_X11_many_) (0, 0)) (hr : meth.sig.returnType = (some .int)) (hk : meth.locks = false)   : ∀ (n : Nat) (z : St) (o0 : Nat) (x1 : Int32) (x2 : Int32) (_ : kd o0 = 11) {res : St × Int32} (_ : f_X11_many__11  n z o0 x1 x2 = some res), Zj p l e (rm_X11_many_) s m args below meth c g A 4 (0, 0) (QI g A below args s res) z 11 [(0, .ref (g.1 o0)), (1, .int x1), (2, .int x2)] [] := by
  intro n
  induction n with
  | zero =>
    intro z o0 x1 x2 ho0 res hf
    cases hf
  | succ n ih =>
    intro z o0 x1 x2 ho0 res hf
    rw [f_X11_many__11] at hf
    refine z_iload_n C dX11_many__11 rfl 2 rfl ?_
    refine z_aload_n C dX11_many__12 rfl 0 rfl ?_
    obtain ⟨r1, hc2, hf⟩ := q_bd hf
    refine z_cVi C (st := [.int x2]) (c_X11_all ho0 hc2) mw_X11_all ml_X11_283 ho0 (by decide) rfl dX11_many__13 rfl rfl rfl ⟨Nat.le_of_ble_eq_true rfl, Nat.le_of_ble_eq_true rfl⟩ rfl (Nat.le_of_ble_eq_true rfl) ?_
    exact z_icmp_gt C dX11_many__16 (by decide) (fun h => z_sub [0, 1] rfl (b_X11_many__102 C hr hk r1.1 o0 x1 ho0 (q_t hf h))) (fun h => z_sub [0, 1, 2] rfl (b_X11_many__19 C hr hk ih r1.1 o0 x1 x2 ho0 (q_f hf h)))
def f_X11_many__0  (z : St) (o0 : Nat) : Option (St × Int32) :=
  ((f_X11_thinks z o0).bind fun r1 => ((f_X11_leastNow r1 o0).bind fun r3 => f_X11_many__11 FU r3.1 o0 r3.2 0))
theorem b_X11_many__0 {p : Program} {l : Launch} {e : Env} {s : State} {m : MethodId} {args : Array Value} {below : List Frame} {meth : Method} {c : Code} {g : Ga} {A : Nat → Prop} (C : Cx l g A p s m args c cX11_many_ 4 RX11 (rm_X11_many_) (0, 0)) (hr : meth.sig.returnType = (some .int)) (hk : meth.locks = false)   (z : St) (o0 : Nat) (ho0 : kd o0 = 11) {res : St × Int32} (hf : f_X11_many__0  z o0 = some res) : Zj p l e (rm_X11_many_) s m args below meth c g A 4 (0, 0) (QI g A below args s res) z 0 [(0, .ref (g.1 o0))] [] := by
  unfold f_X11_many__0 at hf
  refine z_aload_n C dX11_many__0 rfl 0 rfl ?_
  obtain ⟨r1, hc2, hf⟩ := q_bd hf
  refine z_cVv C (st := []) (c_X11_thinks ho0 hc2) mw_X11_thinks ml_X11_205 ho0 (by decide) rfl dX11_many__1 rfl rfl rfl ⟨Nat.le_of_ble_eq_true rfl, Nat.le_of_ble_eq_true rfl⟩ rfl (Nat.le_of_ble_eq_true rfl) ?_
  refine z_aload_n C dX11_many__4 rfl 0 rfl ?_
  obtain ⟨r3, hc4, hf⟩ := q_bd hf
  refine z_cVi C (st := []) (c_X11_leastNow ho0 hc4) mw_X11_leastNow ml_X11_289 ho0 (by decide) rfl dX11_many__5 rfl rfl rfl ⟨Nat.le_of_ble_eq_true rfl, Nat.le_of_ble_eq_true rfl⟩ rfl (Nat.le_of_ble_eq_true rfl) ?_
  refine z_istore_n C (lv2 := [(1, .int r3.2), (0, .ref (g.1 o0))]) dX11_many__8 rfl (by decide) rfl ?_
  refine z_iconst C dX11_many__9 (v := 0) (by decide) ?_
  refine z_istore_n C (lv2 := [(2, .int 0), (1, .int r3.2), (0, .ref (g.1 o0))]) dX11_many__10 rfl (by decide) rfl ?_
  exact z_sub [2, 1, 0] rfl (b_X11_many__11 C hr hk FU r3.1 o0 r3.2 0 ho0 hf)
def f_X11_many_ (z : St) (o0 : Nat) : Option (St × Int32) := f_X11_many__0 z o0
theorem c_X11_many_ {l : Launch} {g : Ga} {A : Nat → Prop} {z : St} {o0 : Nat} (ho0 : kd o0 = 11) {res : St × Int32} (hf : f_X11_many_ z o0 = some res) : CI l g A yX11_many_ cX11_many_ 4 (some .int) rm_X11_many_ [.ref (g.1 o0)] z res :=
  e_CI (by decide) (Nat.le_of_ble_eq_true rfl) rfl (fun p e s m args below meth c C hr hk => z_sub [0] rfl (b_X11_many__0 C hr hk z o0 ho0 hf))
abbrev rm_X11_firstOrder : Room := { frames := 5, cells := 0, slots := 0, locals := 113 }
def f_X11_firstOrder_118 (K24 : St → Nat → Int32 → Int32 → Int32 → Int32 → Option (St)) (K39 : St → Nat → Int32 → Int32 → Int32 → Int32 → Int32 → Int32 → Option (St)) (z : St) (o0 : Nat) (x1 : Int32) (x2 : Int32) (x3 : Int32) (x4 : Int32) (x5 : Int32) (x6 : Int32) : Option (St) :=
  K39 z o0 x1 x2 x3 x4 x5 (x6 + 1)
theorem b_X11_firstOrder_118 {p : Program} {l : Launch} {e : Env} {s : State} {m : MethodId} {args : Array Value} {below : List Frame} {meth : Method} {c : Code} {g : Ga} {A : Nat → Prop} (C : Cx l g A p s m args c cX11_firstOrder 8 RX11 (rm_X11_firstOrder) (0, 0)) (hr : meth.sig.returnType = none) (hk : meth.locks = false) {K24 : St → Nat → Int32 → Int32 → Int32 → Int32 → Option (St)} {K39 : St → Nat → Int32 → Int32 → Int32 → Int32 → Int32 → Int32 → Option (St)} (hK24 : ∀ (z : St) (o0 : Nat) (x1 : Int32) (x2 : Int32) (x3 : Int32) (x4 : Int32) (_ : kd o0 = 11) {res : St}, K24 z o0 x1 x2 x3 x4 = some res → Zj p l e (rm_X11_firstOrder) s m args below meth c g A 8 (0, 0) (QV g A below args s res) z 24 [(0, .ref (g.1 o0)), (1, .int x1), (2, .int x2), (3, .int x3), (4, .int x4)] []) (hK39 : ∀ (z : St) (o0 : Nat) (x1 : Int32) (x2 : Int32) (x3 : Int32) (x4 : Int32) (x5 : Int32) (x6 : Int32) (_ : kd o0 = 11) {res : St}, K39 z o0 x1 x2 x3 x4 x5 x6 = some res → Zj p l e (rm_X11_firstOrder) s m args below meth c g A 8 (0, 0) (QV g A below args s res) z 39 [(0, .ref (g.1 o0)), (1, .int x1), (2, .int x2), (3, .int x3), (4, .int x4), (5, .int x5), (6, .int x6)] []) (z : St) (o0 : Nat) (x1 : Int32) (x2 : Int32) (x3 : Int32) (x4 : Int32) (x5 : Int32) (x6 : Int32) (ho0 : kd o0 = 11) {res : St} (hf : f_X11_firstOrder_118 K24 K39 z o0 x1 x2 x3 x4 x5 x6 = some res) : Zj p l e (rm_X11_firstOrder) s m args below meth c g A 8 (0, 0) (QV g A below args s res) z 118 [(0, .ref (g.1 o0)), (1, .int x1), (2, .int x2), (3, .int x3), (4, .int x4), (5, .int x5), (6, .int x6)] [] := by
  unfold f_X11_firstOrder_118 at hf
  refine z_iinc C (k := 6) (v := x6 + 1) (lv2 := [(6, .int (x6 + 1)), (0, .ref (g.1 o0)), (1, .int x1), (2, .int x2), (3, .int x3), (4, .int x4), (5, .int x5)]) dX11_firstOrder_118 rfl rfl (by decide) rfl ?_
  exact z_goto C dX11_firstOrder_121 (by decide) (z_sub [1, 2, 3, 4, 5, 6, 0] rfl (hK39 z o0 x1 x2 x3 x4 x5 (x6 + 1) ho0 hf))
def f_X11_firstOrder_114 (K24 : St → Nat → Int32 → Int32 → Int32 → Int32 → Option (St)) (K39 : St → Nat → Int32 → Int32 → Int32 → Int32 → Int32 → Int32 → Option (St)) (z : St) (o0 : Nat) (x1 : Int32) (x2 : Int32) (x3 : Int32) (x4 : Int32) (x6 : Int32) : Option (St) :=
  f_X11_firstOrder_118 K24 K39 z o0 x1 x2 x3 x4 x6 x6
theorem b_X11_firstOrder_114 {p : Program} {l : Launch} {e : Env} {s : State} {m : MethodId} {args : Array Value} {below : List Frame} {meth : Method} {c : Code} {g : Ga} {A : Nat → Prop} (C : Cx l g A p s m args c cX11_firstOrder 8 RX11 (rm_X11_firstOrder) (0, 0)) (hr : meth.sig.returnType = none) (hk : meth.locks = false) {K24 : St → Nat → Int32 → Int32 → Int32 → Int32 → Option (St)} {K39 : St → Nat → Int32 → Int32 → Int32 → Int32 → Int32 → Int32 → Option (St)} (hK24 : ∀ (z : St) (o0 : Nat) (x1 : Int32) (x2 : Int32) (x3 : Int32) (x4 : Int32) (_ : kd o0 = 11) {res : St}, K24 z o0 x1 x2 x3 x4 = some res → Zj p l e (rm_X11_firstOrder) s m args below meth c g A 8 (0, 0) (QV g A below args s res) z 24 [(0, .ref (g.1 o0)), (1, .int x1), (2, .int x2), (3, .int x3), (4, .int x4)] []) (hK39 : ∀ (z : St) (o0 : Nat) (x1 : Int32) (x2 : Int32) (x3 : Int32) (x4 : Int32) (x5 : Int32) (x6 : Int32) (_ : kd o0 = 11) {res : St}, K39 z o0 x1 x2 x3 x4 x5 x6 = some res → Zj p l e (rm_X11_firstOrder) s m args below meth c g A 8 (0, 0) (QV g A below args s res) z 39 [(0, .ref (g.1 o0)), (1, .int x1), (2, .int x2), (3, .int x3), (4, .int x4), (5, .int x5), (6, .int x6)] []) (z : St) (o0 : Nat) (x1 : Int32) (x2 : Int32) (x3 : Int32) (x4 : Int32) (x6 : Int32) (ho0 : kd o0 = 11) {res : St} (hf : f_X11_firstOrder_114 K24 K39 z o0 x1 x2 x3 x4 x6 = some res) : Zj p l e (rm_X11_firstOrder) s m args below meth c g A 8 (0, 0) (QV g A below args s res) z 114 [(0, .ref (g.1 o0)), (1, .int x1), (2, .int x2), (3, .int x3), (4, .int x4), (6, .int x6)] [] := by
  unfold f_X11_firstOrder_114 at hf
  refine z_iload C dX11_firstOrder_114 5 rfl ?_
  refine z_istore C (lv2 := [(5, .int x6), (0, .ref (g.1 o0)), (1, .int x1), (2, .int x2), (3, .int x3), (4, .int x4), (6, .int x6)]) dX11_firstOrder_116 (by decide) rfl ?_
  exact z_sub [1, 2, 3, 4, 5, 0, 6] rfl (b_X11_firstOrder_118 C hr hk hK24 hK39 z o0 x1 x2 x3 x4 x6 x6 ho0 hf)
def f_X11_firstOrder_98 (K24 : St → Nat → Int32 → Int32 → Int32 → Int32 → Option (St)) (K39 : St → Nat → Int32 → Int32 → Int32 → Int32 → Int32 → Int32 → Option (St)) (z : St) (o0 : Nat) (x1 : Int32) (x2 : Int32) (x3 : Int32) (x4 : Int32) (x5 : Int32) (x6 : Int32) (x7 : Int32) : Option (St) :=
  if inb (x3 ^^^ ((1 : Int32) <<< (x6 &&& 31))) 256 = true then (if (z.1 (rf o0 37) (Int32.toNatClampNeg (x3 ^^^ ((1 : Int32) <<< (x6 &&& 31))))) < x7 then f_X11_firstOrder_118 K24 K39 z o0 x1 x2 x3 x4 x5 x6 else f_X11_firstOrder_114 K24 K39 z o0 x1 x2 x3 x4 x6) else none
theorem b_X11_firstOrder_98 {p : Program} {l : Launch} {e : Env} {s : State} {m : MethodId} {args : Array Value} {below : List Frame} {meth : Method} {c : Code} {g : Ga} {A : Nat → Prop} (C : Cx l g A p s m args c cX11_firstOrder 8 RX11 (rm_X11_firstOrder) (0, 0)) (hr : meth.sig.returnType = none) (hk : meth.locks = false) {K24 : St → Nat → Int32 → Int32 → Int32 → Int32 → Option (St)} {K39 : St → Nat → Int32 → Int32 → Int32 → Int32 → Int32 → Int32 → Option (St)} (hK24 : ∀ (z : St) (o0 : Nat) (x1 : Int32) (x2 : Int32) (x3 : Int32) (x4 : Int32) (_ : kd o0 = 11) {res : St}, K24 z o0 x1 x2 x3 x4 = some res → Zj p l e (rm_X11_firstOrder) s m args below meth c g A 8 (0, 0) (QV g A below args s res) z 24 [(0, .ref (g.1 o0)), (1, .int x1), (2, .int x2), (3, .int x3), (4, .int x4)] []) (hK39 : ∀ (z : St) (o0 : Nat) (x1 : Int32) (x2 : Int32) (x3 : Int32) (x4 : Int32) (x5 : Int32) (x6 : Int32) (_ : kd o0 = 11) {res : St}, K39 z o0 x1 x2 x3 x4 x5 x6 = some res → Zj p l e (rm_X11_firstOrder) s m args below meth c g A 8 (0, 0) (QV g A below args s res) z 39 [(0, .ref (g.1 o0)), (1, .int x1), (2, .int x2), (3, .int x3), (4, .int x4), (5, .int x5), (6, .int x6)] []) (z : St) (o0 : Nat) (x1 : Int32) (x2 : Int32) (x3 : Int32) (x4 : Int32) (x5 : Int32) (x6 : Int32) (x7 : Int32) (ho0 : kd o0 = 11) {res : St} (hf : f_X11_firstOrder_98 K24 K39 z o0 x1 x2 x3 x4 x5 x6 x7 = some res) : Zj p l e (rm_X11_firstOrder) s m args below meth c g A 8 (0, 0) (QV g A below args s res) z 98 [(0, .ref (g.1 o0)), (1, .int x1), (2, .int x2), (3, .int x3), (4, .int x4), (5, .int x5), (6, .int x6), (7, .int x7)] [] := by
  unfold f_X11_firstOrder_98 at hf
  refine z_iload C dX11_firstOrder_98 7 rfl ?_
  refine z_aload_n C dX11_firstOrder_100 rfl 0 rfl ?_
  refine gf_X11_67 C dX11_firstOrder_101 ho0 ?_
  refine z_iload_n C dX11_firstOrder_104 rfl 3 rfl ?_
  refine z_iconst C dX11_firstOrder_105 (v := 1) (by decide) ?_
  refine z_iload C dX11_firstOrder_106 6 rfl ?_
  refine z_ishl C dX11_firstOrder_108 ?_
  refine z_ixor C dX11_firstOrder_109 ?_
  obtain ⟨h1, hf⟩ := q_ck hf
  refine z_iald C (n := 256) dX11_firstOrder_110 (rt_11_37 _ (kd_lt ho0 (by decide)) ho0) (by decide) h1 ?_
  exact z_icmp_gt C dX11_firstOrder_111 (by decide) (fun h => z_sub [0, 1, 2, 3, 4, 5, 6] rfl (b_X11_firstOrder_118 C hr hk hK24 hK39 z o0 x1 x2 x3 x4 x5 x6 ho0 (q_t hf h))) (fun h => z_sub [0, 1, 2, 3, 4, 6] rfl (b_X11_firstOrder_114 C hr hk hK24 hK39 z o0 x1 x2 x3 x4 x6 ho0 (q_f hf h)))
def f_X11_firstOrder_84 (K24 : St → Nat → Int32 → Int32 → Int32 → Int32 → Option (St)) (K39 : St → Nat → Int32 → Int32 → Int32 → Int32 → Int32 → Int32 → Option (St)) (z : St) (o0 : Nat) (x1 : Int32) (x2 : Int32) (x3 : Int32) (x4 : Int32) (x5 : Int32) (x6 : Int32) (x7 : Int32) : Option (St) :=
  if inb x6 8 = true then (if x1 < (x7 + (z.1 (rf o0 15) (Int32.toNatClampNeg x6))) then f_X11_firstOrder_118 K24 K39 z o0 x1 x2 x3 x4 x5 x6 else f_X11_firstOrder_98 K24 K39 z o0 x1 x2 x3 x4 x5 x6 x7) else none
theorem b_X11_firstOrder_84 {p : Program} {l : Launch} {e : Env} {s : State} {m : MethodId} {args : Array Value} {below : List Frame} {meth : Method} {c : Code} {g : Ga} {A : Nat → Prop} (C : Cx l g A p s m args c cX11_firstOrder 8 RX11 (rm_X11_firstOrder) (0, 0)) (hr : meth.sig.returnType = none) (hk : meth.locks = false) {K24 : St → Nat → Int32 → Int32 → Int32 → Int32 → Option (St)} {K39 : St → Nat → Int32 → Int32 → Int32 → Int32 → Int32 → Int32 → Option (St)} (hK24 : ∀ (z : St) (o0 : Nat) (x1 : Int32) (x2 : Int32) (x3 : Int32) (x4 : Int32) (_ : kd o0 = 11) {res : St}, K24 z o0 x1 x2 x3 x4 = some res → Zj p l e (rm_X11_firstOrder) s m args below meth c g A 8 (0, 0) (QV g A below args s res) z 24 [(0, .ref (g.1 o0)), (1, .int x1), (2, .int x2), (3, .int x3), (4, .int x4)] []) (hK39 : ∀ (z : St) (o0 : Nat) (x1 : Int32) (x2 : Int32) (x3 : Int32) (x4 : Int32) (x5 : Int32) (x6 : Int32) (_ : kd o0 = 11) {res : St}, K39 z o0 x1 x2 x3 x4 x5 x6 = some res → Zj p l e (rm_X11_firstOrder) s m args below meth c g A 8 (0, 0) (QV g A below args s res) z 39 [(0, .ref (g.1 o0)), (1, .int x1), (2, .int x2), (3, .int x3), (4, .int x4), (5, .int x5), (6, .int x6)] []) (z : St) (o0 : Nat) (x1 : Int32) (x2 : Int32) (x3 : Int32) (x4 : Int32) (x5 : Int32) (x6 : Int32) (x7 : Int32) (ho0 : kd o0 = 11) {res : St} (hf : f_X11_firstOrder_84 K24 K39 z o0 x1 x2 x3 x4 x5 x6 x7 = some res) : Zj p l e (rm_X11_firstOrder) s m args below meth c g A 8 (0, 0) (QV g A below args s res) z 84 [(0, .ref (g.1 o0)), (1, .int x1), (2, .int x2), (3, .int x3), (4, .int x4), (5, .int x5), (6, .int x6), (7, .int x7)] [] := by
  unfold f_X11_firstOrder_84 at hf
  refine z_iload C dX11_firstOrder_84 7 rfl ?_
  refine z_aload_n C dX11_firstOrder_86 rfl 0 rfl ?_
  refine gf_X11_34 C dX11_firstOrder_87 ho0 ?_
  refine z_iload C dX11_firstOrder_90 6 rfl ?_
  obtain ⟨h1, hf⟩ := q_ck hf
  refine z_iald C (n := 8) dX11_firstOrder_92 (rt_11_15 _ (kd_lt ho0 (by decide)) ho0) (by decide) h1 ?_
  refine z_iadd C dX11_firstOrder_93 ?_
  refine z_iload_n C dX11_firstOrder_94 rfl 1 rfl ?_
  exact z_icmp_gt C dX11_firstOrder_95 (by decide) (fun h => z_sub [0, 1, 2, 3, 4, 5, 6] rfl (b_X11_firstOrder_118 C hr hk hK24 hK39 z o0 x1 x2 x3 x4 x5 x6 ho0 (q_t hf h))) (fun h => z_sub [0, 1, 2, 3, 4, 5, 6, 7] rfl (b_X11_firstOrder_98 C hr hk hK24 hK39 z o0 x1 x2 x3 x4 x5 x6 x7 ho0 (q_f hf h)))
def f_X11_firstOrder_53 (K24 : St → Nat → Int32 → Int32 → Int32 → Int32 → Option (St)) (K39 : St → Nat → Int32 → Int32 → Int32 → Int32 → Int32 → Int32 → Option (St)) (z : St) (o0 : Nat) (x1 : Int32) (x2 : Int32) (x3 : Int32) (x4 : Int32) (x5 : Int32) (x6 : Int32) : Option (St) :=
  if inb x6 8 = true then (if inb x6 8 = true then (if ((x3 >>> (x6 &&& 31)) &&& 1) = 1 then f_X11_firstOrder_84 K24 K39 z o0 x1 x2 x3 x4 x5 x6 ((imax x2 (z.1 (rf o0 13) (Int32.toNatClampNeg x6))) + (z.1 (rf o0 14) (Int32.toNatClampNeg x6))) else f_X11_firstOrder_118 K24 K39 z o0 x1 x2 x3 x4 x5 x6) else none) else none
theorem b_X11_firstOrder_53 {p : Program} {l : Launch} {e : Env} {s : State} {m : MethodId} {args : Array Value} {below : List Frame} {meth : Method} {c : Code} {g : Ga} {A : Nat → Prop} (C : Cx l g A p s m args c cX11_firstOrder 8 RX11 (rm_X11_firstOrder) (0, 0)) (hr : meth.sig.returnType = none) (hk : meth.locks = false) {K24 : St → Nat → Int32 → Int32 → Int32 → Int32 → Option (St)} {K39 : St → Nat → Int32 → Int32 → Int32 → Int32 → Int32 → Int32 → Option (St)} (hK24 : ∀ (z : St) (o0 : Nat) (x1 : Int32) (x2 : Int32) (x3 : Int32) (x4 : Int32) (_ : kd o0 = 11) {res : St}, K24 z o0 x1 x2 x3 x4 = some res → Zj p l e (rm_X11_firstOrder) s m args below meth c g A 8 (0, 0) (QV g A below args s res) z 24 [(0, .ref (g.1 o0)), (1, .int x1), (2, .int x2), (3, .int x3), (4, .int x4)] []) (hK39 : ∀ (z : St) (o0 : Nat) (x1 : Int32) (x2 : Int32) (x3 : Int32) (x4 : Int32) (x5 : Int32) (x6 : Int32) (_ : kd o0 = 11) {res : St}, K39 z o0 x1 x2 x3 x4 x5 x6 = some res → Zj p l e (rm_X11_firstOrder) s m args below meth c g A 8 (0, 0) (QV g A below args s res) z 39 [(0, .ref (g.1 o0)), (1, .int x1), (2, .int x2), (3, .int x3), (4, .int x4), (5, .int x5), (6, .int x6)] []) (z : St) (o0 : Nat) (x1 : Int32) (x2 : Int32) (x3 : Int32) (x4 : Int32) (x5 : Int32) (x6 : Int32) (ho0 : kd o0 = 11) {res : St} (hf : f_X11_firstOrder_53 K24 K39 z o0 x1 x2 x3 x4 x5 x6 = some res) : Zj p l e (rm_X11_firstOrder) s m args below meth c g A 8 (0, 0) (QV g A below args s res) z 53 [(0, .ref (g.1 o0)), (1, .int x1), (2, .int x2), (3, .int x3), (4, .int x4), (5, .int x5), (6, .int x6)] [] := by
  unfold f_X11_firstOrder_53 at hf
  refine z_iload_n C dX11_firstOrder_53 rfl 2 rfl ?_
  refine z_aload_n C dX11_firstOrder_54 rfl 0 rfl ?_
  refine gf_X11_28 C dX11_firstOrder_55 ho0 ?_
  refine z_iload C dX11_firstOrder_58 6 rfl ?_
  obtain ⟨h1, hf⟩ := q_ck hf
  refine z_iald C (n := 8) dX11_firstOrder_60 (rt_11_13 _ (kd_lt ho0 (by decide)) ho0) (by decide) h1 ?_
  refine z_mmax C (st := []) dX11_firstOrder_61 ml_X11_126 mm_max.1 mm_i mm_max.2 ⟨Nat.le_of_ble_eq_true rfl, Nat.le_of_ble_eq_true rfl⟩ (Nat.le_of_ble_eq_true rfl) ?_
  refine z_aload_n C dX11_firstOrder_64 rfl 0 rfl ?_
  refine gf_X11_31 C dX11_firstOrder_65 ho0 ?_
  refine z_iload C dX11_firstOrder_68 6 rfl ?_
  obtain ⟨h2, hf⟩ := q_ck hf
  refine z_iald C (n := 8) dX11_firstOrder_70 (rt_11_14 _ (kd_lt ho0 (by decide)) ho0) (by decide) h2 ?_
  refine z_iadd C dX11_firstOrder_71 ?_
  refine z_istore C (lv2 := [(7, .int ((imax x2 (z.1 (rf o0 13) (Int32.toNatClampNeg x6))) + (z.1 (rf o0 14) (Int32.toNatClampNeg x6)))), (0, .ref (g.1 o0)), (1, .int x1), (2, .int x2), (3, .int x3), (4, .int x4), (5, .int x5), (6, .int x6)]) dX11_firstOrder_72 (by decide) rfl ?_
  refine z_iload_n C dX11_firstOrder_74 rfl 4 rfl ?_
  refine z_iload C dX11_firstOrder_75 7 rfl ?_
  refine z_ishr C dX11_firstOrder_77 ?_
  refine z_iconst C dX11_firstOrder_78 (v := 1) (by decide) ?_
  refine z_iand C dX11_firstOrder_79 ?_
  refine z_iconst C dX11_firstOrder_80 (v := 1) (by decide) ?_
  exact z_icmp_ne C dX11_firstOrder_81 (by decide) (fun h => z_sub [1, 2, 3, 4, 5, 6, 7] rfl (b_X11_firstOrder_118 C hr hk hK24 hK39 z o0 x1 x2 x3 x4 x5 x6 ho0 (q_f hf h))) (fun h => z_sub [1, 2, 3, 4, 5, 6, 7, 0] rfl (b_X11_firstOrder_84 C hr hk hK24 hK39 z o0 x1 x2 x3 x4 x5 x6 ((imax x2 (z.1 (rf o0 13) (Int32.toNatClampNeg x6))) + (z.1 (rf o0 14) (Int32.toNatClampNeg x6))) ho0 (q_t hf h)))
def f_X11_firstOrder_124 (K24 : St → Nat → Int32 → Int32 → Int32 → Int32 → Option (St)) (z : St) (o0 : Nat) (x1 : Int32) (x2 : Int32) (x3 : Int32) (x4 : Int32) (x5 : Int32) : Option (St) :=
  if inb x4 8 = true then (if inb x5 8 = true then (if inb x5 8 = true then (if inb x5 8 = true then (if inb x5 8 = true then (K24 (zI (zI z (rf o0 41) (Int32.toNatClampNeg x4) x5) (rf o0 42) (Int32.toNatClampNeg x5) (imax x2 ((zI z (rf o0 41) (Int32.toNatClampNeg x4) x5).1 (rf o0 13) (Int32.toNatClampNeg x5)))) o0 x1 (((zI (zI z (rf o0 41) (Int32.toNatClampNeg x4) x5) (rf o0 42) (Int32.toNatClampNeg x5) (imax x2 ((zI z (rf o0 41) (Int32.toNatClampNeg x4) x5).1 (rf o0 13) (Int32.toNatClampNeg x5)))).1 (rf o0 42) (Int32.toNatClampNeg x5)) + ((zI (zI z (rf o0 41) (Int32.toNatClampNeg x4) x5) (rf o0 42) (Int32.toNatClampNeg x5) (imax x2 ((zI z (rf o0 41) (Int32.toNatClampNeg x4) x5).1 (rf o0 13) (Int32.toNatClampNeg x5)))).1 (rf o0 14) (Int32.toNatClampNeg x5))) (x3 ^^^ ((1 : Int32) <<< (x5 &&& 31))) (x4 + 1)) else none) else none) else none) else none) else none
theorem b_X11_firstOrder_124 {p : Program} {l : Launch} {e : Env} {s : State} {m : MethodId} {args : Array Value} {below : List Frame} {meth : Method} {c : Code} {g : Ga} {A : Nat → Prop} (C : Cx l g A p s m args c cX11_firstOrder 8 RX11 (rm_X11_firstOrder) (0, 0)) (hr : meth.sig.returnType = none) (hk : meth.locks = false) {K24 : St → Nat → Int32 → Int32 → Int32 → Int32 → Option (St)} (hK24 : ∀ (z : St) (o0 : Nat) (x1 : Int32) (x2 : Int32) (x3 : Int32) (x4 : Int32) (_ : kd o0 = 11) {res : St}, K24 z o0 x1 x2 x3 x4 = some res → Zj p l e (rm_X11_firstOrder) s m args below meth c g A 8 (0, 0) (QV g A below args s res) z 24 [(0, .ref (g.1 o0)), (1, .int x1), (2, .int x2), (3, .int x3), (4, .int x4)] []) (z : St) (o0 : Nat) (x1 : Int32) (x2 : Int32) (x3 : Int32) (x4 : Int32) (x5 : Int32) (ho0 : kd o0 = 11) {res : St} (hf : f_X11_firstOrder_124 K24 z o0 x1 x2 x3 x4 x5 = some res) : Zj p l e (rm_X11_firstOrder) s m args below meth c g A 8 (0, 0) (QV g A below args s res) z 124 [(0, .ref (g.1 o0)), (1, .int x1), (2, .int x2), (3, .int x3), (4, .int x4), (5, .int x5)] [] := by
  unfold f_X11_firstOrder_124 at hf
  refine z_aload_n C dX11_firstOrder_124 rfl 0 rfl ?_
  refine gf_X11_79 C dX11_firstOrder_125 ho0 ?_
  refine z_iload C dX11_firstOrder_128 4 rfl ?_
  refine z_iload C dX11_firstOrder_130 5 rfl ?_
  obtain ⟨h1, hf⟩ := q_ck hf
  refine z_iast C (n := 8) dX11_firstOrder_132 (rt_11_41 _ (kd_lt ho0 (by decide)) ho0) (by decide) h1 ?_
  refine z_aload_n C dX11_firstOrder_133 rfl 0 rfl ?_
  refine gf_X11_82 C dX11_firstOrder_134 ho0 ?_
  refine z_iload C dX11_firstOrder_137 5 rfl ?_
  refine z_iload_n C dX11_firstOrder_139 rfl 2 rfl ?_
  refine z_aload_n C dX11_firstOrder_140 rfl 0 rfl ?_
  refine gf_X11_28 C dX11_firstOrder_141 ho0 ?_
  refine z_iload C dX11_firstOrder_144 5 rfl ?_
  obtain ⟨h2, hf⟩ := q_ck hf
  refine z_iald C (n := 8) dX11_firstOrder_146 (rt_11_13 _ (kd_lt ho0 (by decide)) ho0) (by decide) h2 ?_
  refine z_mmax C (st := [.int x5, .ref (g.1 (rf o0 42))]) dX11_firstOrder_147 ml_X11_126 mm_max.1 mm_i mm_max.2 ⟨Nat.le_of_ble_eq_true rfl, Nat.le_of_ble_eq_true rfl⟩ (Nat.le_of_ble_eq_true rfl) ?_
  obtain ⟨h3, hf⟩ := q_ck hf
  refine z_iast C (n := 8) dX11_firstOrder_150 (rt_11_42 _ (kd_lt ho0 (by decide)) ho0) (by decide) h3 ?_
  refine z_aload_n C dX11_firstOrder_151 rfl 0 rfl ?_
  refine gf_X11_82 C dX11_firstOrder_152 ho0 ?_
  refine z_iload C dX11_firstOrder_155 5 rfl ?_
  obtain ⟨h4, hf⟩ := q_ck hf
  refine z_iald C (n := 8) dX11_firstOrder_157 (rt_11_42 _ (kd_lt ho0 (by decide)) ho0) (by decide) h4 ?_
  refine z_aload_n C dX11_firstOrder_158 rfl 0 rfl ?_
  refine gf_X11_31 C dX11_firstOrder_159 ho0 ?_
  refine z_iload C dX11_firstOrder_162 5 rfl ?_
  obtain ⟨h5, hf⟩ := q_ck hf
  refine z_iald C (n := 8) dX11_firstOrder_164 (rt_11_14 _ (kd_lt ho0 (by decide)) ho0) (by decide) h5 ?_
  refine z_iadd C dX11_firstOrder_165 ?_
  refine z_istore_n C (lv2 := [(2, .int (((zI (zI z (rf o0 41) (Int32.toNatClampNeg x4) x5) (rf o0 42) (Int32.toNatClampNeg x5) (imax x2 ((zI z (rf o0 41) (Int32.toNatClampNeg x4) x5).1 (rf o0 13) (Int32.toNatClampNeg x5)))).1 (rf o0 42) (Int32.toNatClampNeg x5)) + ((zI (zI z (rf o0 41) (Int32.toNatClampNeg x4) x5) (rf o0 42) (Int32.toNatClampNeg x5) (imax x2 ((zI z (rf o0 41) (Int32.toNatClampNeg x4) x5).1 (rf o0 13) (Int32.toNatClampNeg x5)))).1 (rf o0 14) (Int32.toNatClampNeg x5)))), (0, .ref (g.1 o0)), (1, .int x1), (3, .int x3), (4, .int x4), (5, .int x5)]) dX11_firstOrder_166 rfl (by decide) rfl ?_
  refine z_iload_n C dX11_firstOrder_167 rfl 3 rfl ?_
  refine z_iconst C dX11_firstOrder_168 (v := 1) (by decide) ?_
  refine z_iload C dX11_firstOrder_169 5 rfl ?_
  refine z_ishl C dX11_firstOrder_171 ?_
  refine z_ixor C dX11_firstOrder_172 ?_
  refine z_istore_n C (lv2 := [(3, .int (x3 ^^^ ((1 : Int32) <<< (x5 &&& 31)))), (2, .int (((zI (zI z (rf o0 41) (Int32.toNatClampNeg x4) x5) (rf o0 42) (Int32.toNatClampNeg x5) (imax x2 ((zI z (rf o0 41) (Int32.toNatClampNeg x4) x5).1 (rf o0 13) (Int32.toNatClampNeg x5)))).1 (rf o0 42) (Int32.toNatClampNeg x5)) + ((zI (zI z (rf o0 41) (Int32.toNatClampNeg x4) x5) (rf o0 42) (Int32.toNatClampNeg x5) (imax x2 ((zI z (rf o0 41) (Int32.toNatClampNeg x4) x5).1 (rf o0 13) (Int32.toNatClampNeg x5)))).1 (rf o0 14) (Int32.toNatClampNeg x5)))), (0, .ref (g.1 o0)), (1, .int x1), (4, .int x4), (5, .int x5)]) dX11_firstOrder_173 rfl (by decide) rfl ?_
  refine z_iinc C (k := 4) (v := x4 + 1) (lv2 := [(4, .int (x4 + 1)), (3, .int (x3 ^^^ ((1 : Int32) <<< (x5 &&& 31)))), (2, .int (((zI (zI z (rf o0 41) (Int32.toNatClampNeg x4) x5) (rf o0 42) (Int32.toNatClampNeg x5) (imax x2 ((zI z (rf o0 41) (Int32.toNatClampNeg x4) x5).1 (rf o0 13) (Int32.toNatClampNeg x5)))).1 (rf o0 42) (Int32.toNatClampNeg x5)) + ((zI (zI z (rf o0 41) (Int32.toNatClampNeg x4) x5) (rf o0 42) (Int32.toNatClampNeg x5) (imax x2 ((zI z (rf o0 41) (Int32.toNatClampNeg x4) x5).1 (rf o0 13) (Int32.toNatClampNeg x5)))).1 (rf o0 14) (Int32.toNatClampNeg x5)))), (0, .ref (g.1 o0)), (1, .int x1), (5, .int x5)]) dX11_firstOrder_174 rfl rfl (by decide) rfl ?_
  exact z_goto C dX11_firstOrder_177 (by decide) (z_sub [3, 4, 2, 1, 0] rfl (hK24 (zI (zI z (rf o0 41) (Int32.toNatClampNeg x4) x5) (rf o0 42) (Int32.toNatClampNeg x5) (imax x2 ((zI z (rf o0 41) (Int32.toNatClampNeg x4) x5).1 (rf o0 13) (Int32.toNatClampNeg x5)))) o0 x1 (((zI (zI z (rf o0 41) (Int32.toNatClampNeg x4) x5) (rf o0 42) (Int32.toNatClampNeg x5) (imax x2 ((zI z (rf o0 41) (Int32.toNatClampNeg x4) x5).1 (rf o0 13) (Int32.toNatClampNeg x5)))).1 (rf o0 42) (Int32.toNatClampNeg x5)) + ((zI (zI z (rf o0 41) (Int32.toNatClampNeg x4) x5) (rf o0 42) (Int32.toNatClampNeg x5) (imax x2 ((zI z (rf o0 41) (Int32.toNatClampNeg x4) x5).1 (rf o0 13) (Int32.toNatClampNeg x5)))).1 (rf o0 14) (Int32.toNatClampNeg x5))) (x3 ^^^ ((1 : Int32) <<< (x5 &&& 31))) (x4 + 1) ho0 hf))
def f_X11_firstOrder_48 (K24 : St → Nat → Int32 → Int32 → Int32 → Int32 → Option (St)) (K39 : St → Nat → Int32 → Int32 → Int32 → Int32 → Int32 → Int32 → Option (St)) (z : St) (o0 : Nat) (x1 : Int32) (x2 : Int32) (x3 : Int32) (x4 : Int32) (x5 : Int32) (x6 : Int32) : Option (St) :=
  if 0 ≤ x5 then f_X11_firstOrder_124 K24 z o0 x1 x2 x3 x4 x5 else f_X11_firstOrder_53 K24 K39 z o0 x1 x2 x3 x4 x5 x6
theorem b_X11_firstOrder_48 {p : Program} {l : Launch} {e : Env} {s : State} {m : MethodId} {args : Array Value} {below : List Frame} {meth : Method} {c : Code} {g : Ga} {A : Nat → Prop} (C : Cx l g A p s m args c cX11_firstOrder 8 RX11 (rm_X11_firstOrder) (0, 0)) (hr : meth.sig.returnType = none) (hk : meth.locks = false) {K24 : St → Nat → Int32 → Int32 → Int32 → Int32 → Option (St)} {K39 : St → Nat → Int32 → Int32 → Int32 → Int32 → Int32 → Int32 → Option (St)} (hK24 : ∀ (z : St) (o0 : Nat) (x1 : Int32) (x2 : Int32) (x3 : Int32) (x4 : Int32) (_ : kd o0 = 11) {res : St}, K24 z o0 x1 x2 x3 x4 = some res → Zj p l e (rm_X11_firstOrder) s m args below meth c g A 8 (0, 0) (QV g A below args s res) z 24 [(0, .ref (g.1 o0)), (1, .int x1), (2, .int x2), (3, .int x3), (4, .int x4)] []) (hK39 : ∀ (z : St) (o0 : Nat) (x1 : Int32) (x2 : Int32) (x3 : Int32) (x4 : Int32) (x5 : Int32) (x6 : Int32) (_ : kd o0 = 11) {res : St}, K39 z o0 x1 x2 x3 x4 x5 x6 = some res → Zj p l e (rm_X11_firstOrder) s m args below meth c g A 8 (0, 0) (QV g A below args s res) z 39 [(0, .ref (g.1 o0)), (1, .int x1), (2, .int x2), (3, .int x3), (4, .int x4), (5, .int x5), (6, .int x6)] []) (z : St) (o0 : Nat) (x1 : Int32) (x2 : Int32) (x3 : Int32) (x4 : Int32) (x5 : Int32) (x6 : Int32) (ho0 : kd o0 = 11) {res : St} (hf : f_X11_firstOrder_48 K24 K39 z o0 x1 x2 x3 x4 x5 x6 = some res) : Zj p l e (rm_X11_firstOrder) s m args below meth c g A 8 (0, 0) (QV g A below args s res) z 48 [(0, .ref (g.1 o0)), (1, .int x1), (2, .int x2), (3, .int x3), (4, .int x4), (5, .int x5), (6, .int x6)] [] := by
  unfold f_X11_firstOrder_48 at hf
  refine z_iload C dX11_firstOrder_48 5 rfl ?_
  exact z_if_ge C dX11_firstOrder_50 (by decide) (fun h => z_sub [0, 1, 2, 3, 4, 5] rfl (b_X11_firstOrder_124 C hr hk hK24 z o0 x1 x2 x3 x4 x5 ho0 (q_t hf h))) (fun h => z_sub [0, 1, 2, 3, 4, 5, 6] rfl (b_X11_firstOrder_53 C hr hk hK24 hK39 z o0 x1 x2 x3 x4 x5 x6 ho0 (q_f hf h)))
def f_X11_firstOrder_39 (K24 : St → Nat → Int32 → Int32 → Int32 → Int32 → Option (St)) : Nat → St → Nat → Int32 → Int32 → Int32 → Int32 → Int32 → Int32 → Option (St)
  | 0, _, _, _, _, _, _, _, _ => none
  | n + 1, z, o0, x1, x2, x3, x4, x5, x6 => if (z.1 o0 5) ≤ x6 then f_X11_firstOrder_124 K24 z o0 x1 x2 x3 x4 x5 else f_X11_firstOrder_48 K24 (f_X11_firstOrder_39 K24 n) z o0 x1 x2 x3 x4 x5 x6
theorem b_X11_firstOrder_39 {p : Program} {l : Launch} {e : Env} {s : State} {m : MethodId} {args : Array Value} {below : List Frame} {meth : Method} {c : Code} {g : Ga} {A : Nat → Prop} (C : Cx l g A p s m args c cX11_firstOrder 8 RX11 (rm_X11_firstOrder) (0, 0)) (hr : meth.sig.returnType = none) (hk : meth.locks = false) {K24 : St → Nat → Int32 → Int32 → Int32 → Int32 → Option (St)} (hK24 : ∀ (z : St) (o0 : Nat) (x1 : Int32) (x2 : Int32) (x3 : Int32) (x4 : Int32) (_ : kd o0 = 11) {res : St}, K24 z o0 x1 x2 x3 x4 = some res → Zj p l e (rm_X11_firstOrder) s m args below meth c g A 8 (0, 0) (QV g A below args s res) z 24 [(0, .ref (g.1 o0)), (1, .int x1), (2, .int x2), (3, .int x3), (4, .int x4)] []) : ∀ (n : Nat) (z : St) (o0 : Nat) (x1 : Int32) (x2 : Int32) (x3 : Int32) (x4 : Int32) (x5 : Int32) (x6 : Int32) (_ : kd o0 = 11) {res : St} (_ : f_X11_firstOrder_39 K24 n z o0 x1 x2 x3 x4 x5 x6 = some res), Zj p l e (rm_X11_firstOrder) s m args below meth c g A 8 (0, 0) (QV g A below args s res) z 39 [(0, .ref (g.1 o0)), (1, .int x1), (2, .int x2), (3, .int x3), (4, .int x4), (5, .int x5), (6, .int x6)] [] := by
  intro n
  induction n with
  | zero =>
    intro z o0 x1 x2 x3 x4 x5 x6 ho0 res hf
    cases hf
  | succ n ih =>
    intro z o0 x1 x2 x3 x4 x5 x6 ho0 res hf
    rw [f_X11_firstOrder_39] at hf
    refine z_iload C dX11_firstOrder_39 6 rfl ?_
    refine z_aload_n C dX11_firstOrder_41 rfl 0 rfl ?_
    refine gf_X11_111 C dX11_firstOrder_42 ho0 ?_
    exact z_icmp_ge C dX11_firstOrder_45 (by decide) (fun h => z_sub [0, 1, 2, 3, 4, 5] rfl (b_X11_firstOrder_124 C hr hk hK24 z o0 x1 x2 x3 x4 x5 ho0 (q_t hf h))) (fun h => z_sub [0, 1, 2, 3, 4, 5, 6] rfl (b_X11_firstOrder_48 C hr hk hK24 ih z o0 x1 x2 x3 x4 x5 x6 ho0 (q_f hf h)))
def f_X11_firstOrder_33 (K24 : St → Nat → Int32 → Int32 → Int32 → Int32 → Option (St)) (z : St) (o0 : Nat) (x1 : Int32) (x2 : Int32) (x3 : Int32) (x4 : Int32) : Option (St) :=
  f_X11_firstOrder_39 K24 FU z o0 x1 x2 x3 x4 ((-1)) 0
theorem b_X11_firstOrder_33 {p : Program} {l : Launch} {e : Env} {s : State} {m : MethodId} {args : Array Value} {below : List Frame} {meth : Method} {c : Code} {g : Ga} {A : Nat → Prop} (C : Cx l g A p s m args c cX11_firstOrder 8 RX11 (rm_X11_firstOrder) (0, 0)) (hr : meth.sig.returnType = none) (hk : meth.locks = false) {K24 : St → Nat → Int32 → Int32 → Int32 → Int32 → Option (St)} (hK24 : ∀ (z : St) (o0 : Nat) (x1 : Int32) (x2 : Int32) (x3 : Int32) (x4 : Int32) (_ : kd o0 = 11) {res : St}, K24 z o0 x1 x2 x3 x4 = some res → Zj p l e (rm_X11_firstOrder) s m args below meth c g A 8 (0, 0) (QV g A below args s res) z 24 [(0, .ref (g.1 o0)), (1, .int x1), (2, .int x2), (3, .int x3), (4, .int x4)] []) (z : St) (o0 : Nat) (x1 : Int32) (x2 : Int32) (x3 : Int32) (x4 : Int32) (ho0 : kd o0 = 11) {res : St} (hf : f_X11_firstOrder_33 K24 z o0 x1 x2 x3 x4 = some res) : Zj p l e (rm_X11_firstOrder) s m args below meth c g A 8 (0, 0) (QV g A below args s res) z 33 [(0, .ref (g.1 o0)), (1, .int x1), (2, .int x2), (3, .int x3), (4, .int x4)] [] := by
  unfold f_X11_firstOrder_33 at hf
  refine z_iconst C dX11_firstOrder_33 (v := (-1)) (by decide) ?_
  refine z_istore C (lv2 := [(5, .int ((-1))), (0, .ref (g.1 o0)), (1, .int x1), (2, .int x2), (3, .int x3), (4, .int x4)]) dX11_firstOrder_34 (by decide) rfl ?_
  refine z_iconst C dX11_firstOrder_36 (v := 0) (by decide) ?_
  refine z_istore C (lv2 := [(6, .int 0), (5, .int ((-1))), (0, .ref (g.1 o0)), (1, .int x1), (2, .int x2), (3, .int x3), (4, .int x4)]) dX11_firstOrder_37 (by decide) rfl ?_
  exact z_sub [2, 3, 4, 5, 6, 1, 0] rfl (b_X11_firstOrder_39 C hr hk hK24 FU z o0 x1 x2 x3 x4 ((-1)) 0 ho0 hf)
def f_X11_firstOrder_180  (z : St)  : Option (St) :=
  some z
theorem b_X11_firstOrder_180 {p : Program} {l : Launch} {e : Env} {s : State} {m : MethodId} {args : Array Value} {below : List Frame} {meth : Method} {c : Code} {g : Ga} {A : Nat → Prop} (C : Cx l g A p s m args c cX11_firstOrder 8 RX11 (rm_X11_firstOrder) (0, 0)) (hr : meth.sig.returnType = none) (hk : meth.locks = false)   (z : St)   {res : St} (hf : f_X11_firstOrder_180  z  = some res) : Zj p l e (rm_X11_firstOrder) s m args below meth c g A 8 (0, 0) (QV g A below args s res) z 180 [] [] := by
  unfold f_X11_firstOrder_180 at hf
  cases hf
  exact z_vret C hr hk dX11_firstOrder_180
def f_X11_firstOrder_24  : Nat → St → Nat → Int32 → Int32 → Int32 → Int32 → Option (St)
  | 0, _, _, _, _, _, _ => none
  | n + 1, z, o0, x1, x2, x3, x4 => if (z.1 o0 5) ≤ x4 then f_X11_firstOrder_180 z else f_X11_firstOrder_33 (f_X11_firstOrder_24 n) z o0 x1 x2 x3 x4
theorem b_X11_firstOrder_24 {p : Program} {l : Launch} {e : Env} {s : State} {m : MethodId} {args : Array Value} {below : List Frame} {meth : Method} {c : Code} {g : Ga} {A : Nat → Prop} (C : Cx l g A p s m args c cX11_firstOrder 8 RX11 (rm_X11_firstOrder) (0, 0)) (hr : meth.sig.returnType = none) (hk : meth.locks = false)   : ∀ (n : Nat) (z : St) (o0 : Nat) (x1 : Int32) (x2 : Int32) (x3 : Int32) (x4 : Int32) (_ : kd o0 = 11) {res : St} (_ : f_X11_firstOrder_24  n z o0 x1 x2 x3 x4 = some res), Zj p l e (rm_X11_firstOrder) s m args below meth c g A 8 (0, 0) (QV g A below args s res) z 24 [(0, .ref (g.1 o0)), (1, .int x1), (2, .int x2), (3, .int x3), (4, .int x4)] [] := by
  intro n
  induction n with
  | zero =>
    intro z o0 x1 x2 x3 x4 ho0 res hf
    cases hf
  | succ n ih =>
    intro z o0 x1 x2 x3 x4 ho0 res hf
    rw [f_X11_firstOrder_24] at hf
    refine z_iload C dX11_firstOrder_24 4 rfl ?_
    refine z_aload_n C dX11_firstOrder_26 rfl 0 rfl ?_
    refine gf_X11_111 C dX11_firstOrder_27 ho0 ?_
    exact z_icmp_ge C dX11_firstOrder_30 (by decide) (fun h => z_sub [] rfl (b_X11_firstOrder_180 C hr hk z (q_t hf h))) (fun h => z_sub [0, 1, 2, 3, 4] rfl (b_X11_firstOrder_33 C hr hk ih z o0 x1 x2 x3 x4 ho0 (q_f hf h)))
def f_X11_firstOrder_0  (z : St) (o0 : Nat) : Option (St) :=
  ((f_X11_thinks z o0).bind fun r1 => ((f_X11_leastNow r1 o0).bind fun r3 => ((f_X11_lates r3.1 o0 r3.2).bind fun r5 => ((f_X11_all r5 o0).bind fun r7 => f_X11_firstOrder_24 FU r7.1 o0 r3.2 0 r7.2 0))))
theorem b_X11_firstOrder_0 {p : Program} {l : Launch} {e : Env} {s : State} {m : MethodId} {args : Array Value} {below : List Frame} {meth : Method} {c : Code} {g : Ga} {A : Nat → Prop} (C : Cx l g A p s m args c cX11_firstOrder 8 RX11 (rm_X11_firstOrder) (0, 0)) (hr : meth.sig.returnType = none) (hk : meth.locks = false)   (z : St) (o0 : Nat) (ho0 : kd o0 = 11) {res : St} (hf : f_X11_firstOrder_0  z o0 = some res) : Zj p l e (rm_X11_firstOrder) s m args below meth c g A 8 (0, 0) (QV g A below args s res) z 0 [(0, .ref (g.1 o0))] [] := by
  unfold f_X11_firstOrder_0 at hf
  refine z_aload_n C dX11_firstOrder_0 rfl 0 rfl ?_
  obtain ⟨r1, hc2, hf⟩ := q_bd hf
  refine z_cVv C (st := []) (c_X11_thinks ho0 hc2) mw_X11_thinks ml_X11_205 ho0 (by decide) rfl dX11_firstOrder_1 rfl rfl rfl ⟨Nat.le_of_ble_eq_true rfl, Nat.le_of_ble_eq_true rfl⟩ rfl (Nat.le_of_ble_eq_true rfl) ?_
  refine z_aload_n C dX11_firstOrder_4 rfl 0 rfl ?_
  obtain ⟨r3, hc4, hf⟩ := q_bd hf
  refine z_cVi C (st := []) (c_X11_leastNow ho0 hc4) mw_X11_leastNow ml_X11_289 ho0 (by decide) rfl dX11_firstOrder_5 rfl rfl rfl ⟨Nat.le_of_ble_eq_true rfl, Nat.le_of_ble_eq_true rfl⟩ rfl (Nat.le_of_ble_eq_true rfl) ?_
  refine z_istore_n C (lv2 := [(1, .int r3.2), (0, .ref (g.1 o0))]) dX11_firstOrder_8 rfl (by decide) rfl ?_
  refine z_aload_n C dX11_firstOrder_9 rfl 1 rfl ?_
  refine z_iload_n C dX11_firstOrder_10 rfl 0 rfl ?_
  obtain ⟨r5, hc6, hf⟩ := q_bd hf
  refine z_cVv C (st := []) (c_X11_lates ho0 hc6) mw_X11_lates ml_X11_277 ho0 (by decide) rfl dX11_firstOrder_11 rfl rfl rfl ⟨Nat.le_of_ble_eq_true rfl, Nat.le_of_ble_eq_true rfl⟩ rfl (Nat.le_of_ble_eq_true rfl) ?_
  refine z_iconst C dX11_firstOrder_14 (v := 0) (by decide) ?_
  refine z_istore_n C (lv2 := [(2, .int 0), (1, .int r3.2), (0, .ref (g.1 o0))]) dX11_firstOrder_15 rfl (by decide) rfl ?_
  refine z_aload_n C dX11_firstOrder_16 rfl 2 rfl ?_
  obtain ⟨r7, hc8, hf⟩ := q_bd hf
  refine z_cVi C (st := []) (c_X11_all ho0 hc8) mw_X11_all ml_X11_283 ho0 (by decide) rfl dX11_firstOrder_17 rfl rfl rfl ⟨Nat.le_of_ble_eq_true rfl, Nat.le_of_ble_eq_true rfl⟩ rfl (Nat.le_of_ble_eq_true rfl) ?_
  refine z_istore_n C (lv2 := [(3, .int r7.2), (2, .int 0), (1, .int r3.2), (0, .ref (g.1 o0))]) dX11_firstOrder_20 rfl (by decide) rfl ?_
  refine z_iconst C dX11_firstOrder_21 (v := 0) (by decide) ?_
  refine z_istore C (lv2 := [(4, .int 0), (3, .int r7.2), (2, .int 0), (1, .int r3.2), (0, .ref (g.1 o0))]) dX11_firstOrder_22 (by decide) rfl ?_
  exact z_sub [4, 3, 2, 1, 0] rfl (b_X11_firstOrder_24 C hr hk FU r7.1 o0 r3.2 0 r7.2 0 ho0 hf)
def f_X11_firstOrder (z : St) (o0 : Nat) : Option (St) := f_X11_firstOrder_0 z o0
theorem c_X11_firstOrder {l : Launch} {g : Ga} {A : Nat → Prop} {z : St} {o0 : Nat} (ho0 : kd o0 = 11) {res : St} (hf : f_X11_firstOrder z o0 = some res) : CV l g A yX11_firstOrder cX11_firstOrder 8 none rm_X11_firstOrder [.ref (g.1 o0)] z res :=
  e_CV (by decide) (Nat.le_of_ble_eq_true rfl) rfl (fun p e s m args below meth c C hr hk => z_sub [0] rfl (b_X11_firstOrder_0 C hr hk z o0 ho0 hf))
abbrev rm_X11_order : Room := { frames := 6, cells := 0, slots := 0, locals := 140 }
def f_X11_order_14  (z : St)  : Option (St × Int32) :=
  some (z, (-12))
theorem b_X11_order_14 {p : Program} {l : Launch} {e : Env} {s : State} {m : MethodId} {args : Array Value} {below : List Frame} {meth : Method} {c : Code} {g : Ga} {A : Nat → Prop} (C : Cx l g A p s m args c cX11_order 2 RX11 (rm_X11_order) (0, 0)) (hr : meth.sig.returnType = (some .int)) (hk : meth.locks = false)   (z : St)   {res : St × Int32} (hf : f_X11_order_14  z  = some res) : Zj p l e (rm_X11_order) s m args below meth c g A 2 (0, 0) (QI g A below args s res) z 14 [] [] := by
  unfold f_X11_order_14 at hf
  refine z_bipush C dX11_order_14 (v := (-12)) (by decide) ?_
  cases hf
  exact z_iret C hr hk dX11_order_16
def f_X11_order_17  (z : St) (o0 : Nat) (x1 : Int32) : Option (St × Int32) :=
  ((f_X11_firstOrder z o0).bind fun r1 => if inb x1 8 = true then (some (r1, r1.1 (rf o0 41) (Int32.toNatClampNeg x1))) else none)
theorem b_X11_order_17 {p : Program} {l : Launch} {e : Env} {s : State} {m : MethodId} {args : Array Value} {below : List Frame} {meth : Method} {c : Code} {g : Ga} {A : Nat → Prop} (C : Cx l g A p s m args c cX11_order 2 RX11 (rm_X11_order) (0, 0)) (hr : meth.sig.returnType = (some .int)) (hk : meth.locks = false)   (z : St) (o0 : Nat) (x1 : Int32) (ho0 : kd o0 = 11) {res : St × Int32} (hf : f_X11_order_17  z o0 x1 = some res) : Zj p l e (rm_X11_order) s m args below meth c g A 2 (0, 0) (QI g A below args s res) z 17 [(0, .ref (g.1 o0)), (1, .int x1)] [] := by
  unfold f_X11_order_17 at hf
  refine z_aload_n C dX11_order_17 rfl 0 rfl ?_
  obtain ⟨r1, hc2, hf⟩ := q_bd hf
  refine z_cVv C (st := []) (c_X11_firstOrder ho0 hc2) mw_X11_firstOrder ml_X11_296 ho0 (by decide) rfl dX11_order_18 rfl rfl rfl ⟨Nat.le_of_ble_eq_true rfl, Nat.le_of_ble_eq_true rfl⟩ rfl (Nat.le_of_ble_eq_true rfl) ?_
  refine z_aload_n C dX11_order_21 rfl 0 rfl ?_
  refine gf_X11_79 C dX11_order_22 ho0 ?_
  refine z_iload_n C dX11_order_25 rfl 1 rfl ?_
  obtain ⟨h3, hf⟩ := q_ck hf
  refine z_iald C (n := 8) dX11_order_26 (rt_11_41 _ (kd_lt ho0 (by decide)) ho0) (by decide) h3 ?_
  cases hf
  exact z_iret C hr hk dX11_order_27
def f_X11_order_0  (z : St) (o0 : Nat) (x1 : Int32) : Option (St × Int32) :=
  ((f_X11_in z x1 0 ((z.1 o0 5) - 1)).bind fun r1 => if r1.2 = 0 then f_X11_order_14 r1.1 else f_X11_order_17 r1.1 o0 x1)
theorem b_X11_order_0 {p : Program} {l : Launch} {e : Env} {s : State} {m : MethodId} {args : Array Value} {below : List Frame} {meth : Method} {c : Code} {g : Ga} {A : Nat → Prop} (C : Cx l g A p s m args c cX11_order 2 RX11 (rm_X11_order) (0, 0)) (hr : meth.sig.returnType = (some .int)) (hk : meth.locks = false)   (z : St) (o0 : Nat) (x1 : Int32) (ho0 : kd o0 = 11) {res : St × Int32} (hf : f_X11_order_0  z o0 x1 = some res) : Zj p l e (rm_X11_order) s m args below meth c g A 2 (0, 0) (QI g A below args s res) z 0 [(0, .ref (g.1 o0)), (1, .int x1)] [] := by
  unfold f_X11_order_0 at hf
  refine z_iload_n C dX11_order_0 rfl 1 rfl ?_
  refine z_iconst C dX11_order_1 (v := 0) (by decide) ?_
  refine z_aload_n C dX11_order_2 rfl 0 rfl ?_
  refine gf_X11_111 C dX11_order_3 ho0 ?_
  refine z_iconst C dX11_order_6 (v := 1) (by decide) ?_
  refine z_isub C dX11_order_7 ?_
  obtain ⟨r1, hc2, hf⟩ := q_bd hf
  refine z_cSi C (st := []) (c_X11_in  hc2) mw_X11_in ml_X11_114 dX11_order_8 rfl rfl rfl ⟨Nat.le_of_ble_eq_true rfl, Nat.le_of_ble_eq_true rfl⟩ rfl (Nat.le_of_ble_eq_true rfl) ?_
  exact z_if_ne C dX11_order_11 (by decide) (fun h => z_sub [0, 1] rfl (b_X11_order_17 C hr hk r1.1 o0 x1 ho0 (q_f hf h))) (fun h => z_sub [] rfl (b_X11_order_14 C hr hk r1.1 (q_t hf h)))
def f_X11_order (z : St) (o0 : Nat) (x1 : Int32) : Option (St × Int32) := f_X11_order_0 z o0 x1
theorem c_X11_order {l : Launch} {g : Ga} {A : Nat → Prop} {z : St} {o0 : Nat} {x1 : Int32} (ho0 : kd o0 = 11) {res : St × Int32} (hf : f_X11_order z o0 x1 = some res) : CI l g A yX11_order cX11_order 2 (some .int) rm_X11_order [.ref (g.1 o0), .int x1] z res :=
  e_CI (by decide) (Nat.le_of_ble_eq_true rfl) rfl (fun p e s m args below meth c C hr hk => z_sub [0, 1] rfl (b_X11_order_0 C hr hk z o0 x1 ho0 hf))
abbrev rm_X11_mayBeAhead : Room := { frames := 1, cells := 0, slots := 0, locals := 21 }
def f_X11_mayBeAhead_141 (K10 : St → Nat → Int32 → Int32 → Int32 → Int32 → Option (St × Int32)) (K27 : St → Nat → Int32 → Int32 → Int32 → Int32 → Int32 → Int32 → Option (St × Int32)) (z : St) (o0 : Nat) (x1 : Int32) (x2 : Int32) (x3 : Int32) (x4 : Int32) (x5 : Int32) (x6 : Int32) : Option (St × Int32) :=
  K27 z o0 x1 x2 x3 x4 x5 (x6 + 1)
theorem b_X11_mayBeAhead_141 {p : Program} {l : Launch} {e : Env} {s : State} {m : MethodId} {args : Array Value} {below : List Frame} {meth : Method} {c : Code} {g : Ga} {A : Nat → Prop} (C : Cx l g A p s m args c cX11_mayBeAhead 9 RX11 (rm_X11_mayBeAhead) (0, 0)) (hr : meth.sig.returnType = (some .boolean)) (hk : meth.locks = false) {K10 : St → Nat → Int32 → Int32 → Int32 → Int32 → Option (St × Int32)} {K27 : St → Nat → Int32 → Int32 → Int32 → Int32 → Int32 → Int32 → Option (St × Int32)} (hK10 : ∀ (z : St) (o0 : Nat) (x1 : Int32) (x2 : Int32) (x3 : Int32) (x4 : Int32) (_ : kd o0 = 11) {res : St × Int32}, K10 z o0 x1 x2 x3 x4 = some res → Zj p l e (rm_X11_mayBeAhead) s m args below meth c g A 9 (0, 0) (QI g A below args s res) z 10 [(0, .ref (g.1 o0)), (1, .int x1), (2, .int x2), (3, .int x3), (4, .int x4)] []) (hK27 : ∀ (z : St) (o0 : Nat) (x1 : Int32) (x2 : Int32) (x3 : Int32) (x4 : Int32) (x5 : Int32) (x6 : Int32) (_ : kd o0 = 11) {res : St × Int32}, K27 z o0 x1 x2 x3 x4 x5 x6 = some res → Zj p l e (rm_X11_mayBeAhead) s m args below meth c g A 9 (0, 0) (QI g A below args s res) z 27 [(0, .ref (g.1 o0)), (1, .int x1), (2, .int x2), (3, .int x3), (4, .int x4), (5, .int x5), (6, .int x6)] []) (z : St) (o0 : Nat) (x1 : Int32) (x2 : Int32) (x3 : Int32) (x4 : Int32) (x5 : Int32) (x6 : Int32) (ho0 : kd o0 = 11) {res : St × Int32} (hf : f_X11_mayBeAhead_141 K10 K27 z o0 x1 x2 x3 x4 x5 x6 = some res) : Zj p l e (rm_X11_mayBeAhead) s m args below meth c g A 9 (0, 0) (QI g A below args s res) z 141 [(0, .ref (g.1 o0)), (1, .int x1), (2, .int x2), (3, .int x3), (4, .int x4), (5, .int x5), (6, .int x6)] [] := by
  unfold f_X11_mayBeAhead_141 at hf
  refine z_iinc C (k := 6) (v := x6 + 1) (lv2 := [(6, .int (x6 + 1)), (0, .ref (g.1 o0)), (1, .int x1), (2, .int x2), (3, .int x3), (4, .int x4), (5, .int x5)]) dX11_mayBeAhead_141 rfl rfl (by decide) rfl ?_
  exact z_goto C dX11_mayBeAhead_144 (by decide) (z_sub [1, 2, 3, 4, 5, 6, 0] rfl (hK27 z o0 x1 x2 x3 x4 x5 (x6 + 1) ho0 hf))
def f_X11_mayBeAhead_83 (K10 : St → Nat → Int32 → Int32 → Int32 → Int32 → Option (St × Int32)) (K27 : St → Nat → Int32 → Int32 → Int32 → Int32 → Int32 → Int32 → Option (St × Int32)) (z : St) (o0 : Nat) (x1 : Int32) (x2 : Int32) (x3 : Int32) (x4 : Int32) (x5 : Int32) (x6 : Int32) : Option (St × Int32) :=
  f_X11_mayBeAhead_141 K10 K27 z o0 x1 x2 x3 x4 x5 x6
theorem b_X11_mayBeAhead_83 {p : Program} {l : Launch} {e : Env} {s : State} {m : MethodId} {args : Array Value} {below : List Frame} {meth : Method} {c : Code} {g : Ga} {A : Nat → Prop} (C : Cx l g A p s m args c cX11_mayBeAhead 9 RX11 (rm_X11_mayBeAhead) (0, 0)) (hr : meth.sig.returnType = (some .boolean)) (hk : meth.locks = false) {K10 : St → Nat → Int32 → Int32 → Int32 → Int32 → Option (St × Int32)} {K27 : St → Nat → Int32 → Int32 → Int32 → Int32 → Int32 → Int32 → Option (St × Int32)} (hK10 : ∀ (z : St) (o0 : Nat) (x1 : Int32) (x2 : Int32) (x3 : Int32) (x4 : Int32) (_ : kd o0 = 11) {res : St × Int32}, K10 z o0 x1 x2 x3 x4 = some res → Zj p l e (rm_X11_mayBeAhead) s m args below meth c g A 9 (0, 0) (QI g A below args s res) z 10 [(0, .ref (g.1 o0)), (1, .int x1), (2, .int x2), (3, .int x3), (4, .int x4)] []) (hK27 : ∀ (z : St) (o0 : Nat) (x1 : Int32) (x2 : Int32) (x3 : Int32) (x4 : Int32) (x5 : Int32) (x6 : Int32) (_ : kd o0 = 11) {res : St × Int32}, K27 z o0 x1 x2 x3 x4 x5 x6 = some res → Zj p l e (rm_X11_mayBeAhead) s m args below meth c g A 9 (0, 0) (QI g A below args s res) z 27 [(0, .ref (g.1 o0)), (1, .int x1), (2, .int x2), (3, .int x3), (4, .int x4), (5, .int x5), (6, .int x6)] []) (z : St) (o0 : Nat) (x1 : Int32) (x2 : Int32) (x3 : Int32) (x4 : Int32) (x5 : Int32) (x6 : Int32) (ho0 : kd o0 = 11) {res : St × Int32} (hf : f_X11_mayBeAhead_83 K10 K27 z o0 x1 x2 x3 x4 x5 x6 = some res) : Zj p l e (rm_X11_mayBeAhead) s m args below meth c g A 9 (0, 0) (QI g A below args s res) z 83 [(0, .ref (g.1 o0)), (1, .int x1), (2, .int x2), (3, .int x3), (4, .int x4), (5, .int x5), (6, .int x6)] [] := by
  unfold f_X11_mayBeAhead_83 at hf
  exact z_goto C dX11_mayBeAhead_83 (by decide) (z_sub [0, 1, 2, 3, 4, 5, 6] rfl (b_X11_mayBeAhead_141 C hr hk hK10 hK27 z o0 x1 x2 x3 x4 x5 x6 ho0 hf))
def f_X11_mayBeAhead_139 (K10 : St → Nat → Int32 → Int32 → Int32 → Int32 → Option (St × Int32)) (K27 : St → Nat → Int32 → Int32 → Int32 → Int32 → Int32 → Int32 → Option (St × Int32)) (z : St) (o0 : Nat) (x1 : Int32) (x2 : Int32) (x3 : Int32) (x4 : Int32) (x6 : Int32) (s0 : Int32) : Option (St × Int32) :=
  f_X11_mayBeAhead_141 K10 K27 z o0 x1 x2 x3 x4 s0 x6
theorem b_X11_mayBeAhead_139 {p : Program} {l : Launch} {e : Env} {s : State} {m : MethodId} {args : Array Value} {below : List Frame} {meth : Method} {c : Code} {g : Ga} {A : Nat → Prop} (C : Cx l g A p s m args c cX11_mayBeAhead 9 RX11 (rm_X11_mayBeAhead) (0, 0)) (hr : meth.sig.returnType = (some .boolean)) (hk : meth.locks = false) {K10 : St → Nat → Int32 → Int32 → Int32 → Int32 → Option (St × Int32)} {K27 : St → Nat → Int32 → Int32 → Int32 → Int32 → Int32 → Int32 → Option (St × Int32)} (hK10 : ∀ (z : St) (o0 : Nat) (x1 : Int32) (x2 : Int32) (x3 : Int32) (x4 : Int32) (_ : kd o0 = 11) {res : St × Int32}, K10 z o0 x1 x2 x3 x4 = some res → Zj p l e (rm_X11_mayBeAhead) s m args below meth c g A 9 (0, 0) (QI g A below args s res) z 10 [(0, .ref (g.1 o0)), (1, .int x1), (2, .int x2), (3, .int x3), (4, .int x4)] []) (hK27 : ∀ (z : St) (o0 : Nat) (x1 : Int32) (x2 : Int32) (x3 : Int32) (x4 : Int32) (x5 : Int32) (x6 : Int32) (_ : kd o0 = 11) {res : St × Int32}, K27 z o0 x1 x2 x3 x4 x5 x6 = some res → Zj p l e (rm_X11_mayBeAhead) s m args below meth c g A 9 (0, 0) (QI g A below args s res) z 27 [(0, .ref (g.1 o0)), (1, .int x1), (2, .int x2), (3, .int x3), (4, .int x4), (5, .int x5), (6, .int x6)] []) (z : St) (o0 : Nat) (x1 : Int32) (x2 : Int32) (x3 : Int32) (x4 : Int32) (x6 : Int32) (s0 : Int32) (ho0 : kd o0 = 11) {res : St × Int32} (hf : f_X11_mayBeAhead_139 K10 K27 z o0 x1 x2 x3 x4 x6 s0 = some res) : Zj p l e (rm_X11_mayBeAhead) s m args below meth c g A 9 (0, 0) (QI g A below args s res) z 139 [(0, .ref (g.1 o0)), (1, .int x1), (2, .int x2), (3, .int x3), (4, .int x4), (6, .int x6)] [.int s0] := by
  unfold f_X11_mayBeAhead_139 at hf
  refine z_istore C (lv2 := [(5, .int s0), (0, .ref (g.1 o0)), (1, .int x1), (2, .int x2), (3, .int x3), (4, .int x4), (6, .int x6)]) dX11_mayBeAhead_139 (by decide) rfl ?_
  exact z_sub [1, 2, 3, 4, 5, 0, 6] rfl (b_X11_mayBeAhead_141 C hr hk hK10 hK27 z o0 x1 x2 x3 x4 s0 x6 ho0 hf)
def f_X11_mayBeAhead_127 (K10 : St → Nat → Int32 → Int32 → Int32 → Int32 → Option (St × Int32)) (K27 : St → Nat → Int32 → Int32 → Int32 → Int32 → Int32 → Int32 → Option (St × Int32)) (z : St) (o0 : Nat) (x1 : Int32) (x2 : Int32) (x3 : Int32) (x4 : Int32) (x5 : Int32) (x6 : Int32) (x8 : Int32) : Option (St × Int32) :=
  f_X11_mayBeAhead_139 K10 K27 z o0 x1 x2 x3 x4 x6 (imin x5 x8)
theorem b_X11_mayBeAhead_127 {p : Program} {l : Launch} {e : Env} {s : State} {m : MethodId} {args : Array Value} {below : List Frame} {meth : Method} {c : Code} {g : Ga} {A : Nat → Prop} (C : Cx l g A p s m args c cX11_mayBeAhead 9 RX11 (rm_X11_mayBeAhead) (0, 0)) (hr : meth.sig.returnType = (some .boolean)) (hk : meth.locks = false) {K10 : St → Nat → Int32 → Int32 → Int32 → Int32 → Option (St × Int32)} {K27 : St → Nat → Int32 → Int32 → Int32 → Int32 → Int32 → Int32 → Option (St × Int32)} (hK10 : ∀ (z : St) (o0 : Nat) (x1 : Int32) (x2 : Int32) (x3 : Int32) (x4 : Int32) (_ : kd o0 = 11) {res : St × Int32}, K10 z o0 x1 x2 x3 x4 = some res → Zj p l e (rm_X11_mayBeAhead) s m args below meth c g A 9 (0, 0) (QI g A below args s res) z 10 [(0, .ref (g.1 o0)), (1, .int x1), (2, .int x2), (3, .int x3), (4, .int x4)] []) (hK27 : ∀ (z : St) (o0 : Nat) (x1 : Int32) (x2 : Int32) (x3 : Int32) (x4 : Int32) (x5 : Int32) (x6 : Int32) (_ : kd o0 = 11) {res : St × Int32}, K27 z o0 x1 x2 x3 x4 x5 x6 = some res → Zj p l e (rm_X11_mayBeAhead) s m args below meth c g A 9 (0, 0) (QI g A below args s res) z 27 [(0, .ref (g.1 o0)), (1, .int x1), (2, .int x2), (3, .int x3), (4, .int x4), (5, .int x5), (6, .int x6)] []) (z : St) (o0 : Nat) (x1 : Int32) (x2 : Int32) (x3 : Int32) (x4 : Int32) (x5 : Int32) (x6 : Int32) (x8 : Int32) (ho0 : kd o0 = 11) {res : St × Int32} (hf : f_X11_mayBeAhead_127 K10 K27 z o0 x1 x2 x3 x4 x5 x6 x8 = some res) : Zj p l e (rm_X11_mayBeAhead) s m args below meth c g A 9 (0, 0) (QI g A below args s res) z 127 [(0, .ref (g.1 o0)), (1, .int x1), (2, .int x2), (3, .int x3), (4, .int x4), (5, .int x5), (6, .int x6), (8, .int x8)] [] := by
  unfold f_X11_mayBeAhead_127 at hf
  refine z_iload C dX11_mayBeAhead_127 5 rfl ?_
  refine z_iload C dX11_mayBeAhead_129 7 rfl ?_
  refine z_mmin C (st := []) dX11_mayBeAhead_131 ml_X11_193 mm_min.1 mm_i mm_min.2 ⟨Nat.le_of_ble_eq_true rfl, Nat.le_of_ble_eq_true rfl⟩ (Nat.le_of_ble_eq_true rfl) ?_
  exact z_goto C dX11_mayBeAhead_134 (by decide) (z_sub [0, 1, 2, 3, 4, 6] rfl (b_X11_mayBeAhead_139 C hr hk hK10 hK27 z o0 x1 x2 x3 x4 x6 (imin x5 x8) ho0 hf))
def f_X11_mayBeAhead_137 (K10 : St → Nat → Int32 → Int32 → Int32 → Int32 → Option (St × Int32)) (K27 : St → Nat → Int32 → Int32 → Int32 → Int32 → Int32 → Int32 → Option (St × Int32)) (z : St) (o0 : Nat) (x1 : Int32) (x2 : Int32) (x3 : Int32) (x4 : Int32) (x5 : Int32) (x6 : Int32) : Option (St × Int32) :=
  f_X11_mayBeAhead_139 K10 K27 z o0 x1 x2 x3 x4 x6 x5
theorem b_X11_mayBeAhead_137 {p : Program} {l : Launch} {e : Env} {s : State} {m : MethodId} {args : Array Value} {below : List Frame} {meth : Method} {c : Code} {g : Ga} {A : Nat → Prop} (C : Cx l g A p s m args c cX11_mayBeAhead 9 RX11 (rm_X11_mayBeAhead) (0, 0)) (hr : meth.sig.returnType = (some .boolean)) (hk : meth.locks = false) {K10 : St → Nat → Int32 → Int32 → Int32 → Int32 → Option (St × Int32)} {K27 : St → Nat → Int32 → Int32 → Int32 → Int32 → Int32 → Int32 → Option (St × Int32)} (hK10 : ∀ (z : St) (o0 : Nat) (x1 : Int32) (x2 : Int32) (x3 : Int32) (x4 : Int32) (_ : kd o0 = 11) {res : St × Int32}, K10 z o0 x1 x2 x3 x4 = some res → Zj p l e (rm_X11_mayBeAhead) s m args below meth c g A 9 (0, 0) (QI g A below args s res) z 10 [(0, .ref (g.1 o0)), (1, .int x1), (2, .int x2), (3, .int x3), (4, .int x4)] []) (hK27 : ∀ (z : St) (o0 : Nat) (x1 : Int32) (x2 : Int32) (x3 : Int32) (x4 : Int32) (x5 : Int32) (x6 : Int32) (_ : kd o0 = 11) {res : St × Int32}, K27 z o0 x1 x2 x3 x4 x5 x6 = some res → Zj p l e (rm_X11_mayBeAhead) s m args below meth c g A 9 (0, 0) (QI g A below args s res) z 27 [(0, .ref (g.1 o0)), (1, .int x1), (2, .int x2), (3, .int x3), (4, .int x4), (5, .int x5), (6, .int x6)] []) (z : St) (o0 : Nat) (x1 : Int32) (x2 : Int32) (x3 : Int32) (x4 : Int32) (x5 : Int32) (x6 : Int32) (ho0 : kd o0 = 11) {res : St × Int32} (hf : f_X11_mayBeAhead_137 K10 K27 z o0 x1 x2 x3 x4 x5 x6 = some res) : Zj p l e (rm_X11_mayBeAhead) s m args below meth c g A 9 (0, 0) (QI g A below args s res) z 137 [(0, .ref (g.1 o0)), (1, .int x1), (2, .int x2), (3, .int x3), (4, .int x4), (5, .int x5), (6, .int x6)] [] := by
  unfold f_X11_mayBeAhead_137 at hf
  refine z_iload C dX11_mayBeAhead_137 5 rfl ?_
  exact z_sub [0, 1, 2, 3, 4, 6] rfl (b_X11_mayBeAhead_139 C hr hk hK10 hK27 z o0 x1 x2 x3 x4 x6 x5 ho0 hf)
def f_X11_mayBeAhead_86 (K10 : St → Nat → Int32 → Int32 → Int32 → Int32 → Option (St × Int32)) (K27 : St → Nat → Int32 → Int32 → Int32 → Int32 → Int32 → Int32 → Option (St × Int32)) (z : St) (o0 : Nat) (x1 : Int32) (x2 : Int32) (x3 : Int32) (x4 : Int32) (x5 : Int32) (x6 : Int32) (x7 : Int32) : Option (St × Int32) :=
  if inb x7 256 = true then (if inb x6 8 = true then (if inb x6 8 = true then (if inb x6 8 = true then (if x3 < (((imax (z.1 (rf o0 38) (Int32.toNatClampNeg x7)) (z.1 (rf o0 13) (Int32.toNatClampNeg x6))) + (z.1 (rf o0 14) (Int32.toNatClampNeg x6))) + (z.1 (rf o0 15) (Int32.toNatClampNeg x6))) then f_X11_mayBeAhead_137 K10 K27 z o0 x1 x2 x3 x4 x5 x6 else f_X11_mayBeAhead_127 K10 K27 z o0 x1 x2 x3 x4 x5 x6 ((imax (z.1 (rf o0 38) (Int32.toNatClampNeg x7)) (z.1 (rf o0 13) (Int32.toNatClampNeg x6))) + (z.1 (rf o0 14) (Int32.toNatClampNeg x6)))) else none) else none) else none) else none
theorem b_X11_mayBeAhead_86 {p : Program} {l : Launch} {e : Env} {s : State} {m : MethodId} {args : Array Value} {below : List Frame} {meth : Method} {c : Code} {g : Ga} {A : Nat → Prop} (C : Cx l g A p s m args c cX11_mayBeAhead 9 RX11 (rm_X11_mayBeAhead) (0, 0)) (hr : meth.sig.returnType = (some .boolean)) (hk : meth.locks = false) {K10 : St → Nat → Int32 → Int32 → Int32 → Int32 → Option (St × Int32)} {K27 : St → Nat → Int32 → Int32 → Int32 → Int32 → Int32 → Int32 → Option (St × Int32)} (hK10 : ∀ (z : St) (o0 : Nat) (x1 : Int32) (x2 : Int32) (x3 : Int32) (x4 : Int32) (_ : kd o0 = 11) {res : St × Int32}, K10 z o0 x1 x2 x3 x4 = some res → Zj p l e (rm_X11_mayBeAhead) s m args below meth c g A 9 (0, 0) (QI g A below args s res) z 10 [(0, .ref (g.1 o0)), (1, .int x1), (2, .int x2), (3, .int x3), (4, .int x4)] []) (hK27 : ∀ (z : St) (o0 : Nat) (x1 : Int32) (x2 : Int32) (x3 : Int32) (x4 : Int32) (x5 : Int32) (x6 : Int32) (_ : kd o0 = 11) {res : St × Int32}, K27 z o0 x1 x2 x3 x4 x5 x6 = some res → Zj p l e (rm_X11_mayBeAhead) s m args below meth c g A 9 (0, 0) (QI g A below args s res) z 27 [(0, .ref (g.1 o0)), (1, .int x1), (2, .int x2), (3, .int x3), (4, .int x4), (5, .int x5), (6, .int x6)] []) (z : St) (o0 : Nat) (x1 : Int32) (x2 : Int32) (x3 : Int32) (x4 : Int32) (x5 : Int32) (x6 : Int32) (x7 : Int32) (ho0 : kd o0 = 11) {res : St × Int32} (hf : f_X11_mayBeAhead_86 K10 K27 z o0 x1 x2 x3 x4 x5 x6 x7 = some res) : Zj p l e (rm_X11_mayBeAhead) s m args below meth c g A 9 (0, 0) (QI g A below args s res) z 86 [(0, .ref (g.1 o0)), (1, .int x1), (2, .int x2), (3, .int x3), (4, .int x4), (5, .int x5), (6, .int x6), (7, .int x7)] [] := by
  unfold f_X11_mayBeAhead_86 at hf
  refine z_aload_n C dX11_mayBeAhead_86 rfl 0 rfl ?_
  refine gf_X11_70 C dX11_mayBeAhead_87 ho0 ?_
  refine z_iload C dX11_mayBeAhead_90 7 rfl ?_
  obtain ⟨h1, hf⟩ := q_ck hf
  refine z_iald C (n := 256) dX11_mayBeAhead_92 (rt_11_38 _ (kd_lt ho0 (by decide)) ho0) (by decide) h1 ?_
  refine z_aload_n C dX11_mayBeAhead_93 rfl 0 rfl ?_
  refine gf_X11_28 C dX11_mayBeAhead_94 ho0 ?_
  refine z_iload C dX11_mayBeAhead_97 6 rfl ?_
  obtain ⟨h2, hf⟩ := q_ck hf
  refine z_iald C (n := 8) dX11_mayBeAhead_99 (rt_11_13 _ (kd_lt ho0 (by decide)) ho0) (by decide) h2 ?_
  refine z_mmax C (st := []) dX11_mayBeAhead_100 ml_X11_126 mm_max.1 mm_i mm_max.2 ⟨Nat.le_of_ble_eq_true rfl, Nat.le_of_ble_eq_true rfl⟩ (Nat.le_of_ble_eq_true rfl) ?_
  refine z_aload_n C dX11_mayBeAhead_103 rfl 0 rfl ?_
  refine gf_X11_31 C dX11_mayBeAhead_104 ho0 ?_
  refine z_iload C dX11_mayBeAhead_107 6 rfl ?_
  obtain ⟨h3, hf⟩ := q_ck hf
  refine z_iald C (n := 8) dX11_mayBeAhead_109 (rt_11_14 _ (kd_lt ho0 (by decide)) ho0) (by decide) h3 ?_
  refine z_iadd C dX11_mayBeAhead_110 ?_
  refine z_istore C (lv2 := [(8, .int ((imax (z.1 (rf o0 38) (Int32.toNatClampNeg x7)) (z.1 (rf o0 13) (Int32.toNatClampNeg x6))) + (z.1 (rf o0 14) (Int32.toNatClampNeg x6)))), (0, .ref (g.1 o0)), (1, .int x1), (2, .int x2), (3, .int x3), (4, .int x4), (5, .int x5), (6, .int x6), (7, .int x7)]) dX11_mayBeAhead_111 (by decide) rfl ?_
  refine z_iload C dX11_mayBeAhead_113 0 rfl ?_
  refine z_aload_n C dX11_mayBeAhead_115 rfl 1 rfl ?_
  refine gf_X11_34 C dX11_mayBeAhead_116 ho0 ?_
  refine z_iload C dX11_mayBeAhead_119 7 rfl ?_
  obtain ⟨h4, hf⟩ := q_ck hf
  refine z_iald C (n := 8) dX11_mayBeAhead_121 (rt_11_15 _ (kd_lt ho0 (by decide)) ho0) (by decide) h4 ?_
  refine z_iadd C dX11_mayBeAhead_122 ?_
  refine z_iload_n C dX11_mayBeAhead_123 rfl 4 rfl ?_
  exact z_icmp_gt C dX11_mayBeAhead_124 (by decide) (fun h => z_sub [1, 2, 3, 4, 5, 6, 7] rfl (b_X11_mayBeAhead_137 C hr hk hK10 hK27 z o0 x1 x2 x3 x4 x5 x6 ho0 (q_t hf h))) (fun h => z_sub [1, 2, 3, 4, 5, 6, 7, 0] rfl (b_X11_mayBeAhead_127 C hr hk hK10 hK27 z o0 x1 x2 x3 x4 x5 x6 ((imax (z.1 (rf o0 38) (Int32.toNatClampNeg x7)) (z.1 (rf o0 13) (Int32.toNatClampNeg x6))) + (z.1 (rf o0 14) (Int32.toNatClampNeg x6))) ho0 (q_f hf h)))
def f_X11_mayBeAhead_74 (K10 : St → Nat → Int32 → Int32 → Int32 → Int32 → Option (St × Int32)) (K27 : St → Nat → Int32 → Int32 → Int32 → Int32 → Int32 → Int32 → Option (St × Int32)) (z : St) (o0 : Nat) (x1 : Int32) (x2 : Int32) (x3 : Int32) (x4 : Int32) (x5 : Int32) (x6 : Int32) (x7 : Int32) : Option (St × Int32) :=
  if ((x7 >>> (x1 &&& 31)) &&& 1) = 0 then f_X11_mayBeAhead_83 K10 K27 z o0 x1 x2 x3 x4 x5 x6 else f_X11_mayBeAhead_86 K10 K27 z o0 x1 x2 x3 x4 x5 x6 x7
theorem b_X11_mayBeAhead_74 {p : Program} {l : Launch} {e : Env} {s : State} {m : MethodId} {args : Array Value} {below : List Frame} {meth : Method} {c : Code} {g : Ga} {A : Nat → Prop} (C : Cx l g A p s m args c cX11_mayBeAhead 9 RX11 (rm_X11_mayBeAhead) (0, 0)) (hr : meth.sig.returnType = (some .boolean)) (hk : meth.locks = false) {K10 : St → Nat → Int32 → Int32 → Int32 → Int32 → Option (St × Int32)} {K27 : St → Nat → Int32 → Int32 → Int32 → Int32 → Int32 → Int32 → Option (St × Int32)} (hK10 : ∀ (z : St) (o0 : Nat) (x1 : Int32) (x2 : Int32) (x3 : Int32) (x4 : Int32) (_ : kd o0 = 11) {res : St × Int32}, K10 z o0 x1 x2 x3 x4 = some res → Zj p l e (rm_X11_mayBeAhead) s m args below meth c g A 9 (0, 0) (QI g A below args s res) z 10 [(0, .ref (g.1 o0)), (1, .int x1), (2, .int x2), (3, .int x3), (4, .int x4)] []) (hK27 : ∀ (z : St) (o0 : Nat) (x1 : Int32) (x2 : Int32) (x3 : Int32) (x4 : Int32) (x5 : Int32) (x6 : Int32) (_ : kd o0 = 11) {res : St × Int32}, K27 z o0 x1 x2 x3 x4 x5 x6 = some res → Zj p l e (rm_X11_mayBeAhead) s m args below meth c g A 9 (0, 0) (QI g A below args s res) z 27 [(0, .ref (g.1 o0)), (1, .int x1), (2, .int x2), (3, .int x3), (4, .int x4), (5, .int x5), (6, .int x6)] []) (z : St) (o0 : Nat) (x1 : Int32) (x2 : Int32) (x3 : Int32) (x4 : Int32) (x5 : Int32) (x6 : Int32) (x7 : Int32) (ho0 : kd o0 = 11) {res : St × Int32} (hf : f_X11_mayBeAhead_74 K10 K27 z o0 x1 x2 x3 x4 x5 x6 x7 = some res) : Zj p l e (rm_X11_mayBeAhead) s m args below meth c g A 9 (0, 0) (QI g A below args s res) z 74 [(0, .ref (g.1 o0)), (1, .int x1), (2, .int x2), (3, .int x3), (4, .int x4), (5, .int x5), (6, .int x6), (7, .int x7)] [] := by
  unfold f_X11_mayBeAhead_74 at hf
  refine z_iload C dX11_mayBeAhead_74 7 rfl ?_
  refine z_iload_n C dX11_mayBeAhead_76 rfl 1 rfl ?_
  refine z_ishr C dX11_mayBeAhead_77 ?_
  refine z_iconst C dX11_mayBeAhead_78 (v := 1) (by decide) ?_
  refine z_iand C dX11_mayBeAhead_79 ?_
  exact z_if_ne C dX11_mayBeAhead_80 (by decide) (fun h => z_sub [0, 1, 2, 3, 4, 5, 6, 7] rfl (b_X11_mayBeAhead_86 C hr hk hK10 hK27 z o0 x1 x2 x3 x4 x5 x6 x7 ho0 (q_f hf h))) (fun h => z_sub [0, 1, 2, 3, 4, 5, 6] rfl (b_X11_mayBeAhead_83 C hr hk hK10 hK27 z o0 x1 x2 x3 x4 x5 x6 ho0 (q_t hf h)))
def f_X11_mayBeAhead_68 (K10 : St → Nat → Int32 → Int32 → Int32 → Int32 → Option (St × Int32)) (K27 : St → Nat → Int32 → Int32 → Int32 → Int32 → Int32 → Int32 → Option (St × Int32)) (z : St) (o0 : Nat) (x1 : Int32) (x2 : Int32) (x3 : Int32) (x4 : Int32) (x5 : Int32) (x6 : Int32) (x7 : Int32) : Option (St × Int32) :=
  if x6 = x2 then f_X11_mayBeAhead_74 K10 K27 z o0 x1 x2 x3 x4 x5 x6 x7 else f_X11_mayBeAhead_86 K10 K27 z o0 x1 x2 x3 x4 x5 x6 x7
theorem b_X11_mayBeAhead_68 {p : Program} {l : Launch} {e : Env} {s : State} {m : MethodId} {args : Array Value} {below : List Frame} {meth : Method} {c : Code} {g : Ga} {A : Nat → Prop} (C : Cx l g A p s m args c cX11_mayBeAhead 9 RX11 (rm_X11_mayBeAhead) (0, 0)) (hr : meth.sig.returnType = (some .boolean)) (hk : meth.locks = false) {K10 : St → Nat → Int32 → Int32 → Int32 → Int32 → Option (St × Int32)} {K27 : St → Nat → Int32 → Int32 → Int32 → Int32 → Int32 → Int32 → Option (St × Int32)} (hK10 : ∀ (z : St) (o0 : Nat) (x1 : Int32) (x2 : Int32) (x3 : Int32) (x4 : Int32) (_ : kd o0 = 11) {res : St × Int32}, K10 z o0 x1 x2 x3 x4 = some res → Zj p l e (rm_X11_mayBeAhead) s m args below meth c g A 9 (0, 0) (QI g A below args s res) z 10 [(0, .ref (g.1 o0)), (1, .int x1), (2, .int x2), (3, .int x3), (4, .int x4)] []) (hK27 : ∀ (z : St) (o0 : Nat) (x1 : Int32) (x2 : Int32) (x3 : Int32) (x4 : Int32) (x5 : Int32) (x6 : Int32) (_ : kd o0 = 11) {res : St × Int32}, K27 z o0 x1 x2 x3 x4 x5 x6 = some res → Zj p l e (rm_X11_mayBeAhead) s m args below meth c g A 9 (0, 0) (QI g A below args s res) z 27 [(0, .ref (g.1 o0)), (1, .int x1), (2, .int x2), (3, .int x3), (4, .int x4), (5, .int x5), (6, .int x6)] []) (z : St) (o0 : Nat) (x1 : Int32) (x2 : Int32) (x3 : Int32) (x4 : Int32) (x5 : Int32) (x6 : Int32) (x7 : Int32) (ho0 : kd o0 = 11) {res : St × Int32} (hf : f_X11_mayBeAhead_68 K10 K27 z o0 x1 x2 x3 x4 x5 x6 x7 = some res) : Zj p l e (rm_X11_mayBeAhead) s m args below meth c g A 9 (0, 0) (QI g A below args s res) z 68 [(0, .ref (g.1 o0)), (1, .int x1), (2, .int x2), (3, .int x3), (4, .int x4), (5, .int x5), (6, .int x6), (7, .int x7)] [] := by
  unfold f_X11_mayBeAhead_68 at hf
  refine z_iload C dX11_mayBeAhead_68 6 rfl ?_
  refine z_iload_n C dX11_mayBeAhead_70 rfl 2 rfl ?_
  exact z_icmp_ne C dX11_mayBeAhead_71 (by decide) (fun h => z_sub [0, 1, 2, 3, 4, 5, 6, 7] rfl (b_X11_mayBeAhead_86 C hr hk hK10 hK27 z o0 x1 x2 x3 x4 x5 x6 x7 ho0 (q_f hf h))) (fun h => z_sub [0, 1, 2, 3, 4, 5, 6, 7] rfl (b_X11_mayBeAhead_74 C hr hk hK10 hK27 z o0 x1 x2 x3 x4 x5 x6 x7 ho0 (q_t hf h)))
def f_X11_mayBeAhead_55 (K10 : St → Nat → Int32 → Int32 → Int32 → Int32 → Option (St × Int32)) (K27 : St → Nat → Int32 → Int32 → Int32 → Int32 → Int32 → Int32 → Option (St × Int32)) (z : St) (o0 : Nat) (x1 : Int32) (x2 : Int32) (x3 : Int32) (x4 : Int32) (x5 : Int32) (x6 : Int32) (x7 : Int32) : Option (St × Int32) :=
  if inb x7 256 = true then (if (z.1 (rf o0 38) (Int32.toNatClampNeg x7)) = 999 then f_X11_mayBeAhead_141 K10 K27 z o0 x1 x2 x3 x4 x5 x6 else f_X11_mayBeAhead_68 K10 K27 z o0 x1 x2 x3 x4 x5 x6 x7) else none
theorem b_X11_mayBeAhead_55 {p : Program} {l : Launch} {e : Env} {s : State} {m : MethodId} {args : Array Value} {below : List Frame} {meth : Method} {c : Code} {g : Ga} {A : Nat → Prop} (C : Cx l g A p s m args c cX11_mayBeAhead 9 RX11 (rm_X11_mayBeAhead) (0, 0)) (hr : meth.sig.returnType = (some .boolean)) (hk : meth.locks = false) {K10 : St → Nat → Int32 → Int32 → Int32 → Int32 → Option (St × Int32)} {K27 : St → Nat → Int32 → Int32 → Int32 → Int32 → Int32 → Int32 → Option (St × Int32)} (hK10 : ∀ (z : St) (o0 : Nat) (x1 : Int32) (x2 : Int32) (x3 : Int32) (x4 : Int32) (_ : kd o0 = 11) {res : St × Int32}, K10 z o0 x1 x2 x3 x4 = some res → Zj p l e (rm_X11_mayBeAhead) s m args below meth c g A 9 (0, 0) (QI g A below args s res) z 10 [(0, .ref (g.1 o0)), (1, .int x1), (2, .int x2), (3, .int x3), (4, .int x4)] []) (hK27 : ∀ (z : St) (o0 : Nat) (x1 : Int32) (x2 : Int32) (x3 : Int32) (x4 : Int32) (x5 : Int32) (x6 : Int32) (_ : kd o0 = 11) {res : St × Int32}, K27 z o0 x1 x2 x3 x4 x5 x6 = some res → Zj p l e (rm_X11_mayBeAhead) s m args below meth c g A 9 (0, 0) (QI g A below args s res) z 27 [(0, .ref (g.1 o0)), (1, .int x1), (2, .int x2), (3, .int x3), (4, .int x4), (5, .int x5), (6, .int x6)] []) (z : St) (o0 : Nat) (x1 : Int32) (x2 : Int32) (x3 : Int32) (x4 : Int32) (x5 : Int32) (x6 : Int32) (x7 : Int32) (ho0 : kd o0 = 11) {res : St × Int32} (hf : f_X11_mayBeAhead_55 K10 K27 z o0 x1 x2 x3 x4 x5 x6 x7 = some res) : Zj p l e (rm_X11_mayBeAhead) s m args below meth c g A 9 (0, 0) (QI g A below args s res) z 55 [(0, .ref (g.1 o0)), (1, .int x1), (2, .int x2), (3, .int x3), (4, .int x4), (5, .int x5), (6, .int x6), (7, .int x7)] [] := by
  unfold f_X11_mayBeAhead_55 at hf
  refine z_aload_n C dX11_mayBeAhead_55 rfl 0 rfl ?_
  refine gf_X11_70 C dX11_mayBeAhead_56 ho0 ?_
  refine z_iload C dX11_mayBeAhead_59 7 rfl ?_
  obtain ⟨h1, hf⟩ := q_ck hf
  refine z_iald C (n := 256) dX11_mayBeAhead_61 (rt_11_38 _ (kd_lt ho0 (by decide)) ho0) (by decide) h1 ?_
  refine z_sipush C dX11_mayBeAhead_62 (v := 999) (by decide) ?_
  exact z_icmp_eq C dX11_mayBeAhead_65 (by decide) (fun h => z_sub [0, 1, 2, 3, 4, 5, 6] rfl (b_X11_mayBeAhead_141 C hr hk hK10 hK27 z o0 x1 x2 x3 x4 x5 x6 ho0 (q_t hf h))) (fun h => z_sub [0, 1, 2, 3, 4, 5, 6, 7] rfl (b_X11_mayBeAhead_68 C hr hk hK10 hK27 z o0 x1 x2 x3 x4 x5 x6 x7 ho0 (q_f hf h)))
def f_X11_mayBeAhead_36 (K10 : St → Nat → Int32 → Int32 → Int32 → Int32 → Option (St × Int32)) (K27 : St → Nat → Int32 → Int32 → Int32 → Int32 → Int32 → Int32 → Option (St × Int32)) (z : St) (o0 : Nat) (x1 : Int32) (x2 : Int32) (x3 : Int32) (x4 : Int32) (x5 : Int32) (x6 : Int32) : Option (St × Int32) :=
  if ((x4 >>> (x6 &&& 31)) &&& 1) = 0 then f_X11_mayBeAhead_141 K10 K27 z o0 x1 x2 x3 x4 x5 x6 else f_X11_mayBeAhead_55 K10 K27 z o0 x1 x2 x3 x4 x5 x6 (x4 ^^^ ((1 : Int32) <<< (x6 &&& 31)))
theorem b_X11_mayBeAhead_36 {p : Program} {l : Launch} {e : Env} {s : State} {m : MethodId} {args : Array Value} {below : List Frame} {meth : Method} {c : Code} {g : Ga} {A : Nat → Prop} (C : Cx l g A p s m args c cX11_mayBeAhead 9 RX11 (rm_X11_mayBeAhead) (0, 0)) (hr : meth.sig.returnType = (some .boolean)) (hk : meth.locks = false) {K10 : St → Nat → Int32 → Int32 → Int32 → Int32 → Option (St × Int32)} {K27 : St → Nat → Int32 → Int32 → Int32 → Int32 → Int32 → Int32 → Option (St × Int32)} (hK10 : ∀ (z : St) (o0 : Nat) (x1 : Int32) (x2 : Int32) (x3 : Int32) (x4 : Int32) (_ : kd o0 = 11) {res : St × Int32}, K10 z o0 x1 x2 x3 x4 = some res → Zj p l e (rm_X11_mayBeAhead) s m args below meth c g A 9 (0, 0) (QI g A below args s res) z 10 [(0, .ref (g.1 o0)), (1, .int x1), (2, .int x2), (3, .int x3), (4, .int x4)] []) (hK27 : ∀ (z : St) (o0 : Nat) (x1 : Int32) (x2 : Int32) (x3 : Int32) (x4 : Int32) (x5 : Int32) (x6 : Int32) (_ : kd o0 = 11) {res : St × Int32}, K27 z o0 x1 x2 x3 x4 x5 x6 = some res → Zj p l e (rm_X11_mayBeAhead) s m args below meth c g A 9 (0, 0) (QI g A below args s res) z 27 [(0, .ref (g.1 o0)), (1, .int x1), (2, .int x2), (3, .int x3), (4, .int x4), (5, .int x5), (6, .int x6)] []) (z : St) (o0 : Nat) (x1 : Int32) (x2 : Int32) (x3 : Int32) (x4 : Int32) (x5 : Int32) (x6 : Int32) (ho0 : kd o0 = 11) {res : St × Int32} (hf : f_X11_mayBeAhead_36 K10 K27 z o0 x1 x2 x3 x4 x5 x6 = some res) : Zj p l e (rm_X11_mayBeAhead) s m args below meth c g A 9 (0, 0) (QI g A below args s res) z 36 [(0, .ref (g.1 o0)), (1, .int x1), (2, .int x2), (3, .int x3), (4, .int x4), (5, .int x5), (6, .int x6)] [] := by
  unfold f_X11_mayBeAhead_36 at hf
  refine z_iload C dX11_mayBeAhead_36 4 rfl ?_
  refine z_iconst C dX11_mayBeAhead_38 (v := 1) (by decide) ?_
  refine z_iload C dX11_mayBeAhead_39 6 rfl ?_
  refine z_ishl C dX11_mayBeAhead_41 ?_
  refine z_ixor C dX11_mayBeAhead_42 ?_
  refine z_istore C (lv2 := [(7, .int (x4 ^^^ ((1 : Int32) <<< (x6 &&& 31)))), (0, .ref (g.1 o0)), (1, .int x1), (2, .int x2), (3, .int x3), (4, .int x4), (5, .int x5), (6, .int x6)]) dX11_mayBeAhead_43 (by decide) rfl ?_
  refine z_iload C dX11_mayBeAhead_45 5 rfl ?_
  refine z_iload C dX11_mayBeAhead_47 7 rfl ?_
  refine z_ishr C dX11_mayBeAhead_49 ?_
  refine z_iconst C dX11_mayBeAhead_50 (v := 1) (by decide) ?_
  refine z_iand C dX11_mayBeAhead_51 ?_
  exact z_if_eq C dX11_mayBeAhead_52 (by decide) (fun h => z_sub [1, 2, 3, 4, 5, 6, 7] rfl (b_X11_mayBeAhead_141 C hr hk hK10 hK27 z o0 x1 x2 x3 x4 x5 x6 ho0 (q_t hf h))) (fun h => z_sub [1, 2, 3, 4, 5, 6, 7, 0] rfl (b_X11_mayBeAhead_55 C hr hk hK10 hK27 z o0 x1 x2 x3 x4 x5 x6 (x4 ^^^ ((1 : Int32) <<< (x6 &&& 31))) ho0 (q_f hf h)))
def f_X11_mayBeAhead_147 (K10 : St → Nat → Int32 → Int32 → Int32 → Int32 → Option (St × Int32)) (z : St) (o0 : Nat) (x1 : Int32) (x2 : Int32) (x3 : Int32) (x4 : Int32) (x5 : Int32) : Option (St × Int32) :=
  if inb x4 256 = true then (K10 (zI z (rf o0 38) (Int32.toNatClampNeg x4) x5) o0 x1 x2 x3 (x4 + 1)) else none
theorem b_X11_mayBeAhead_147 {p : Program} {l : Launch} {e : Env} {s : State} {m : MethodId} {args : Array Value} {below : List Frame} {meth : Method} {c : Code} {g : Ga} {A : Nat → Prop} (C : Cx l g A p s m args c cX11_mayBeAhead 9 RX11 (rm_X11_mayBeAhead) (0, 0)) (hr : meth.sig.returnType = (some .boolean)) (hk : meth.locks = false) {K10 : St → Nat → Int32 → Int32 → Int32 → Int32 → Option (St × Int32)} (hK10 : ∀ (z : St) (o0 : Nat) (x1 : Int32) (x2 : Int32) (x3 : Int32) (x4 : Int32) (_ : kd o0 = 11) {res : St × Int32}, K10 z o0 x1 x2 x3 x4 = some res → Zj p l e (rm_X11_mayBeAhead) s m args below meth c g A 9 (0, 0) (QI g A below args s res) z 10 [(0, .ref (g.1 o0)), (1, .int x1), (2, .int x2), (3, .int x3), (4, .int x4)] []) (z : St) (o0 : Nat) (x1 : Int32) (x2 : Int32) (x3 : Int32) (x4 : Int32) (x5 : Int32) (ho0 : kd o0 = 11) {res : St × Int32} (hf : f_X11_mayBeAhead_147 K10 z o0 x1 x2 x3 x4 x5 = some res) : Zj p l e (rm_X11_mayBeAhead) s m args below meth c g A 9 (0, 0) (QI g A below args s res) z 147 [(0, .ref (g.1 o0)), (1, .int x1), (2, .int x2), (3, .int x3), (4, .int x4), (5, .int x5)] [] := by
  unfold f_X11_mayBeAhead_147 at hf
  refine z_aload_n C dX11_mayBeAhead_147 rfl 0 rfl ?_
  refine gf_X11_70 C dX11_mayBeAhead_148 ho0 ?_
  refine z_iload C dX11_mayBeAhead_151 4 rfl ?_
  refine z_iload C dX11_mayBeAhead_153 5 rfl ?_
  obtain ⟨h1, hf⟩ := q_ck hf
  refine z_iast C (n := 256) dX11_mayBeAhead_155 (rt_11_38 _ (kd_lt ho0 (by decide)) ho0) (by decide) h1 ?_
  refine z_iinc C (k := 4) (v := x4 + 1) (lv2 := [(4, .int (x4 + 1)), (0, .ref (g.1 o0)), (1, .int x1), (2, .int x2), (3, .int x3), (5, .int x5)]) dX11_mayBeAhead_156 rfl rfl (by decide) rfl ?_
  exact z_goto C dX11_mayBeAhead_159 (by decide) (z_sub [1, 2, 3, 4, 0] rfl (hK10 (zI z (rf o0 38) (Int32.toNatClampNeg x4) x5) o0 x1 x2 x3 (x4 + 1) ho0 hf))
def f_X11_mayBeAhead_27 (K10 : St → Nat → Int32 → Int32 → Int32 → Int32 → Option (St × Int32)) : Nat → St → Nat → Int32 → Int32 → Int32 → Int32 → Int32 → Int32 → Option (St × Int32)
  | 0, _, _, _, _, _, _, _, _ => none
  | n + 1, z, o0, x1, x2, x3, x4, x5, x6 => if (z.1 o0 5) ≤ x6 then f_X11_mayBeAhead_147 K10 z o0 x1 x2 x3 x4 x5 else f_X11_mayBeAhead_36 K10 (f_X11_mayBeAhead_27 K10 n) z o0 x1 x2 x3 x4 x5 x6
theorem b_X11_mayBeAhead_27 {p : Program} {l : Launch} {e : Env} {s : State} {m : MethodId} {args : Array Value} {below : List Frame} {meth : Method} {c : Code} {g : Ga} {A : Nat → Prop} (C : Cx l g A p s m args c cX11_mayBeAhead 9 RX11 (rm_X11_mayBeAhead) (0, 0)) (hr : meth.sig.returnType = (some .boolean)) (hk : meth.locks = false) {K10 : St → Nat → Int32 → Int32 → Int32 → Int32 → Option (St × Int32)} (hK10 : ∀ (z : St) (o0 : Nat) (x1 : Int32) (x2 : Int32) (x3 : Int32) (x4 : Int32) (_ : kd o0 = 11) {res : St × Int32}, K10 z o0 x1 x2 x3 x4 = some res → Zj p l e (rm_X11_mayBeAhead) s m args below meth c g A 9 (0, 0) (QI g A below args s res) z 10 [(0, .ref (g.1 o0)), (1, .int x1), (2, .int x2), (3, .int x3), (4, .int x4)] []) : ∀ (n : Nat) (z : St) (o0 : Nat) (x1 : Int32) (x2 : Int32) (x3 : Int32) (x4 : Int32) (x5 : Int32) (x6 : Int32) (_ : kd o0 = 11) {res : St × Int32} (_ : f_X11_mayBeAhead_27 K10 n z o0 x1 x2 x3 x4 x5 x6 = some res), Zj p l e (rm_X11_mayBeAhead) s m args below meth c g A 9 (0, 0) (QI g A below args s res) z 27 [(0, .ref (g.1 o0)), (1, .int x1), (2, .int x2), (3, .int x3), (4, .int x4), (5, .int x5), (6, .int x6)] [] := by
  intro n
  induction n with
  | zero =>
    intro z o0 x1 x2 x3 x4 x5 x6 ho0 res hf
    cases hf
  | succ n ih =>
    intro z o0 x1 x2 x3 x4 x5 x6 ho0 res hf
    rw [f_X11_mayBeAhead_27] at hf
    refine z_iload C dX11_mayBeAhead_27 6 rfl ?_
    refine z_aload_n C dX11_mayBeAhead_29 rfl 0 rfl ?_
    refine gf_X11_111 C dX11_mayBeAhead_30 ho0 ?_
    exact z_icmp_ge C dX11_mayBeAhead_33 (by decide) (fun h => z_sub [0, 1, 2, 3, 4, 5] rfl (b_X11_mayBeAhead_147 C hr hk hK10 z o0 x1 x2 x3 x4 x5 ho0 (q_t hf h))) (fun h => z_sub [0, 1, 2, 3, 4, 5, 6] rfl (b_X11_mayBeAhead_36 C hr hk hK10 ih z o0 x1 x2 x3 x4 x5 x6 ho0 (q_f hf h)))
def f_X11_mayBeAhead_19 (K10 : St → Nat → Int32 → Int32 → Int32 → Int32 → Option (St × Int32)) (z : St) (o0 : Nat) (x1 : Int32) (x2 : Int32) (x3 : Int32) (x4 : Int32) : Option (St × Int32) :=
  f_X11_mayBeAhead_27 K10 FU z o0 x1 x2 x3 x4 999 0
theorem b_X11_mayBeAhead_19 {p : Program} {l : Launch} {e : Env} {s : State} {m : MethodId} {args : Array Value} {below : List Frame} {meth : Method} {c : Code} {g : Ga} {A : Nat → Prop} (C : Cx l g A p s m args c cX11_mayBeAhead 9 RX11 (rm_X11_mayBeAhead) (0, 0)) (hr : meth.sig.returnType = (some .boolean)) (hk : meth.locks = false) {K10 : St → Nat → Int32 → Int32 → Int32 → Int32 → Option (St × Int32)} (hK10 : ∀ (z : St) (o0 : Nat) (x1 : Int32) (x2 : Int32) (x3 : Int32) (x4 : Int32) (_ : kd o0 = 11) {res : St × Int32}, K10 z o0 x1 x2 x3 x4 = some res → Zj p l e (rm_X11_mayBeAhead) s m args below meth c g A 9 (0, 0) (QI g A below args s res) z 10 [(0, .ref (g.1 o0)), (1, .int x1), (2, .int x2), (3, .int x3), (4, .int x4)] []) (z : St) (o0 : Nat) (x1 : Int32) (x2 : Int32) (x3 : Int32) (x4 : Int32) (ho0 : kd o0 = 11) {res : St × Int32} (hf : f_X11_mayBeAhead_19 K10 z o0 x1 x2 x3 x4 = some res) : Zj p l e (rm_X11_mayBeAhead) s m args below meth c g A 9 (0, 0) (QI g A below args s res) z 19 [(0, .ref (g.1 o0)), (1, .int x1), (2, .int x2), (3, .int x3), (4, .int x4)] [] := by
  unfold f_X11_mayBeAhead_19 at hf
  refine z_sipush C dX11_mayBeAhead_19 (v := 999) (by decide) ?_
  refine z_istore C (lv2 := [(5, .int 999), (0, .ref (g.1 o0)), (1, .int x1), (2, .int x2), (3, .int x3), (4, .int x4)]) dX11_mayBeAhead_22 (by decide) rfl ?_
  refine z_iconst C dX11_mayBeAhead_24 (v := 0) (by decide) ?_
  refine z_istore C (lv2 := [(6, .int 0), (5, .int 999), (0, .ref (g.1 o0)), (1, .int x1), (2, .int x2), (3, .int x3), (4, .int x4)]) dX11_mayBeAhead_25 (by decide) rfl ?_
  exact z_sub [2, 3, 4, 5, 6, 1, 0] rfl (b_X11_mayBeAhead_27 C hr hk hK10 FU z o0 x1 x2 x3 x4 999 0 ho0 hf)
def f_X11_mayBeAhead_182  (z : St) (s0 : Int32) : Option (St × Int32) :=
  if zb s0 = true then some (z, s0) else none
theorem b_X11_mayBeAhead_182 {p : Program} {l : Launch} {e : Env} {s : State} {m : MethodId} {args : Array Value} {below : List Frame} {meth : Method} {c : Code} {g : Ga} {A : Nat → Prop} (C : Cx l g A p s m args c cX11_mayBeAhead 9 RX11 (rm_X11_mayBeAhead) (0, 0)) (hr : meth.sig.returnType = (some .boolean)) (hk : meth.locks = false)   (z : St) (s0 : Int32)  {res : St × Int32} (hf : f_X11_mayBeAhead_182  z s0 = some res) : Zj p l e (rm_X11_mayBeAhead) s m args below meth c g A 9 (0, 0) (QI g A below args s res) z 182 [] [.int s0] := by
  unfold f_X11_mayBeAhead_182 at hf
  obtain ⟨h1, hf⟩ := q_ck hf
  cases hf
  exact z_zret C hr hk h1 dX11_mayBeAhead_182
def f_X11_mayBeAhead_177  (z : St)  : Option (St × Int32) :=
  f_X11_mayBeAhead_182 z 1
theorem b_X11_mayBeAhead_177 {p : Program} {l : Launch} {e : Env} {s : State} {m : MethodId} {args : Array Value} {below : List Frame} {meth : Method} {c : Code} {g : Ga} {A : Nat → Prop} (C : Cx l g A p s m args c cX11_mayBeAhead 9 RX11 (rm_X11_mayBeAhead) (0, 0)) (hr : meth.sig.returnType = (some .boolean)) (hk : meth.locks = false)   (z : St)   {res : St × Int32} (hf : f_X11_mayBeAhead_177  z  = some res) : Zj p l e (rm_X11_mayBeAhead) s m args below meth c g A 9 (0, 0) (QI g A below args s res) z 177 [] [] := by
  unfold f_X11_mayBeAhead_177 at hf
  refine z_iconst C dX11_mayBeAhead_177 (v := 1) (by decide) ?_
  exact z_goto C dX11_mayBeAhead_178 (by decide) (z_sub [] rfl (b_X11_mayBeAhead_182 C hr hk z 1 hf))
def f_X11_mayBeAhead_181  (z : St)  : Option (St × Int32) :=
  f_X11_mayBeAhead_182 z 0
theorem b_X11_mayBeAhead_181 {p : Program} {l : Launch} {e : Env} {s : State} {m : MethodId} {args : Array Value} {below : List Frame} {meth : Method} {c : Code} {g : Ga} {A : Nat → Prop} (C : Cx l g A p s m args c cX11_mayBeAhead 9 RX11 (rm_X11_mayBeAhead) (0, 0)) (hr : meth.sig.returnType = (some .boolean)) (hk : meth.locks = false)   (z : St)   {res : St × Int32} (hf : f_X11_mayBeAhead_181  z  = some res) : Zj p l e (rm_X11_mayBeAhead) s m args below meth c g A 9 (0, 0) (QI g A below args s res) z 181 [] [] := by
  unfold f_X11_mayBeAhead_181 at hf
  refine z_iconst C dX11_mayBeAhead_181 (v := 0) (by decide) ?_
  exact z_sub [] rfl (b_X11_mayBeAhead_182 C hr hk z 0 hf)
def f_X11_mayBeAhead_162  (z : St) (o0 : Nat) : Option (St × Int32) :=
  ((f_X11_all z o0).bind fun r1 => if inb r1.2 256 = true then (if 999 ≤ (r1.1.1 (rf o0 38) (Int32.toNatClampNeg r1.2)) then f_X11_mayBeAhead_181 r1.1 else f_X11_mayBeAhead_177 r1.1) else none)
theorem b_X11_mayBeAhead_162 {p : Program} {l : Launch} {e : Env} {s : State} {m : MethodId} {args : Array Value} {below : List Frame} {meth : Method} {c : Code} {g : Ga} {A : Nat → Prop} (C : Cx l g A p s m args c cX11_mayBeAhead 9 RX11 (rm_X11_mayBeAhead) (0, 0)) (hr : meth.sig.returnType = (some .boolean)) (hk : meth.locks = false)   (z : St) (o0 : Nat) (ho0 : kd o0 = 11) {res : St × Int32} (hf : f_X11_mayBeAhead_162  z o0 = some res) : Zj p l e (rm_X11_mayBeAhead) s m args below meth c g A 9 (0, 0) (QI g A below args s res) z 162 [(0, .ref (g.1 o0))] [] := by
  unfold f_X11_mayBeAhead_162 at hf
  refine z_aload_n C dX11_mayBeAhead_162 rfl 0 rfl ?_
  refine gf_X11_70 C dX11_mayBeAhead_163 ho0 ?_
  refine z_aload_n C dX11_mayBeAhead_166 rfl 0 rfl ?_
  obtain ⟨r1, hc2, hf⟩ := q_bd hf
  refine z_cVi C (st := [.ref (g.1 (rf o0 38))]) (c_X11_all ho0 hc2) mw_X11_all ml_X11_283 ho0 (by decide) rfl dX11_mayBeAhead_167 rfl rfl rfl ⟨Nat.le_of_ble_eq_true rfl, Nat.le_of_ble_eq_true rfl⟩ rfl (Nat.le_of_ble_eq_true rfl) ?_
  obtain ⟨h3, hf⟩ := q_ck hf
  refine z_iald C (n := 256) dX11_mayBeAhead_170 (rt_11_38 _ (kd_lt ho0 (by decide)) ho0) (by decide) h3 ?_
  refine z_sipush C dX11_mayBeAhead_171 (v := 999) (by decide) ?_
  exact z_icmp_ge C dX11_mayBeAhead_174 (by decide) (fun h => z_sub [] rfl (b_X11_mayBeAhead_181 C hr hk r1.1 (q_t hf h))) (fun h => z_sub [] rfl (b_X11_mayBeAhead_177 C hr hk r1.1 (q_f hf h)))
def f_X11_mayBeAhead_10  : Nat → St → Nat → Int32 → Int32 → Int32 → Int32 → Option (St × Int32)
  | 0, _, _, _, _, _, _ => none
  | n + 1, z, o0, x1, x2, x3, x4 => ((f_X11_all z o0).bind fun r1 => if r1.2 < x4 then f_X11_mayBeAhead_162 r1.1 o0 else f_X11_mayBeAhead_19 (f_X11_mayBeAhead_10 n) r1.1 o0 x1 x2 x3 x4)
theorem b_X11_mayBeAhead_10 {p : Program} {l : Launch} {e : Env} {s : State} {m : MethodId} {args : Array Value} {below : List Frame} {meth : Method} {c : Code} {g : Ga} {A : Nat → Prop} (C : Cx l g A p s m args c cX11_mayBeAhead 9 RX11 (rm_X11_mayBeAhead) (0, 0)) (hr : meth.sig.returnType = (some .boolean)) (hk : meth.locks = false)   : ∀ (n : Nat) (z : St) (o0 : Nat) (x1 : Int32) (x2 : Int32) (x3 : Int32) (x4 : Int32) (_ : kd o0 = 11) {res : St × Int32} (_ : f_X11_mayBeAhead_10  n z o0 x1 x2 x3 x4 = some res), Zj p l e (rm_X11_mayBeAhead) s m args below meth c g A 9 (0, 0) (QI g A below args s res) z 10 [(0, .ref (g.1 o0)), (1, .int x1), (2, .int x2), (3, .int x3), (4, .int x4)] [] := by
  intro n
  induction n with
  | zero =>
    intro z o0 x1 x2 x3 x4 ho0 res hf
    cases hf
  | succ n ih =>
    intro z o0 x1 x2 x3 x4 ho0 res hf
    rw [f_X11_mayBeAhead_10] at hf
    refine z_iload C dX11_mayBeAhead_10 4 rfl ?_
    refine z_aload_n C dX11_mayBeAhead_12 rfl 0 rfl ?_
    obtain ⟨r1, hc2, hf⟩ := q_bd hf
    refine z_cVi C (st := [.int x4]) (c_X11_all ho0 hc2) mw_X11_all ml_X11_283 ho0 (by decide) rfl dX11_mayBeAhead_13 rfl rfl rfl ⟨Nat.le_of_ble_eq_true rfl, Nat.le_of_ble_eq_true rfl⟩ rfl (Nat.le_of_ble_eq_true rfl) ?_
    exact z_icmp_gt C dX11_mayBeAhead_16 (by decide) (fun h => z_sub [0] rfl (b_X11_mayBeAhead_162 C hr hk r1.1 o0 ho0 (q_t hf h))) (fun h => z_sub [0, 1, 2, 3, 4] rfl (b_X11_mayBeAhead_19 C hr hk ih r1.1 o0 x1 x2 x3 x4 ho0 (q_f hf h)))
def f_X11_mayBeAhead_0  (z : St) (o0 : Nat) (x1 : Int32) (x2 : Int32) (x3 : Int32) : Option (St × Int32) :=
  if inb 0 256 = true then (f_X11_mayBeAhead_10 FU (zI z (rf o0 38) (Int32.toNatClampNeg 0) 0) o0 x1 x2 x3 1) else none
theorem b_X11_mayBeAhead_0 {p : Program} {l : Launch} {e : Env} {s : State} {m : MethodId} {args : Array Value} {below : List Frame} {meth : Method} {c : Code} {g : Ga} {A : Nat → Prop} (C : Cx l g A p s m args c cX11_mayBeAhead 9 RX11 (rm_X11_mayBeAhead) (0, 0)) (hr : meth.sig.returnType = (some .boolean)) (hk : meth.locks = false)   (z : St) (o0 : Nat) (x1 : Int32) (x2 : Int32) (x3 : Int32) (ho0 : kd o0 = 11) {res : St × Int32} (hf : f_X11_mayBeAhead_0  z o0 x1 x2 x3 = some res) : Zj p l e (rm_X11_mayBeAhead) s m args below meth c g A 9 (0, 0) (QI g A below args s res) z 0 [(0, .ref (g.1 o0)), (1, .int x1), (2, .int x2), (3, .int x3)] [] := by
  unfold f_X11_mayBeAhead_0 at hf
  refine z_aload_n C dX11_mayBeAhead_0 rfl 0 rfl ?_
  refine gf_X11_70 C dX11_mayBeAhead_1 ho0 ?_
  refine z_iconst C dX11_mayBeAhead_4 (v := 0) (by decide) ?_
  refine z_iconst C dX11_mayBeAhead_5 (v := 0) (by decide) ?_
  obtain ⟨h1, hf⟩ := q_ck hf
  refine z_iast C (n := 256) dX11_mayBeAhead_6 (rt_11_38 _ (kd_lt ho0 (by decide)) ho0) (by decide) h1 ?_
  refine z_iconst C dX11_mayBeAhead_7 (v := 1) (by decide) ?_
  refine z_istore C (lv2 := [(4, .int 1), (0, .ref (g.1 o0)), (1, .int x1), (2, .int x2), (3, .int x3)]) dX11_mayBeAhead_8 (by decide) rfl ?_
  exact z_sub [1, 2, 3, 4, 0] rfl (b_X11_mayBeAhead_10 C hr hk FU (zI z (rf o0 38) (Int32.toNatClampNeg 0) 0) o0 x1 x2 x3 1 ho0 hf)
def f_X11_mayBeAhead (z : St) (o0 : Nat) (x1 : Int32) (x2 : Int32) (x3 : Int32) : Option (St × Int32) := f_X11_mayBeAhead_0 z o0 x1 x2 x3
theorem c_X11_mayBeAhead {l : Launch} {g : Ga} {A : Nat → Prop} {z : St} {o0 : Nat} {x1 : Int32} {x2 : Int32} {x3 : Int32} (ho0 : kd o0 = 11) {res : St × Int32} (hf : f_X11_mayBeAhead z o0 x1 x2 x3 = some res) : CI l g A yX11_mayBeAhead cX11_mayBeAhead 9 (some .boolean) rm_X11_mayBeAhead [.ref (g.1 o0), .int x1, .int x2, .int x3] z res :=
  e_CI (by decide) (Nat.le_of_ble_eq_true rfl) rfl (fun p e s m args below meth c C hr hk => z_sub [0, 1, 2, 3] rfl (b_X11_mayBeAhead_0 C hr hk z o0 x1 x2 x3 ho0 hf))
abbrev rm_X11_must : Room := { frames := 5, cells := 0, slots := 0, locals := 113 }
def f_X11_must_8  (z : St)  : Option (St × Int32) :=
  some (z, (-2))
theorem b_X11_must_8 {p : Program} {l : Launch} {e : Env} {s : State} {m : MethodId} {args : Array Value} {below : List Frame} {meth : Method} {c : Code} {g : Ga} {A : Nat → Prop} (C : Cx l g A p s m args c cX11_must 5 RX11 (rm_X11_must) (0, 0)) (hr : meth.sig.returnType = (some .int)) (hk : meth.locks = false)   (z : St)   {res : St × Int32} (hf : f_X11_must_8  z  = some res) : Zj p l e (rm_X11_must) s m args below meth c g A 5 (0, 0) (QI g A below args s res) z 8 [] [] := by
  unfold f_X11_must_8 at hf
  refine z_bipush C dX11_must_8 (v := (-2)) (by decide) ?_
  cases hf
  exact z_iret C hr hk dX11_must_10
def f_X11_must_60 (K25 : St → Nat → Int32 → Int32 → Int32 → Int32 → Option (St × Int32)) (z : St) (o0 : Nat) (x1 : Int32) (x2 : Int32) (x4 : Int32) (s0 : Int32) (s1 : Int32) : Option (St × Int32) :=
  K25 z o0 x1 x2 (s0 ||| s1) (x4 + 1)
theorem b_X11_must_60 {p : Program} {l : Launch} {e : Env} {s : State} {m : MethodId} {args : Array Value} {below : List Frame} {meth : Method} {c : Code} {g : Ga} {A : Nat → Prop} (C : Cx l g A p s m args c cX11_must 5 RX11 (rm_X11_must) (0, 0)) (hr : meth.sig.returnType = (some .int)) (hk : meth.locks = false) {K25 : St → Nat → Int32 → Int32 → Int32 → Int32 → Option (St × Int32)} (hK25 : ∀ (z : St) (o0 : Nat) (x1 : Int32) (x2 : Int32) (x3 : Int32) (x4 : Int32) (_ : kd o0 = 11) {res : St × Int32}, K25 z o0 x1 x2 x3 x4 = some res → Zj p l e (rm_X11_must) s m args below meth c g A 5 (0, 0) (QI g A below args s res) z 25 [(0, .ref (g.1 o0)), (1, .int x1), (2, .int x2), (3, .int x3), (4, .int x4)] []) (z : St) (o0 : Nat) (x1 : Int32) (x2 : Int32) (x4 : Int32) (s0 : Int32) (s1 : Int32) (ho0 : kd o0 = 11) {res : St × Int32} (hf : f_X11_must_60 K25 z o0 x1 x2 x4 s0 s1 = some res) : Zj p l e (rm_X11_must) s m args below meth c g A 5 (0, 0) (QI g A below args s res) z 60 [(0, .ref (g.1 o0)), (1, .int x1), (2, .int x2), (4, .int x4)] [.int s1, .int s0] := by
  unfold f_X11_must_60 at hf
  refine z_ior C dX11_must_60 ?_
  refine z_istore_n C (lv2 := [(3, .int (s0 ||| s1)), (0, .ref (g.1 o0)), (1, .int x1), (2, .int x2), (4, .int x4)]) dX11_must_61 rfl (by decide) rfl ?_
  refine z_iinc C (k := 4) (v := x4 + 1) (lv2 := [(4, .int (x4 + 1)), (3, .int (s0 ||| s1)), (0, .ref (g.1 o0)), (1, .int x1), (2, .int x2)]) dX11_must_62 rfl rfl (by decide) rfl ?_
  exact z_goto C dX11_must_65 (by decide) (z_sub [2, 3, 4, 1, 0] rfl (hK25 z o0 x1 x2 (s0 ||| s1) (x4 + 1) ho0 hf))
def f_X11_must_52 (K25 : St → Nat → Int32 → Int32 → Int32 → Int32 → Option (St × Int32)) (z : St) (o0 : Nat) (x1 : Int32) (x2 : Int32) (x4 : Int32) (s0 : Int32) : Option (St × Int32) :=
  f_X11_must_60 K25 z o0 x1 x2 x4 s0 ((1 : Int32) <<< (x4 &&& 31))
theorem b_X11_must_52 {p : Program} {l : Launch} {e : Env} {s : State} {m : MethodId} {args : Array Value} {below : List Frame} {meth : Method} {c : Code} {g : Ga} {A : Nat → Prop} (C : Cx l g A p s m args c cX11_must 5 RX11 (rm_X11_must) (0, 0)) (hr : meth.sig.returnType = (some .int)) (hk : meth.locks = false) {K25 : St → Nat → Int32 → Int32 → Int32 → Int32 → Option (St × Int32)} (hK25 : ∀ (z : St) (o0 : Nat) (x1 : Int32) (x2 : Int32) (x3 : Int32) (x4 : Int32) (_ : kd o0 = 11) {res : St × Int32}, K25 z o0 x1 x2 x3 x4 = some res → Zj p l e (rm_X11_must) s m args below meth c g A 5 (0, 0) (QI g A below args s res) z 25 [(0, .ref (g.1 o0)), (1, .int x1), (2, .int x2), (3, .int x3), (4, .int x4)] []) (z : St) (o0 : Nat) (x1 : Int32) (x2 : Int32) (x4 : Int32) (s0 : Int32) (ho0 : kd o0 = 11) {res : St × Int32} (hf : f_X11_must_52 K25 z o0 x1 x2 x4 s0 = some res) : Zj p l e (rm_X11_must) s m args below meth c g A 5 (0, 0) (QI g A below args s res) z 52 [(0, .ref (g.1 o0)), (1, .int x1), (2, .int x2), (4, .int x4)] [.int s0] := by
  unfold f_X11_must_52 at hf
  refine z_iconst C dX11_must_52 (v := 1) (by decide) ?_
  refine z_iload C dX11_must_53 3 rfl ?_
  refine z_ishl C dX11_must_55 ?_
  exact z_goto C dX11_must_56 (by decide) (z_sub [0, 1, 2, 3] rfl (b_X11_must_60 C hr hk hK25 z o0 x1 x2 x4 s0 ((1 : Int32) <<< (x4 &&& 31)) ho0 hf))
def f_X11_must_59 (K25 : St → Nat → Int32 → Int32 → Int32 → Int32 → Option (St × Int32)) (z : St) (o0 : Nat) (x1 : Int32) (x2 : Int32) (x4 : Int32) (s0 : Int32) : Option (St × Int32) :=
  f_X11_must_60 K25 z o0 x1 x2 x4 s0 0
theorem b_X11_must_59 {p : Program} {l : Launch} {e : Env} {s : State} {m : MethodId} {args : Array Value} {below : List Frame} {meth : Method} {c : Code} {g : Ga} {A : Nat → Prop} (C : Cx l g A p s m args c cX11_must 5 RX11 (rm_X11_must) (0, 0)) (hr : meth.sig.returnType = (some .int)) (hk : meth.locks = false) {K25 : St → Nat → Int32 → Int32 → Int32 → Int32 → Option (St × Int32)} (hK25 : ∀ (z : St) (o0 : Nat) (x1 : Int32) (x2 : Int32) (x3 : Int32) (x4 : Int32) (_ : kd o0 = 11) {res : St × Int32}, K25 z o0 x1 x2 x3 x4 = some res → Zj p l e (rm_X11_must) s m args below meth c g A 5 (0, 0) (QI g A below args s res) z 25 [(0, .ref (g.1 o0)), (1, .int x1), (2, .int x2), (3, .int x3), (4, .int x4)] []) (z : St) (o0 : Nat) (x1 : Int32) (x2 : Int32) (x4 : Int32) (s0 : Int32) (ho0 : kd o0 = 11) {res : St × Int32} (hf : f_X11_must_59 K25 z o0 x1 x2 x4 s0 = some res) : Zj p l e (rm_X11_must) s m args below meth c g A 5 (0, 0) (QI g A below args s res) z 59 [(0, .ref (g.1 o0)), (1, .int x1), (2, .int x2), (4, .int x4)] [.int s0] := by
  unfold f_X11_must_59 at hf
  refine z_iconst C dX11_must_59 (v := 0) (by decide) ?_
  exact z_sub [0, 1, 2, 3] rfl (b_X11_must_60 C hr hk hK25 z o0 x1 x2 x4 s0 0 ho0 hf)
def f_X11_must_41 (K25 : St → Nat → Int32 → Int32 → Int32 → Int32 → Option (St × Int32)) (z : St) (o0 : Nat) (x1 : Int32) (x2 : Int32) (x4 : Int32) (s0 : Int32) : Option (St × Int32) :=
  ((f_X11_mayBeAhead z o0 x1 x4 x2).bind fun r1 => if r1.2 = 0 then f_X11_must_52 K25 r1.1 o0 x1 x2 x4 s0 else f_X11_must_59 K25 r1.1 o0 x1 x2 x4 s0)
theorem b_X11_must_41 {p : Program} {l : Launch} {e : Env} {s : State} {m : MethodId} {args : Array Value} {below : List Frame} {meth : Method} {c : Code} {g : Ga} {A : Nat → Prop} (C : Cx l g A p s m args c cX11_must 5 RX11 (rm_X11_must) (0, 0)) (hr : meth.sig.returnType = (some .int)) (hk : meth.locks = false) {K25 : St → Nat → Int32 → Int32 → Int32 → Int32 → Option (St × Int32)} (hK25 : ∀ (z : St) (o0 : Nat) (x1 : Int32) (x2 : Int32) (x3 : Int32) (x4 : Int32) (_ : kd o0 = 11) {res : St × Int32}, K25 z o0 x1 x2 x3 x4 = some res → Zj p l e (rm_X11_must) s m args below meth c g A 5 (0, 0) (QI g A below args s res) z 25 [(0, .ref (g.1 o0)), (1, .int x1), (2, .int x2), (3, .int x3), (4, .int x4)] []) (z : St) (o0 : Nat) (x1 : Int32) (x2 : Int32) (x4 : Int32) (s0 : Int32) (ho0 : kd o0 = 11) {res : St × Int32} (hf : f_X11_must_41 K25 z o0 x1 x2 x4 s0 = some res) : Zj p l e (rm_X11_must) s m args below meth c g A 5 (0, 0) (QI g A below args s res) z 41 [(0, .ref (g.1 o0)), (1, .int x1), (2, .int x2), (4, .int x4)] [.int s0] := by
  unfold f_X11_must_41 at hf
  refine z_aload_n C dX11_must_41 rfl 0 rfl ?_
  refine z_iload_n C dX11_must_42 rfl 1 rfl ?_
  refine z_iload C dX11_must_43 3 rfl ?_
  refine z_iload_n C dX11_must_45 rfl 2 rfl ?_
  obtain ⟨r1, hc2, hf⟩ := q_bd hf
  refine z_cVi C (st := [.int s0]) (c_X11_mayBeAhead ho0 hc2) mw_X11_mayBeAhead ml_X11_299 ho0 (by decide) rfl dX11_must_46 rfl rfl rfl ⟨Nat.le_of_ble_eq_true rfl, Nat.le_of_ble_eq_true rfl⟩ rfl (Nat.le_of_ble_eq_true rfl) ?_
  exact z_if_ne C dX11_must_49 (by decide) (fun h => z_sub [0, 1, 2, 3] rfl (b_X11_must_59 C hr hk hK25 r1.1 o0 x1 x2 x4 s0 ho0 (q_f hf h))) (fun h => z_sub [0, 1, 2, 3] rfl (b_X11_must_52 C hr hk hK25 r1.1 o0 x1 x2 x4 s0 ho0 (q_t hf h)))
def f_X11_must_34 (K25 : St → Nat → Int32 → Int32 → Int32 → Int32 → Option (St × Int32)) (z : St) (o0 : Nat) (x1 : Int32) (x2 : Int32) (x3 : Int32) (x4 : Int32) : Option (St × Int32) :=
  if x4 = x1 then f_X11_must_59 K25 z o0 x1 x2 x4 x3 else f_X11_must_41 K25 z o0 x1 x2 x4 x3
theorem b_X11_must_34 {p : Program} {l : Launch} {e : Env} {s : State} {m : MethodId} {args : Array Value} {below : List Frame} {meth : Method} {c : Code} {g : Ga} {A : Nat → Prop} (C : Cx l g A p s m args c cX11_must 5 RX11 (rm_X11_must) (0, 0)) (hr : meth.sig.returnType = (some .int)) (hk : meth.locks = false) {K25 : St → Nat → Int32 → Int32 → Int32 → Int32 → Option (St × Int32)} (hK25 : ∀ (z : St) (o0 : Nat) (x1 : Int32) (x2 : Int32) (x3 : Int32) (x4 : Int32) (_ : kd o0 = 11) {res : St × Int32}, K25 z o0 x1 x2 x3 x4 = some res → Zj p l e (rm_X11_must) s m args below meth c g A 5 (0, 0) (QI g A below args s res) z 25 [(0, .ref (g.1 o0)), (1, .int x1), (2, .int x2), (3, .int x3), (4, .int x4)] []) (z : St) (o0 : Nat) (x1 : Int32) (x2 : Int32) (x3 : Int32) (x4 : Int32) (ho0 : kd o0 = 11) {res : St × Int32} (hf : f_X11_must_34 K25 z o0 x1 x2 x3 x4 = some res) : Zj p l e (rm_X11_must) s m args below meth c g A 5 (0, 0) (QI g A below args s res) z 34 [(0, .ref (g.1 o0)), (1, .int x1), (2, .int x2), (3, .int x3), (4, .int x4)] [] := by
  unfold f_X11_must_34 at hf
  refine z_iload_n C dX11_must_34 rfl 3 rfl ?_
  refine z_iload C dX11_must_35 4 rfl ?_
  refine z_iload_n C dX11_must_37 rfl 1 rfl ?_
  exact z_icmp_eq C dX11_must_38 (by decide) (fun h => z_sub [0, 1, 2, 4] rfl (b_X11_must_59 C hr hk hK25 z o0 x1 x2 x4 x3 ho0 (q_t hf h))) (fun h => z_sub [0, 1, 2, 4] rfl (b_X11_must_41 C hr hk hK25 z o0 x1 x2 x4 x3 ho0 (q_f hf h)))
def f_X11_must_68  (z : St) (x3 : Int32) : Option (St × Int32) :=
  some (z, x3)
theorem b_X11_must_68 {p : Program} {l : Launch} {e : Env} {s : State} {m : MethodId} {args : Array Value} {below : List Frame} {meth : Method} {c : Code} {g : Ga} {A : Nat → Prop} (C : Cx l g A p s m args c cX11_must 5 RX11 (rm_X11_must) (0, 0)) (hr : meth.sig.returnType = (some .int)) (hk : meth.locks = false)   (z : St) (x3 : Int32)  {res : St × Int32} (hf : f_X11_must_68  z x3 = some res) : Zj p l e (rm_X11_must) s m args below meth c g A 5 (0, 0) (QI g A below args s res) z 68 [(3, .int x3)] [] := by
  unfold f_X11_must_68 at hf
  refine z_iload_n C dX11_must_68 rfl 0 rfl ?_
  cases hf
  exact z_iret C hr hk dX11_must_69
def f_X11_must_25  : Nat → St → Nat → Int32 → Int32 → Int32 → Int32 → Option (St × Int32)
  | 0, _, _, _, _, _, _ => none
  | n + 1, z, o0, x1, x2, x3, x4 => if (z.1 o0 5) ≤ x4 then f_X11_must_68 z x3 else f_X11_must_34 (f_X11_must_25 n) z o0 x1 x2 x3 x4
theorem b_X11_must_25 {p : Program} {l : Launch} {e : Env} {s : State} {m : MethodId} {args : Array Value} {below : List Frame} {meth : Method} {c : Code} {g : Ga} {A : Nat → Prop} (C : Cx l g A p s m args c cX11_must 5 RX11 (rm_X11_must) (0, 0)) (hr : meth.sig.returnType = (some .int)) (hk : meth.locks = false)   : ∀ (n : Nat) (z : St) (o0 : Nat) (x1 : Int32) (x2 : Int32) (x3 : Int32) (x4 : Int32) (_ : kd o0 = 11) {res : St × Int32} (_ : f_X11_must_25  n z o0 x1 x2 x3 x4 = some res), Zj p l e (rm_X11_must) s m args below meth c g A 5 (0, 0) (QI g A below args s res) z 25 [(0, .ref (g.1 o0)), (1, .int x1), (2, .int x2), (3, .int x3), (4, .int x4)] [] := by
  intro n
  induction n with
  | zero =>
    intro z o0 x1 x2 x3 x4 ho0 res hf
    cases hf
  | succ n ih =>
    intro z o0 x1 x2 x3 x4 ho0 res hf
    rw [f_X11_must_25] at hf
    refine z_iload C dX11_must_25 4 rfl ?_
    refine z_aload_n C dX11_must_27 rfl 0 rfl ?_
    refine gf_X11_111 C dX11_must_28 ho0 ?_
    exact z_icmp_ge C dX11_must_31 (by decide) (fun h => z_sub [3] rfl (b_X11_must_68 C hr hk z x3 (q_t hf h))) (fun h => z_sub [0, 1, 2, 3, 4] rfl (b_X11_must_34 C hr hk ih z o0 x1 x2 x3 x4 ho0 (q_f hf h)))
def f_X11_must_11  (z : St) (o0 : Nat) (x1 : Int32) : Option (St × Int32) :=
  ((f_X11_thinks z o0).bind fun r1 => ((f_X11_leastNow r1 o0).bind fun r3 => f_X11_must_25 FU r3.1 o0 x1 r3.2 0 0))
theorem b_X11_must_11 {p : Program} {l : Launch} {e : Env} {s : State} {m : MethodId} {args : Array Value} {below : List Frame} {meth : Method} {c : Code} {g : Ga} {A : Nat → Prop} (C : Cx l g A p s m args c cX11_must 5 RX11 (rm_X11_must) (0, 0)) (hr : meth.sig.returnType = (some .int)) (hk : meth.locks = false)   (z : St) (o0 : Nat) (x1 : Int32) (ho0 : kd o0 = 11) {res : St × Int32} (hf : f_X11_must_11  z o0 x1 = some res) : Zj p l e (rm_X11_must) s m args below meth c g A 5 (0, 0) (QI g A below args s res) z 11 [(0, .ref (g.1 o0)), (1, .int x1)] [] := by
  unfold f_X11_must_11 at hf
  refine z_aload_n C dX11_must_11 rfl 0 rfl ?_
  obtain ⟨r1, hc2, hf⟩ := q_bd hf
  refine z_cVv C (st := []) (c_X11_thinks ho0 hc2) mw_X11_thinks ml_X11_205 ho0 (by decide) rfl dX11_must_12 rfl rfl rfl ⟨Nat.le_of_ble_eq_true rfl, Nat.le_of_ble_eq_true rfl⟩ rfl (Nat.le_of_ble_eq_true rfl) ?_
  refine z_aload_n C dX11_must_15 rfl 0 rfl ?_
  obtain ⟨r3, hc4, hf⟩ := q_bd hf
  refine z_cVi C (st := []) (c_X11_leastNow ho0 hc4) mw_X11_leastNow ml_X11_289 ho0 (by decide) rfl dX11_must_16 rfl rfl rfl ⟨Nat.le_of_ble_eq_true rfl, Nat.le_of_ble_eq_true rfl⟩ rfl (Nat.le_of_ble_eq_true rfl) ?_
  refine z_istore_n C (lv2 := [(2, .int r3.2), (0, .ref (g.1 o0)), (1, .int x1)]) dX11_must_19 rfl (by decide) rfl ?_
  refine z_iconst C dX11_must_20 (v := 0) (by decide) ?_
  refine z_istore_n C (lv2 := [(3, .int 0), (2, .int r3.2), (0, .ref (g.1 o0)), (1, .int x1)]) dX11_must_21 rfl (by decide) rfl ?_
  refine z_iconst C dX11_must_22 (v := 0) (by decide) ?_
  refine z_istore C (lv2 := [(4, .int 0), (3, .int 0), (2, .int r3.2), (0, .ref (g.1 o0)), (1, .int x1)]) dX11_must_23 (by decide) rfl ?_
  exact z_sub [3, 4, 2, 1, 0] rfl (b_X11_must_25 C hr hk FU r3.1 o0 x1 r3.2 0 0 ho0 hf)
def f_X11_must_0  (z : St) (o0 : Nat) (x1 : Int32) : Option (St × Int32) :=
  ((f_X11_isJob z o0 x1).bind fun r1 => if r1.2 = 0 then f_X11_must_8 r1.1 else f_X11_must_11 r1.1 o0 x1)
theorem b_X11_must_0 {p : Program} {l : Launch} {e : Env} {s : State} {m : MethodId} {args : Array Value} {below : List Frame} {meth : Method} {c : Code} {g : Ga} {A : Nat → Prop} (C : Cx l g A p s m args c cX11_must 5 RX11 (rm_X11_must) (0, 0)) (hr : meth.sig.returnType = (some .int)) (hk : meth.locks = false)   (z : St) (o0 : Nat) (x1 : Int32) (ho0 : kd o0 = 11) {res : St × Int32} (hf : f_X11_must_0  z o0 x1 = some res) : Zj p l e (rm_X11_must) s m args below meth c g A 5 (0, 0) (QI g A below args s res) z 0 [(0, .ref (g.1 o0)), (1, .int x1)] [] := by
  unfold f_X11_must_0 at hf
  refine z_aload_n C dX11_must_0 rfl 0 rfl ?_
  refine z_iload_n C dX11_must_1 rfl 1 rfl ?_
  obtain ⟨r1, hc2, hf⟩ := q_bd hf
  refine z_cVi C (st := []) (c_X11_isJob ho0 hc2) mw_X11_isJob ml_X11_148 ho0 (by decide) rfl dX11_must_2 rfl rfl rfl ⟨Nat.le_of_ble_eq_true rfl, Nat.le_of_ble_eq_true rfl⟩ rfl (Nat.le_of_ble_eq_true rfl) ?_
  exact z_if_ne C dX11_must_5 (by decide) (fun h => z_sub [0, 1] rfl (b_X11_must_11 C hr hk r1.1 o0 x1 ho0 (q_f hf h))) (fun h => z_sub [] rfl (b_X11_must_8 C hr hk r1.1 (q_t hf h)))
def f_X11_must (z : St) (o0 : Nat) (x1 : Int32) : Option (St × Int32) := f_X11_must_0 z o0 x1
theorem c_X11_must {l : Launch} {g : Ga} {A : Nat → Prop} {z : St} {o0 : Nat} {x1 : Int32} (ho0 : kd o0 = 11) {res : St × Int32} (hf : f_X11_must z o0 x1 = some res) : CI l g A yX11_must cX11_must 5 (some .int) rm_X11_must [.ref (g.1 o0), .int x1] z res :=
  e_CI (by decide) (Nat.le_of_ble_eq_true rfl) rfl (fun p e s m args below meth c C hr hk => z_sub [0, 1] rfl (b_X11_must_0 C hr hk z o0 x1 ho0 hf))
abbrev rm_X11_room : Room := { frames := 5, cells := 0, slots := 0, locals := 113 }
def f_X11_room_8  (z : St)  : Option (St × Int32) :=
  some (z, (-2))
theorem b_X11_room_8 {p : Program} {l : Launch} {e : Env} {s : State} {m : MethodId} {args : Array Value} {below : List Frame} {meth : Method} {c : Code} {g : Ga} {A : Nat → Prop} (C : Cx l g A p s m args c cX11_room 7 RX11 (rm_X11_room) (0, 0)) (hr : meth.sig.returnType = (some .int)) (hk : meth.locks = false)   (z : St)   {res : St × Int32} (hf : f_X11_room_8  z  = some res) : Zj p l e (rm_X11_room) s m args below meth c g A 7 (0, 0) (QI g A below args s res) z 8 [] [] := by
  unfold f_X11_room_8 at hf
  refine z_bipush C dX11_room_8 (v := (-2)) (by decide) ?_
  cases hf
  exact z_iret C hr hk dX11_room_10
def f_X11_room_85 (K34 : St → Nat → Int32 → Int32 → Int32 → Int32 → Int32 → Option (St × Int32)) (z : St) (o0 : Nat) (x1 : Int32) (x2 : Int32) (x3 : Int32) (x4 : Int32) (x5 : Int32) : Option (St × Int32) :=
  K34 z o0 x1 x2 x3 x4 x5
theorem b_X11_room_85 {p : Program} {l : Launch} {e : Env} {s : State} {m : MethodId} {args : Array Value} {below : List Frame} {meth : Method} {c : Code} {g : Ga} {A : Nat → Prop} (C : Cx l g A p s m args c cX11_room 7 RX11 (rm_X11_room) (0, 0)) (hr : meth.sig.returnType = (some .int)) (hk : meth.locks = false) {K34 : St → Nat → Int32 → Int32 → Int32 → Int32 → Int32 → Option (St × Int32)} (hK34 : ∀ (z : St) (o0 : Nat) (x1 : Int32) (x2 : Int32) (x3 : Int32) (x4 : Int32) (x5 : Int32) (_ : kd o0 = 11) {res : St × Int32}, K34 z o0 x1 x2 x3 x4 x5 = some res → Zj p l e (rm_X11_room) s m args below meth c g A 7 (0, 0) (QI g A below args s res) z 34 [(0, .ref (g.1 o0)), (1, .int x1), (2, .int x2), (3, .int x3), (4, .int x4), (5, .int x5)] []) (z : St) (o0 : Nat) (x1 : Int32) (x2 : Int32) (x3 : Int32) (x4 : Int32) (x5 : Int32) (ho0 : kd o0 = 11) {res : St × Int32} (hf : f_X11_room_85 K34 z o0 x1 x2 x3 x4 x5 = some res) : Zj p l e (rm_X11_room) s m args below meth c g A 7 (0, 0) (QI g A below args s res) z 85 [(0, .ref (g.1 o0)), (1, .int x1), (2, .int x2), (3, .int x3), (4, .int x4), (5, .int x5)] [] := by
  unfold f_X11_room_85 at hf
  exact z_goto C dX11_room_85 (by decide) (z_sub [0, 1, 2, 3, 4, 5] rfl (hK34 z o0 x1 x2 x3 x4 x5 ho0 hf))
def f_X11_room_74 (K34 : St → Nat → Int32 → Int32 → Int32 → Int32 → Int32 → Option (St × Int32)) (z : St) (o0 : Nat) (x1 : Int32) (x2 : Int32) (x3 : Int32) (x5 : Int32) (x6 : Int32) : Option (St × Int32) :=
  f_X11_room_85 K34 z o0 x1 x2 x3 x6 x5
theorem b_X11_room_74 {p : Program} {l : Launch} {e : Env} {s : State} {m : MethodId} {args : Array Value} {below : List Frame} {meth : Method} {c : Code} {g : Ga} {A : Nat → Prop} (C : Cx l g A p s m args c cX11_room 7 RX11 (rm_X11_room) (0, 0)) (hr : meth.sig.returnType = (some .int)) (hk : meth.locks = false) {K34 : St → Nat → Int32 → Int32 → Int32 → Int32 → Int32 → Option (St × Int32)} (hK34 : ∀ (z : St) (o0 : Nat) (x1 : Int32) (x2 : Int32) (x3 : Int32) (x4 : Int32) (x5 : Int32) (_ : kd o0 = 11) {res : St × Int32}, K34 z o0 x1 x2 x3 x4 x5 = some res → Zj p l e (rm_X11_room) s m args below meth c g A 7 (0, 0) (QI g A below args s res) z 34 [(0, .ref (g.1 o0)), (1, .int x1), (2, .int x2), (3, .int x3), (4, .int x4), (5, .int x5)] []) (z : St) (o0 : Nat) (x1 : Int32) (x2 : Int32) (x3 : Int32) (x5 : Int32) (x6 : Int32) (ho0 : kd o0 = 11) {res : St × Int32} (hf : f_X11_room_74 K34 z o0 x1 x2 x3 x5 x6 = some res) : Zj p l e (rm_X11_room) s m args below meth c g A 7 (0, 0) (QI g A below args s res) z 74 [(0, .ref (g.1 o0)), (1, .int x1), (2, .int x2), (3, .int x3), (5, .int x5), (6, .int x6)] [] := by
  unfold f_X11_room_74 at hf
  refine z_iload C dX11_room_74 5 rfl ?_
  refine z_istore C (lv2 := [(4, .int x6), (0, .ref (g.1 o0)), (1, .int x1), (2, .int x2), (3, .int x3), (5, .int x5), (6, .int x6)]) dX11_room_76 (by decide) rfl ?_
  exact z_goto C dX11_room_78 (by decide) (z_sub [1, 2, 3, 4, 0, 5] rfl (b_X11_room_85 C hr hk hK34 z o0 x1 x2 x3 x6 x5 ho0 hf))
def f_X11_room_81 (K34 : St → Nat → Int32 → Int32 → Int32 → Int32 → Int32 → Option (St × Int32)) (z : St) (o0 : Nat) (x1 : Int32) (x2 : Int32) (x3 : Int32) (x4 : Int32) (x6 : Int32) : Option (St × Int32) :=
  f_X11_room_85 K34 z o0 x1 x2 x3 x4 x6
theorem b_X11_room_81 {p : Program} {l : Launch} {e : Env} {s : State} {m : MethodId} {args : Array Value} {below : List Frame} {meth : Method} {c : Code} {g : Ga} {A : Nat → Prop} (C : Cx l g A p s m args c cX11_room 7 RX11 (rm_X11_room) (0, 0)) (hr : meth.sig.returnType = (some .int)) (hk : meth.locks = false) {K34 : St → Nat → Int32 → Int32 → Int32 → Int32 → Int32 → Option (St × Int32)} (hK34 : ∀ (z : St) (o0 : Nat) (x1 : Int32) (x2 : Int32) (x3 : Int32) (x4 : Int32) (x5 : Int32) (_ : kd o0 = 11) {res : St × Int32}, K34 z o0 x1 x2 x3 x4 x5 = some res → Zj p l e (rm_X11_room) s m args below meth c g A 7 (0, 0) (QI g A below args s res) z 34 [(0, .ref (g.1 o0)), (1, .int x1), (2, .int x2), (3, .int x3), (4, .int x4), (5, .int x5)] []) (z : St) (o0 : Nat) (x1 : Int32) (x2 : Int32) (x3 : Int32) (x4 : Int32) (x6 : Int32) (ho0 : kd o0 = 11) {res : St × Int32} (hf : f_X11_room_81 K34 z o0 x1 x2 x3 x4 x6 = some res) : Zj p l e (rm_X11_room) s m args below meth c g A 7 (0, 0) (QI g A below args s res) z 81 [(0, .ref (g.1 o0)), (1, .int x1), (2, .int x2), (3, .int x3), (4, .int x4), (6, .int x6)] [] := by
  unfold f_X11_room_81 at hf
  refine z_iload C dX11_room_81 5 rfl ?_
  refine z_istore C (lv2 := [(5, .int x6), (0, .ref (g.1 o0)), (1, .int x1), (2, .int x2), (3, .int x3), (4, .int x4), (6, .int x6)]) dX11_room_83 (by decide) rfl ?_
  exact z_sub [1, 2, 3, 4, 5, 0] rfl (b_X11_room_85 C hr hk hK34 z o0 x1 x2 x3 x4 x6 ho0 hf)
def f_X11_room_43 (K34 : St → Nat → Int32 → Int32 → Int32 → Int32 → Int32 → Option (St × Int32)) (z : St) (o0 : Nat) (x1 : Int32) (x2 : Int32) (x3 : Int32) (x4 : Int32) (x5 : Int32) : Option (St × Int32) :=
  if inb x1 8 = true then (((f_X11_all (zI z (rf o0 13) (Int32.toNatClampNeg x1) (x3 + ((x4 + x5) / 2))) o0).bind fun r2 => ((f_X11_fits r2.1 o0 r2.2 x2).bind fun r4 => if r4.2 = 0 then f_X11_room_81 K34 r4.1 o0 x1 x2 x3 x4 ((x4 + x5) / 2) else f_X11_room_74 K34 r4.1 o0 x1 x2 x3 x5 ((x4 + x5) / 2)))) else none
theorem b_X11_room_43 {p : Program} {l : Launch} {e : Env} {s : State} {m : MethodId} {args : Array Value} {below : List Frame} {meth : Method} {c : Code} {g : Ga} {A : Nat → Prop} (C : Cx l g A p s m args c cX11_room 7 RX11 (rm_X11_room) (0, 0)) (hr : meth.sig.returnType = (some .int)) (hk : meth.locks = false) {K34 : St → Nat → Int32 → Int32 → Int32 → Int32 → Int32 → Option (St × Int32)} (hK34 : ∀ (z : St) (o0 : Nat) (x1 : Int32) (x2 : Int32) (x3 : Int32) (x4 : Int32) (x5 : Int32) (_ : kd o0 = 11) {res : St × Int32}, K34 z o0 x1 x2 x3 x4 x5 = some res → Zj p l e (rm_X11_room) s m args below meth c g A 7 (0, 0) (QI g A below args s res) z 34 [(0, .ref (g.1 o0)), (1, .int x1), (2, .int x2), (3, .int x3), (4, .int x4), (5, .int x5)] []) (z : St) (o0 : Nat) (x1 : Int32) (x2 : Int32) (x3 : Int32) (x4 : Int32) (x5 : Int32) (ho0 : kd o0 = 11) {res : St × Int32} (hf : f_X11_room_43 K34 z o0 x1 x2 x3 x4 x5 = some res) : Zj p l e (rm_X11_room) s m args below meth c g A 7 (0, 0) (QI g A below args s res) z 43 [(0, .ref (g.1 o0)), (1, .int x1), (2, .int x2), (3, .int x3), (4, .int x4), (5, .int x5)] [] := by
  unfold f_X11_room_43 at hf
  refine z_iload C dX11_room_43 4 rfl ?_
  refine z_iload C dX11_room_45 5 rfl ?_
  refine z_iadd C dX11_room_47 ?_
  refine z_iconst C dX11_room_48 (v := 2) (by decide) ?_
  refine z_idiv C dX11_room_49 (by decide) ?_
  refine z_istore C (lv2 := [(6, .int ((x4 + x5) / 2)), (0, .ref (g.1 o0)), (1, .int x1), (2, .int x2), (3, .int x3), (4, .int x4), (5, .int x5)]) dX11_room_50 (by decide) rfl ?_
  refine z_aload_n C dX11_room_52 rfl 1 rfl ?_
  refine gf_X11_28 C dX11_room_53 ho0 ?_
  refine z_iload_n C dX11_room_56 rfl 2 rfl ?_
  refine z_iload_n C dX11_room_57 rfl 4 rfl ?_
  refine z_iload C dX11_room_58 0 rfl ?_
  refine z_iadd C dX11_room_60 ?_
  obtain ⟨h1, hf⟩ := q_ck hf
  refine z_iast C (n := 8) dX11_room_61 (rt_11_13 _ (kd_lt ho0 (by decide)) ho0) (by decide) h1 ?_
  refine z_aload_n C dX11_room_62 rfl 1 rfl ?_
  refine z_aload_n C dX11_room_63 rfl 1 rfl ?_
  obtain ⟨r2, hc3, hf⟩ := q_bd hf
  refine z_cVi C (st := [.ref (g.1 o0)]) (c_X11_all ho0 hc3) mw_X11_all ml_X11_283 ho0 (by decide) rfl dX11_room_64 rfl rfl rfl ⟨Nat.le_of_ble_eq_true rfl, Nat.le_of_ble_eq_true rfl⟩ rfl (Nat.le_of_ble_eq_true rfl) ?_
  refine z_iload_n C dX11_room_67 rfl 3 rfl ?_
  obtain ⟨r4, hc5, hf⟩ := q_bd hf
  refine z_cVi C (st := []) (c_X11_fits ho0 hc5) mw_X11_fits ml_X11_280 ho0 (by decide) rfl dX11_room_68 rfl rfl rfl ⟨Nat.le_of_ble_eq_true rfl, Nat.le_of_ble_eq_true rfl⟩ rfl (Nat.le_of_ble_eq_true rfl) ?_
  exact z_if_eq C dX11_room_71 (by decide) (fun h => z_sub [1, 2, 3, 4, 5, 0] rfl (b_X11_room_81 C hr hk hK34 r4.1 o0 x1 x2 x3 x4 ((x4 + x5) / 2) ho0 (q_t hf h))) (fun h => z_sub [1, 2, 3, 4, 6, 0] rfl (b_X11_room_74 C hr hk hK34 r4.1 o0 x1 x2 x3 x5 ((x4 + x5) / 2) ho0 (q_f hf h)))
def f_X11_room_88  (z : St) (x4 : Int32) : Option (St × Int32) :=
  some (z, x4)
theorem b_X11_room_88 {p : Program} {l : Launch} {e : Env} {s : State} {m : MethodId} {args : Array Value} {below : List Frame} {meth : Method} {c : Code} {g : Ga} {A : Nat → Prop} (C : Cx l g A p s m args c cX11_room 7 RX11 (rm_X11_room) (0, 0)) (hr : meth.sig.returnType = (some .int)) (hk : meth.locks = false)   (z : St) (x4 : Int32)  {res : St × Int32} (hf : f_X11_room_88  z x4 = some res) : Zj p l e (rm_X11_room) s m args below meth c g A 7 (0, 0) (QI g A below args s res) z 88 [(4, .int x4)] [] := by
  unfold f_X11_room_88 at hf
  refine z_iload C dX11_room_88 0 rfl ?_
  cases hf
  exact z_iret C hr hk dX11_room_90
def f_X11_room_34  : Nat → St → Nat → Int32 → Int32 → Int32 → Int32 → Int32 → Option (St × Int32)
  | 0, _, _, _, _, _, _, _ => none
  | n + 1, z, o0, x1, x2, x3, x4, x5 => if x5 ≤ (x4 + 1) then f_X11_room_88 z x4 else f_X11_room_43 (f_X11_room_34 n) z o0 x1 x2 x3 x4 x5
theorem b_X11_room_34 {p : Program} {l : Launch} {e : Env} {s : State} {m : MethodId} {args : Array Value} {below : List Frame} {meth : Method} {c : Code} {g : Ga} {A : Nat → Prop} (C : Cx l g A p s m args c cX11_room 7 RX11 (rm_X11_room) (0, 0)) (hr : meth.sig.returnType = (some .int)) (hk : meth.locks = false)   : ∀ (n : Nat) (z : St) (o0 : Nat) (x1 : Int32) (x2 : Int32) (x3 : Int32) (x4 : Int32) (x5 : Int32) (_ : kd o0 = 11) {res : St × Int32} (_ : f_X11_room_34  n z o0 x1 x2 x3 x4 x5 = some res), Zj p l e (rm_X11_room) s m args below meth c g A 7 (0, 0) (QI g A below args s res) z 34 [(0, .ref (g.1 o0)), (1, .int x1), (2, .int x2), (3, .int x3), (4, .int x4), (5, .int x5)] [] := by
  intro n
  induction n with
  | zero =>
    intro z o0 x1 x2 x3 x4 x5 ho0 res hf
    cases hf
  | succ n ih =>
    intro z o0 x1 x2 x3 x4 x5 ho0 res hf
    rw [f_X11_room_34] at hf
    refine z_iload C dX11_room_34 4 rfl ?_
    refine z_iconst C dX11_room_36 (v := 1) (by decide) ?_
    refine z_iadd C dX11_room_37 ?_
    refine z_iload C dX11_room_38 5 rfl ?_
    exact z_icmp_ge C dX11_room_40 (by decide) (fun h => z_sub [4] rfl (b_X11_room_88 C hr hk z x4 (q_t hf h))) (fun h => z_sub [0, 1, 2, 3, 4, 5] rfl (b_X11_room_43 C hr hk ih z o0 x1 x2 x3 x4 x5 ho0 (q_f hf h)))
def f_X11_room_11  (z : St) (o0 : Nat) (x1 : Int32) : Option (St × Int32) :=
  ((f_X11_thinks z o0).bind fun r1 => ((f_X11_leastNow r1 o0).bind fun r3 => if inb x1 8 = true then (f_X11_room_34 FU r3.1 o0 x1 r3.2 (r3.1.1 (rf o0 13) (Int32.toNatClampNeg x1)) 0 100) else none))
theorem b_X11_room_11 {p : Program} {l : Launch} {e : Env} {s : State} {m : MethodId} {args : Array Value} {below : List Frame} {meth : Method} {c : Code} {g : Ga} {A : Nat → Prop} (C : Cx l g A p s m args c cX11_room 7 RX11 (rm_X11_room) (0, 0)) (hr : meth.sig.returnType = (some .int)) (hk : meth.locks = false)   (z : St) (o0 : Nat) (x1 : Int32) (ho0 : kd o0 = 11) {res : St × Int32} (hf : f_X11_room_11  z o0 x1 = some res) : Zj p l e (rm_X11_room) s m args below meth c g A 7 (0, 0) (QI g A below args s res) z 11 [(0, .ref (g.1 o0)), (1, .int x1)] [] := by
  unfold f_X11_room_11 at hf
  refine z_aload_n C dX11_room_11 rfl 0 rfl ?_
  obtain ⟨r1, hc2, hf⟩ := q_bd hf
  refine z_cVv C (st := []) (c_X11_thinks ho0 hc2) mw_X11_thinks ml_X11_205 ho0 (by decide) rfl dX11_room_12 rfl rfl rfl ⟨Nat.le_of_ble_eq_true rfl, Nat.le_of_ble_eq_true rfl⟩ rfl (Nat.le_of_ble_eq_true rfl) ?_
  refine z_aload_n C dX11_room_15 rfl 0 rfl ?_
  obtain ⟨r3, hc4, hf⟩ := q_bd hf
  refine z_cVi C (st := []) (c_X11_leastNow ho0 hc4) mw_X11_leastNow ml_X11_289 ho0 (by decide) rfl dX11_room_16 rfl rfl rfl ⟨Nat.le_of_ble_eq_true rfl, Nat.le_of_ble_eq_true rfl⟩ rfl (Nat.le_of_ble_eq_true rfl) ?_
  refine z_istore_n C (lv2 := [(2, .int r3.2), (0, .ref (g.1 o0)), (1, .int x1)]) dX11_room_19 rfl (by decide) rfl ?_
  refine z_aload_n C dX11_room_20 rfl 1 rfl ?_
  refine gf_X11_28 C dX11_room_21 ho0 ?_
  refine z_iload_n C dX11_room_24 rfl 2 rfl ?_
  obtain ⟨h5, hf⟩ := q_ck hf
  refine z_iald C (n := 8) dX11_room_25 (rt_11_13 _ (kd_lt ho0 (by decide)) ho0) (by decide) h5 ?_
  refine z_istore_n C (lv2 := [(3, .int (r3.1.1 (rf o0 13) (Int32.toNatClampNeg x1))), (2, .int r3.2), (0, .ref (g.1 o0)), (1, .int x1)]) dX11_room_26 rfl (by decide) rfl ?_
  refine z_iconst C dX11_room_27 (v := 0) (by decide) ?_
  refine z_istore C (lv2 := [(4, .int 0), (3, .int (r3.1.1 (rf o0 13) (Int32.toNatClampNeg x1))), (2, .int r3.2), (0, .ref (g.1 o0)), (1, .int x1)]) dX11_room_28 (by decide) rfl ?_
  refine z_bipush C dX11_room_30 (v := 100) (by decide) ?_
  refine z_istore C (lv2 := [(5, .int 100), (4, .int 0), (3, .int (r3.1.1 (rf o0 13) (Int32.toNatClampNeg x1))), (2, .int r3.2), (0, .ref (g.1 o0)), (1, .int x1)]) dX11_room_32 (by decide) rfl ?_
  exact z_sub [4, 5, 3, 2, 1, 0] rfl (b_X11_room_34 C hr hk FU r3.1 o0 x1 r3.2 (r3.1.1 (rf o0 13) (Int32.toNatClampNeg x1)) 0 100 ho0 hf)
def f_X11_room_0  (z : St) (o0 : Nat) (x1 : Int32) : Option (St × Int32) :=
  ((f_X11_isJob z o0 x1).bind fun r1 => if r1.2 = 0 then f_X11_room_8 r1.1 else f_X11_room_11 r1.1 o0 x1)
theorem b_X11_room_0 {p : Program} {l : Launch} {e : Env} {s : State} {m : MethodId} {args : Array Value} {below : List Frame} {meth : Method} {c : Code} {g : Ga} {A : Nat → Prop} (C : Cx l g A p s m args c cX11_room 7 RX11 (rm_X11_room) (0, 0)) (hr : meth.sig.returnType = (some .int)) (hk : meth.locks = false)   (z : St) (o0 : Nat) (x1 : Int32) (ho0 : kd o0 = 11) {res : St × Int32} (hf : f_X11_room_0  z o0 x1 = some res) : Zj p l e (rm_X11_room) s m args below meth c g A 7 (0, 0) (QI g A below args s res) z 0 [(0, .ref (g.1 o0)), (1, .int x1)] [] := by
  unfold f_X11_room_0 at hf
  refine z_aload_n C dX11_room_0 rfl 0 rfl ?_
  refine z_iload_n C dX11_room_1 rfl 1 rfl ?_
  obtain ⟨r1, hc2, hf⟩ := q_bd hf
  refine z_cVi C (st := []) (c_X11_isJob ho0 hc2) mw_X11_isJob ml_X11_148 ho0 (by decide) rfl dX11_room_2 rfl rfl rfl ⟨Nat.le_of_ble_eq_true rfl, Nat.le_of_ble_eq_true rfl⟩ rfl (Nat.le_of_ble_eq_true rfl) ?_
  exact z_if_ne C dX11_room_5 (by decide) (fun h => z_sub [0, 1] rfl (b_X11_room_11 C hr hk r1.1 o0 x1 ho0 (q_f hf h))) (fun h => z_sub [] rfl (b_X11_room_8 C hr hk r1.1 (q_t hf h)))
def f_X11_room (z : St) (o0 : Nat) (x1 : Int32) : Option (St × Int32) := f_X11_room_0 z o0 x1
theorem c_X11_room {l : Launch} {g : Ga} {A : Nat → Prop} {z : St} {o0 : Nat} {x1 : Int32} (ho0 : kd o0 = 11) {res : St × Int32} (hf : f_X11_room z o0 x1 = some res) : CI l g A yX11_room cX11_room 7 (some .int) rm_X11_room [.ref (g.1 o0), .int x1] z res :=
  e_CI (by decide) (Nat.le_of_ble_eq_true rfl) rfl (fun p e s m args below meth c C hr hk => z_sub [0, 1] rfl (b_X11_room_0 C hr hk z o0 x1 ho0 hf))
