abbrev rm_X11_chosen : Room := { frames := 1, cells := 0, slots := 0, locals := 22 }
def f_X11_chosen_51 (K5 : St → Nat → Int32 → Int32 → Int32 → Int32 → Option (St × Int32)) (z : St) (o0 : Nat) (x1 : Int32) (x2 : Int32) (x3 : Int32) (x4 : Int32) : Option (St × Int32) :=
  K5 z o0 x1 x2 x3 (x4 + 1)
theorem b_X11_chosen_51 {p : Program} {l : Launch} {e : Env} {s : State} {m : MethodId} {args : Array Value} {below : List Frame} {meth : Method} {c : Code} {g : Ga} {A : Nat → Prop} (C : Cx l g A p s m args c cX11_chosen 5 RX11 (rm_X11_chosen) (0, 0)) (hr : meth.sig.returnType = (some .int)) (hk : meth.locks = false) {K5 : St → Nat → Int32 → Int32 → Int32 → Int32 → Option (St × Int32)} (hK5 : ∀ (z : St) (o0 : Nat) (x1 : Int32) (x2 : Int32) (x3 : Int32) (x4 : Int32) (_ : kd o0 = 11) {res : St × Int32}, K5 z o0 x1 x2 x3 x4 = some res → Zj p l e (rm_X11_chosen) s m args below meth c g A 5 (0, 0) (QI g A below args s res) z 5 [(0, .ref (g.1 o0)), (1, .int x1), (2, .int x2), (3, .int x3), (4, .int x4)] []) (z : St) (o0 : Nat) (x1 : Int32) (x2 : Int32) (x3 : Int32) (x4 : Int32) (ho0 : kd o0 = 11) {res : St × Int32} (hf : f_X11_chosen_51 K5 z o0 x1 x2 x3 x4 = some res) : Zj p l e (rm_X11_chosen) s m args below meth c g A 5 (0, 0) (QI g A below args s res) z 51 [(0, .ref (g.1 o0)), (1, .int x1), (2, .int x2), (3, .int x3), (4, .int x4)] [] := by
  unfold f_X11_chosen_51 at hf
  refine z_iinc C (k := 4) (v := x4 + 1) (lv2 := [(4, .int (x4 + 1)), (0, .ref (g.1 o0)), (1, .int x1), (2, .int x2), (3, .int x3)]) dX11_chosen_51 rfl rfl (by decide) rfl ?_
  exact z_goto C dX11_chosen_54 (by decide) (z_sub [1, 2, 3, 4, 0] rfl (hK5 z o0 x1 x2 x3 (x4 + 1) ho0 hf))
def f_X11_chosen_48 (K5 : St → Nat → Int32 → Int32 → Int32 → Int32 → Option (St × Int32)) (z : St) (o0 : Nat) (x1 : Int32) (x2 : Int32) (x4 : Int32) : Option (St × Int32) :=
  f_X11_chosen_51 K5 z o0 x1 x2 x4 x4
theorem b_X11_chosen_48 {p : Program} {l : Launch} {e : Env} {s : State} {m : MethodId} {args : Array Value} {below : List Frame} {meth : Method} {c : Code} {g : Ga} {A : Nat → Prop} (C : Cx l g A p s m args c cX11_chosen 5 RX11 (rm_X11_chosen) (0, 0)) (hr : meth.sig.returnType = (some .int)) (hk : meth.locks = false) {K5 : St → Nat → Int32 → Int32 → Int32 → Int32 → Option (St × Int32)} (hK5 : ∀ (z : St) (o0 : Nat) (x1 : Int32) (x2 : Int32) (x3 : Int32) (x4 : Int32) (_ : kd o0 = 11) {res : St × Int32}, K5 z o0 x1 x2 x3 x4 = some res → Zj p l e (rm_X11_chosen) s m args below meth c g A 5 (0, 0) (QI g A below args s res) z 5 [(0, .ref (g.1 o0)), (1, .int x1), (2, .int x2), (3, .int x3), (4, .int x4)] []) (z : St) (o0 : Nat) (x1 : Int32) (x2 : Int32) (x4 : Int32) (ho0 : kd o0 = 11) {res : St × Int32} (hf : f_X11_chosen_48 K5 z o0 x1 x2 x4 = some res) : Zj p l e (rm_X11_chosen) s m args below meth c g A 5 (0, 0) (QI g A below args s res) z 48 [(0, .ref (g.1 o0)), (1, .int x1), (2, .int x2), (4, .int x4)] [] := by
  unfold f_X11_chosen_48 at hf
  refine z_iload C dX11_chosen_48 3 rfl ?_
  refine z_istore_n C (lv2 := [(3, .int x4), (0, .ref (g.1 o0)), (1, .int x1), (2, .int x2), (4, .int x4)]) dX11_chosen_50 rfl (by decide) rfl ?_
  exact z_sub [1, 2, 3, 0, 4] rfl (b_X11_chosen_51 C hr hk hK5 z o0 x1 x2 x4 x4 ho0 hf)
def f_X11_chosen_38 (K5 : St → Nat → Int32 → Int32 → Int32 → Int32 → Option (St × Int32)) (z : St) (o0 : Nat) (x1 : Int32) (x2 : Int32) (x3 : Int32) (x4 : Int32) : Option (St × Int32) :=
  ((f_X11_isAhead z o0 x4 x3).bind fun r1 => if r1.2 = 0 then f_X11_chosen_51 K5 r1.1 o0 x1 x2 x3 x4 else f_X11_chosen_48 K5 r1.1 o0 x1 x2 x4)
theorem b_X11_chosen_38 {p : Program} {l : Launch} {e : Env} {s : State} {m : MethodId} {args : Array Value} {below : List Frame} {meth : Method} {c : Code} {g : Ga} {A : Nat → Prop} (C : Cx l g A p s m args c cX11_chosen 5 RX11 (rm_X11_chosen) (0, 0)) (hr : meth.sig.returnType = (some .int)) (hk : meth.locks = false) {K5 : St → Nat → Int32 → Int32 → Int32 → Int32 → Option (St × Int32)} (hK5 : ∀ (z : St) (o0 : Nat) (x1 : Int32) (x2 : Int32) (x3 : Int32) (x4 : Int32) (_ : kd o0 = 11) {res : St × Int32}, K5 z o0 x1 x2 x3 x4 = some res → Zj p l e (rm_X11_chosen) s m args below meth c g A 5 (0, 0) (QI g A below args s res) z 5 [(0, .ref (g.1 o0)), (1, .int x1), (2, .int x2), (3, .int x3), (4, .int x4)] []) (z : St) (o0 : Nat) (x1 : Int32) (x2 : Int32) (x3 : Int32) (x4 : Int32) (ho0 : kd o0 = 11) {res : St × Int32} (hf : f_X11_chosen_38 K5 z o0 x1 x2 x3 x4 = some res) : Zj p l e (rm_X11_chosen) s m args below meth c g A 5 (0, 0) (QI g A below args s res) z 38 [(0, .ref (g.1 o0)), (1, .int x1), (2, .int x2), (3, .int x3), (4, .int x4)] [] := by
  unfold f_X11_chosen_38 at hf
  refine z_aload_n C dX11_chosen_38 rfl 0 rfl ?_
  refine z_iload C dX11_chosen_39 4 rfl ?_
  refine z_iload_n C dX11_chosen_41 rfl 3 rfl ?_
  obtain ⟨r1, hc2, hf⟩ := q_bd hf
  refine z_cVi C (st := []) (c_X11_isAhead ho0 hc2) mw_X11_isAhead ml_X11_190 ho0 (by decide) rfl dX11_chosen_42 rfl rfl rfl ⟨Nat.le_of_ble_eq_true rfl, Nat.le_of_ble_eq_true rfl⟩ rfl (Nat.le_of_ble_eq_true rfl) ?_
  exact z_if_eq C dX11_chosen_45 (by decide) (fun h => z_sub [0, 1, 2, 3, 4] rfl (b_X11_chosen_51 C hr hk hK5 r1.1 o0 x1 x2 x3 x4 ho0 (q_t hf h))) (fun h => z_sub [0, 1, 2, 4] rfl (b_X11_chosen_48 C hr hk hK5 r1.1 o0 x1 x2 x4 ho0 (q_f hf h)))
def f_X11_chosen_34 (K5 : St → Nat → Int32 → Int32 → Int32 → Int32 → Option (St × Int32)) (z : St) (o0 : Nat) (x1 : Int32) (x2 : Int32) (x3 : Int32) (x4 : Int32) : Option (St × Int32) :=
  if x3 < 0 then f_X11_chosen_48 K5 z o0 x1 x2 x4 else f_X11_chosen_38 K5 z o0 x1 x2 x3 x4
theorem b_X11_chosen_34 {p : Program} {l : Launch} {e : Env} {s : State} {m : MethodId} {args : Array Value} {below : List Frame} {meth : Method} {c : Code} {g : Ga} {A : Nat → Prop} (C : Cx l g A p s m args c cX11_chosen 5 RX11 (rm_X11_chosen) (0, 0)) (hr : meth.sig.returnType = (some .int)) (hk : meth.locks = false) {K5 : St → Nat → Int32 → Int32 → Int32 → Int32 → Option (St × Int32)} (hK5 : ∀ (z : St) (o0 : Nat) (x1 : Int32) (x2 : Int32) (x3 : Int32) (x4 : Int32) (_ : kd o0 = 11) {res : St × Int32}, K5 z o0 x1 x2 x3 x4 = some res → Zj p l e (rm_X11_chosen) s m args below meth c g A 5 (0, 0) (QI g A below args s res) z 5 [(0, .ref (g.1 o0)), (1, .int x1), (2, .int x2), (3, .int x3), (4, .int x4)] []) (z : St) (o0 : Nat) (x1 : Int32) (x2 : Int32) (x3 : Int32) (x4 : Int32) (ho0 : kd o0 = 11) {res : St × Int32} (hf : f_X11_chosen_34 K5 z o0 x1 x2 x3 x4 = some res) : Zj p l e (rm_X11_chosen) s m args below meth c g A 5 (0, 0) (QI g A below args s res) z 34 [(0, .ref (g.1 o0)), (1, .int x1), (2, .int x2), (3, .int x3), (4, .int x4)] [] := by
  unfold f_X11_chosen_34 at hf
  refine z_iload_n C dX11_chosen_34 rfl 3 rfl ?_
  exact z_if_lt C dX11_chosen_35 (by decide) (fun h => z_sub [0, 1, 2, 4] rfl (b_X11_chosen_48 C hr hk hK5 z o0 x1 x2 x4 ho0 (q_t hf h))) (fun h => z_sub [0, 1, 2, 3, 4] rfl (b_X11_chosen_38 C hr hk hK5 z o0 x1 x2 x3 x4 ho0 (q_f hf h)))
def f_X11_chosen_23 (K5 : St → Nat → Int32 → Int32 → Int32 → Int32 → Option (St × Int32)) (z : St) (o0 : Nat) (x1 : Int32) (x2 : Int32) (x3 : Int32) (x4 : Int32) : Option (St × Int32) :=
  if inb x4 8 = true then (if x1 < (z.1 (rf o0 13) (Int32.toNatClampNeg x4)) then f_X11_chosen_51 K5 z o0 x1 x2 x3 x4 else f_X11_chosen_34 K5 z o0 x1 x2 x3 x4) else none
theorem b_X11_chosen_23 {p : Program} {l : Launch} {e : Env} {s : State} {m : MethodId} {args : Array Value} {below : List Frame} {meth : Method} {c : Code} {g : Ga} {A : Nat → Prop} (C : Cx l g A p s m args c cX11_chosen 5 RX11 (rm_X11_chosen) (0, 0)) (hr : meth.sig.returnType = (some .int)) (hk : meth.locks = false) {K5 : St → Nat → Int32 → Int32 → Int32 → Int32 → Option (St × Int32)} (hK5 : ∀ (z : St) (o0 : Nat) (x1 : Int32) (x2 : Int32) (x3 : Int32) (x4 : Int32) (_ : kd o0 = 11) {res : St × Int32}, K5 z o0 x1 x2 x3 x4 = some res → Zj p l e (rm_X11_chosen) s m args below meth c g A 5 (0, 0) (QI g A below args s res) z 5 [(0, .ref (g.1 o0)), (1, .int x1), (2, .int x2), (3, .int x3), (4, .int x4)] []) (z : St) (o0 : Nat) (x1 : Int32) (x2 : Int32) (x3 : Int32) (x4 : Int32) (ho0 : kd o0 = 11) {res : St × Int32} (hf : f_X11_chosen_23 K5 z o0 x1 x2 x3 x4 = some res) : Zj p l e (rm_X11_chosen) s m args below meth c g A 5 (0, 0) (QI g A below args s res) z 23 [(0, .ref (g.1 o0)), (1, .int x1), (2, .int x2), (3, .int x3), (4, .int x4)] [] := by
  unfold f_X11_chosen_23 at hf
  refine z_aload_n C dX11_chosen_23 rfl 0 rfl ?_
  refine gf_X11_28 C dX11_chosen_24 ho0 ?_
  refine z_iload C dX11_chosen_27 4 rfl ?_
  obtain ⟨h1, hf⟩ := q_ck hf
  refine z_iald C (n := 8) dX11_chosen_29 (rt_11_13 _ (kd_lt ho0 (by decide)) ho0) (by decide) h1 ?_
  refine z_iload_n C dX11_chosen_30 rfl 1 rfl ?_
  exact z_icmp_gt C dX11_chosen_31 (by decide) (fun h => z_sub [0, 1, 2, 3, 4] rfl (b_X11_chosen_51 C hr hk hK5 z o0 x1 x2 x3 x4 ho0 (q_t hf h))) (fun h => z_sub [0, 1, 2, 3, 4] rfl (b_X11_chosen_34 C hr hk hK5 z o0 x1 x2 x3 x4 ho0 (q_f hf h)))
def f_X11_chosen_14 (K5 : St → Nat → Int32 → Int32 → Int32 → Int32 → Option (St × Int32)) (z : St) (o0 : Nat) (x1 : Int32) (x2 : Int32) (x3 : Int32) (x4 : Int32) : Option (St × Int32) :=
  if ((x2 >>> (x4 &&& 31)) &&& 1) = 0 then f_X11_chosen_23 K5 z o0 x1 x2 x3 x4 else f_X11_chosen_51 K5 z o0 x1 x2 x3 x4
theorem b_X11_chosen_14 {p : Program} {l : Launch} {e : Env} {s : State} {m : MethodId} {args : Array Value} {below : List Frame} {meth : Method} {c : Code} {g : Ga} {A : Nat → Prop} (C : Cx l g A p s m args c cX11_chosen 5 RX11 (rm_X11_chosen) (0, 0)) (hr : meth.sig.returnType = (some .int)) (hk : meth.locks = false) {K5 : St → Nat → Int32 → Int32 → Int32 → Int32 → Option (St × Int32)} (hK5 : ∀ (z : St) (o0 : Nat) (x1 : Int32) (x2 : Int32) (x3 : Int32) (x4 : Int32) (_ : kd o0 = 11) {res : St × Int32}, K5 z o0 x1 x2 x3 x4 = some res → Zj p l e (rm_X11_chosen) s m args below meth c g A 5 (0, 0) (QI g A below args s res) z 5 [(0, .ref (g.1 o0)), (1, .int x1), (2, .int x2), (3, .int x3), (4, .int x4)] []) (z : St) (o0 : Nat) (x1 : Int32) (x2 : Int32) (x3 : Int32) (x4 : Int32) (ho0 : kd o0 = 11) {res : St × Int32} (hf : f_X11_chosen_14 K5 z o0 x1 x2 x3 x4 = some res) : Zj p l e (rm_X11_chosen) s m args below meth c g A 5 (0, 0) (QI g A below args s res) z 14 [(0, .ref (g.1 o0)), (1, .int x1), (2, .int x2), (3, .int x3), (4, .int x4)] [] := by
  unfold f_X11_chosen_14 at hf
  refine z_iload_n C dX11_chosen_14 rfl 2 rfl ?_
  refine z_iload C dX11_chosen_15 4 rfl ?_
  refine z_ishr C dX11_chosen_17 ?_
  refine z_iconst C dX11_chosen_18 (v := 1) (by decide) ?_
  refine z_iand C dX11_chosen_19 ?_
  exact z_if_ne C dX11_chosen_20 (by decide) (fun h => z_sub [0, 1, 2, 3, 4] rfl (b_X11_chosen_51 C hr hk hK5 z o0 x1 x2 x3 x4 ho0 (q_f hf h))) (fun h => z_sub [0, 1, 2, 3, 4] rfl (b_X11_chosen_23 C hr hk hK5 z o0 x1 x2 x3 x4 ho0 (q_t hf h)))
def f_X11_chosen_57  (z : St) (x3 : Int32) : Option (St × Int32) :=
  some (z, x3)
theorem b_X11_chosen_57 {p : Program} {l : Launch} {e : Env} {s : State} {m : MethodId} {args : Array Value} {below : List Frame} {meth : Method} {c : Code} {g : Ga} {A : Nat → Prop} (C : Cx l g A p s m args c cX11_chosen 5 RX11 (rm_X11_chosen) (0, 0)) (hr : meth.sig.returnType = (some .int)) (hk : meth.locks = false)   (z : St) (x3 : Int32)  {res : St × Int32} (hf : f_X11_chosen_57  z x3 = some res) : Zj p l e (rm_X11_chosen) s m args below meth c g A 5 (0, 0) (QI g A below args s res) z 57 [(3, .int x3)] [] := by
  unfold f_X11_chosen_57 at hf
  refine z_iload_n C dX11_chosen_57 rfl 0 rfl ?_
  cases hf
  exact z_iret C hr hk dX11_chosen_58
def f_X11_chosen_5  : Nat → St → Nat → Int32 → Int32 → Int32 → Int32 → Option (St × Int32)
  | 0, _, _, _, _, _, _ => none
  | n + 1, z, o0, x1, x2, x3, x4 => if (z.1 o0 5) ≤ x4 then f_X11_chosen_57 z x3 else f_X11_chosen_14 (f_X11_chosen_5 n) z o0 x1 x2 x3 x4
theorem b_X11_chosen_5 {p : Program} {l : Launch} {e : Env} {s : State} {m : MethodId} {args : Array Value} {below : List Frame} {meth : Method} {c : Code} {g : Ga} {A : Nat → Prop} (C : Cx l g A p s m args c cX11_chosen 5 RX11 (rm_X11_chosen) (0, 0)) (hr : meth.sig.returnType = (some .int)) (hk : meth.locks = false)   : ∀ (n : Nat) (z : St) (o0 : Nat) (x1 : Int32) (x2 : Int32) (x3 : Int32) (x4 : Int32) (_ : kd o0 = 11) {res : St × Int32} (_ : f_X11_chosen_5  n z o0 x1 x2 x3 x4 = some res), Zj p l e (rm_X11_chosen) s m args below meth c g A 5 (0, 0) (QI g A below args s res) z 5 [(0, .ref (g.1 o0)), (1, .int x1), (2, .int x2), (3, .int x3), (4, .int x4)] [] := by
  intro n
  induction n with
  | zero =>
    intro z o0 x1 x2 x3 x4 ho0 res hf
    cases hf
  | succ n ih =>
    intro z o0 x1 x2 x3 x4 ho0 res hf
    rw [f_X11_chosen_5] at hf
    refine z_iload C dX11_chosen_5 4 rfl ?_
    refine z_aload_n C dX11_chosen_7 rfl 0 rfl ?_
    refine gf_X11_111 C dX11_chosen_8 ho0 ?_
    exact z_icmp_ge C dX11_chosen_11 (by decide) (fun h => z_sub [3] rfl (b_X11_chosen_57 C hr hk z x3 (q_t hf h))) (fun h => z_sub [0, 1, 2, 3, 4] rfl (b_X11_chosen_14 C hr hk ih z o0 x1 x2 x3 x4 ho0 (q_f hf h)))
def f_X11_chosen_0  (z : St) (o0 : Nat) (x1 : Int32) (x2 : Int32) : Option (St × Int32) :=
  f_X11_chosen_5 FU z o0 x1 x2 ((-1)) 0
theorem b_X11_chosen_0 {p : Program} {l : Launch} {e : Env} {s : State} {m : MethodId} {args : Array Value} {below : List Frame} {meth : Method} {c : Code} {g : Ga} {A : Nat → Prop} (C : Cx l g A p s m args c cX11_chosen 5 RX11 (rm_X11_chosen) (0, 0)) (hr : meth.sig.returnType = (some .int)) (hk : meth.locks = false)   (z : St) (o0 : Nat) (x1 : Int32) (x2 : Int32) (ho0 : kd o0 = 11) {res : St × Int32} (hf : f_X11_chosen_0  z o0 x1 x2 = some res) : Zj p l e (rm_X11_chosen) s m args below meth c g A 5 (0, 0) (QI g A below args s res) z 0 [(0, .ref (g.1 o0)), (1, .int x1), (2, .int x2)] [] := by
  unfold f_X11_chosen_0 at hf
  refine z_iconst C dX11_chosen_0 (v := (-1)) (by decide) ?_
  refine z_istore_n C (lv2 := [(3, .int ((-1))), (0, .ref (g.1 o0)), (1, .int x1), (2, .int x2)]) dX11_chosen_1 rfl (by decide) rfl ?_
  refine z_iconst C dX11_chosen_2 (v := 0) (by decide) ?_
  refine z_istore C (lv2 := [(4, .int 0), (3, .int ((-1))), (0, .ref (g.1 o0)), (1, .int x1), (2, .int x2)]) dX11_chosen_3 (by decide) rfl ?_
  exact z_sub [2, 3, 4, 1, 0] rfl (b_X11_chosen_5 C hr hk FU z o0 x1 x2 ((-1)) 0 ho0 hf)
def f_X11_chosen (z : St) (o0 : Nat) (x1 : Int32) (x2 : Int32) : Option (St × Int32) := f_X11_chosen_0 z o0 x1 x2
theorem c_X11_chosen {l : Launch} {g : Ga} {A : Nat → Prop} {z : St} {o0 : Nat} {x1 : Int32} {x2 : Int32} (ho0 : kd o0 = 11) {res : St × Int32} (hf : f_X11_chosen z o0 x1 x2 = some res) : CI l g A yX11_chosen cX11_chosen 5 (some .int) rm_X11_chosen [.ref (g.1 o0), .int x1, .int x2] z res :=
  e_CI (by decide) (Nat.le_of_ble_eq_true rfl) rfl (fun p e s m args below meth c C hr hk => z_sub [0, 1, 2] rfl (b_X11_chosen_0 C hr hk z o0 x1 x2 ho0 hf))
abbrev rm_X11_nextCome : Room := { frames := 1, cells := 0, slots := 0, locals := 21 }
def f_X11_nextCome_33 (K6 : St → Nat → Int32 → Int32 → Int32 → Option (St × Int32)) (z : St) (o0 : Nat) (x1 : Int32) (x2 : Int32) (x3 : Int32) : Option (St × Int32) :=
  K6 z o0 x1 x2 (x3 + 1)
theorem b_X11_nextCome_33 {p : Program} {l : Launch} {e : Env} {s : State} {m : MethodId} {args : Array Value} {below : List Frame} {meth : Method} {c : Code} {g : Ga} {A : Nat → Prop} (C : Cx l g A p s m args c cX11_nextCome 4 RX11 (rm_X11_nextCome) (0, 0)) (hr : meth.sig.returnType = (some .int)) (hk : meth.locks = false) {K6 : St → Nat → Int32 → Int32 → Int32 → Option (St × Int32)} (hK6 : ∀ (z : St) (o0 : Nat) (x1 : Int32) (x2 : Int32) (x3 : Int32) (_ : kd o0 = 11) {res : St × Int32}, K6 z o0 x1 x2 x3 = some res → Zj p l e (rm_X11_nextCome) s m args below meth c g A 4 (0, 0) (QI g A below args s res) z 6 [(0, .ref (g.1 o0)), (1, .int x1), (2, .int x2), (3, .int x3)] []) (z : St) (o0 : Nat) (x1 : Int32) (x2 : Int32) (x3 : Int32) (ho0 : kd o0 = 11) {res : St × Int32} (hf : f_X11_nextCome_33 K6 z o0 x1 x2 x3 = some res) : Zj p l e (rm_X11_nextCome) s m args below meth c g A 4 (0, 0) (QI g A below args s res) z 33 [(0, .ref (g.1 o0)), (1, .int x1), (2, .int x2), (3, .int x3)] [] := by
  unfold f_X11_nextCome_33 at hf
  refine z_iinc C (k := 3) (v := x3 + 1) (lv2 := [(3, .int (x3 + 1)), (0, .ref (g.1 o0)), (1, .int x1), (2, .int x2)]) dX11_nextCome_33 rfl rfl (by decide) rfl ?_
  exact z_goto C dX11_nextCome_36 (by decide) (z_sub [1, 2, 3, 0] rfl (hK6 z o0 x1 x2 (x3 + 1) ho0 hf))
def f_X11_nextCome_22 (K6 : St → Nat → Int32 → Int32 → Int32 → Option (St × Int32)) (z : St) (o0 : Nat) (x1 : Int32) (x2 : Int32) (x3 : Int32) : Option (St × Int32) :=
  if inb x3 8 = true then (f_X11_nextCome_33 K6 z o0 x1 (imin x2 (z.1 (rf o0 13) (Int32.toNatClampNeg x3))) x3) else none
theorem b_X11_nextCome_22 {p : Program} {l : Launch} {e : Env} {s : State} {m : MethodId} {args : Array Value} {below : List Frame} {meth : Method} {c : Code} {g : Ga} {A : Nat → Prop} (C : Cx l g A p s m args c cX11_nextCome 4 RX11 (rm_X11_nextCome) (0, 0)) (hr : meth.sig.returnType = (some .int)) (hk : meth.locks = false) {K6 : St → Nat → Int32 → Int32 → Int32 → Option (St × Int32)} (hK6 : ∀ (z : St) (o0 : Nat) (x1 : Int32) (x2 : Int32) (x3 : Int32) (_ : kd o0 = 11) {res : St × Int32}, K6 z o0 x1 x2 x3 = some res → Zj p l e (rm_X11_nextCome) s m args below meth c g A 4 (0, 0) (QI g A below args s res) z 6 [(0, .ref (g.1 o0)), (1, .int x1), (2, .int x2), (3, .int x3)] []) (z : St) (o0 : Nat) (x1 : Int32) (x2 : Int32) (x3 : Int32) (ho0 : kd o0 = 11) {res : St × Int32} (hf : f_X11_nextCome_22 K6 z o0 x1 x2 x3 = some res) : Zj p l e (rm_X11_nextCome) s m args below meth c g A 4 (0, 0) (QI g A below args s res) z 22 [(0, .ref (g.1 o0)), (1, .int x1), (2, .int x2), (3, .int x3)] [] := by
  unfold f_X11_nextCome_22 at hf
  refine z_iload_n C dX11_nextCome_22 rfl 2 rfl ?_
  refine z_aload_n C dX11_nextCome_23 rfl 0 rfl ?_
  refine gf_X11_28 C dX11_nextCome_24 ho0 ?_
  refine z_iload_n C dX11_nextCome_27 rfl 3 rfl ?_
  obtain ⟨h1, hf⟩ := q_ck hf
  refine z_iald C (n := 8) dX11_nextCome_28 (rt_11_13 _ (kd_lt ho0 (by decide)) ho0) (by decide) h1 ?_
  refine z_mmin C (st := []) dX11_nextCome_29 ml_X11_193 mm_min.1 mm_i mm_min.2 ⟨Nat.le_of_ble_eq_true rfl, Nat.le_of_ble_eq_true rfl⟩ (Nat.le_of_ble_eq_true rfl) ?_
  refine z_istore_n C (lv2 := [(2, .int (imin x2 (z.1 (rf o0 13) (Int32.toNatClampNeg x3)))), (0, .ref (g.1 o0)), (1, .int x1), (3, .int x3)]) dX11_nextCome_32 rfl (by decide) rfl ?_
  exact z_sub [1, 2, 0, 3] rfl (b_X11_nextCome_33 C hr hk hK6 z o0 x1 (imin x2 (z.1 (rf o0 13) (Int32.toNatClampNeg x3))) x3 ho0 hf)
def f_X11_nextCome_14 (K6 : St → Nat → Int32 → Int32 → Int32 → Option (St × Int32)) (z : St) (o0 : Nat) (x1 : Int32) (x2 : Int32) (x3 : Int32) : Option (St × Int32) :=
  if ((x1 >>> (x3 &&& 31)) &&& 1) = 0 then f_X11_nextCome_22 K6 z o0 x1 x2 x3 else f_X11_nextCome_33 K6 z o0 x1 x2 x3
theorem b_X11_nextCome_14 {p : Program} {l : Launch} {e : Env} {s : State} {m : MethodId} {args : Array Value} {below : List Frame} {meth : Method} {c : Code} {g : Ga} {A : Nat → Prop} (C : Cx l g A p s m args c cX11_nextCome 4 RX11 (rm_X11_nextCome) (0, 0)) (hr : meth.sig.returnType = (some .int)) (hk : meth.locks = false) {K6 : St → Nat → Int32 → Int32 → Int32 → Option (St × Int32)} (hK6 : ∀ (z : St) (o0 : Nat) (x1 : Int32) (x2 : Int32) (x3 : Int32) (_ : kd o0 = 11) {res : St × Int32}, K6 z o0 x1 x2 x3 = some res → Zj p l e (rm_X11_nextCome) s m args below meth c g A 4 (0, 0) (QI g A below args s res) z 6 [(0, .ref (g.1 o0)), (1, .int x1), (2, .int x2), (3, .int x3)] []) (z : St) (o0 : Nat) (x1 : Int32) (x2 : Int32) (x3 : Int32) (ho0 : kd o0 = 11) {res : St × Int32} (hf : f_X11_nextCome_14 K6 z o0 x1 x2 x3 = some res) : Zj p l e (rm_X11_nextCome) s m args below meth c g A 4 (0, 0) (QI g A below args s res) z 14 [(0, .ref (g.1 o0)), (1, .int x1), (2, .int x2), (3, .int x3)] [] := by
  unfold f_X11_nextCome_14 at hf
  refine z_iload_n C dX11_nextCome_14 rfl 1 rfl ?_
  refine z_iload_n C dX11_nextCome_15 rfl 3 rfl ?_
  refine z_ishr C dX11_nextCome_16 ?_
  refine z_iconst C dX11_nextCome_17 (v := 1) (by decide) ?_
  refine z_iand C dX11_nextCome_18 ?_
  exact z_if_ne C dX11_nextCome_19 (by decide) (fun h => z_sub [0, 1, 2, 3] rfl (b_X11_nextCome_33 C hr hk hK6 z o0 x1 x2 x3 ho0 (q_f hf h))) (fun h => z_sub [0, 1, 2, 3] rfl (b_X11_nextCome_22 C hr hk hK6 z o0 x1 x2 x3 ho0 (q_t hf h)))
def f_X11_nextCome_39  (z : St) (x2 : Int32) : Option (St × Int32) :=
  some (z, x2)
theorem b_X11_nextCome_39 {p : Program} {l : Launch} {e : Env} {s : State} {m : MethodId} {args : Array Value} {below : List Frame} {meth : Method} {c : Code} {g : Ga} {A : Nat → Prop} (C : Cx l g A p s m args c cX11_nextCome 4 RX11 (rm_X11_nextCome) (0, 0)) (hr : meth.sig.returnType = (some .int)) (hk : meth.locks = false)   (z : St) (x2 : Int32)  {res : St × Int32} (hf : f_X11_nextCome_39  z x2 = some res) : Zj p l e (rm_X11_nextCome) s m args below meth c g A 4 (0, 0) (QI g A below args s res) z 39 [(2, .int x2)] [] := by
  unfold f_X11_nextCome_39 at hf
  refine z_iload_n C dX11_nextCome_39 rfl 0 rfl ?_
  cases hf
  exact z_iret C hr hk dX11_nextCome_40
def f_X11_nextCome_6  : Nat → St → Nat → Int32 → Int32 → Int32 → Option (St × Int32)
  | 0, _, _, _, _, _ => none
  | n + 1, z, o0, x1, x2, x3 => if (z.1 o0 5) ≤ x3 then f_X11_nextCome_39 z x2 else f_X11_nextCome_14 (f_X11_nextCome_6 n) z o0 x1 x2 x3
theorem b_X11_nextCome_6 {p : Program} {l : Launch} {e : Env} {s : State} {m : MethodId} {args : Array Value} {below : List Frame} {meth : Method} {c : Code} {g : Ga} {A : Nat → Prop} (C : Cx l g A p s m args c cX11_nextCome 4 RX11 (rm_X11_nextCome) (0, 0)) (hr : meth.sig.returnType = (some .int)) (hk : meth.locks = false)   : ∀ (n : Nat) (z : St) (o0 : Nat) (x1 : Int32) (x2 : Int32) (x3 : Int32) (_ : kd o0 = 11) {res : St × Int32} (_ : f_X11_nextCome_6  n z o0 x1 x2 x3 = some res), Zj p l e (rm_X11_nextCome) s m args below meth c g A 4 (0, 0) (QI g A below args s res) z 6 [(0, .ref (g.1 o0)), (1, .int x1), (2, .int x2), (3, .int x3)] [] := by
  intro n
  induction n with
  | zero =>
    intro z o0 x1 x2 x3 ho0 res hf
    cases hf
  | succ n ih =>
    intro z o0 x1 x2 x3 ho0 res hf
    rw [f_X11_nextCome_6] at hf
    refine z_iload_n C dX11_nextCome_6 rfl 3 rfl ?_
    refine z_aload_n C dX11_nextCome_7 rfl 0 rfl ?_
    refine gf_X11_111 C dX11_nextCome_8 ho0 ?_
    exact z_icmp_ge C dX11_nextCome_11 (by decide) (fun h => z_sub [2] rfl (b_X11_nextCome_39 C hr hk z x2 (q_t hf h))) (fun h => z_sub [0, 1, 2, 3] rfl (b_X11_nextCome_14 C hr hk ih z o0 x1 x2 x3 ho0 (q_f hf h)))
def f_X11_nextCome_0  (z : St) (o0 : Nat) (x1 : Int32) : Option (St × Int32) :=
  f_X11_nextCome_6 FU z o0 x1 999 0
theorem b_X11_nextCome_0 {p : Program} {l : Launch} {e : Env} {s : State} {m : MethodId} {args : Array Value} {below : List Frame} {meth : Method} {c : Code} {g : Ga} {A : Nat → Prop} (C : Cx l g A p s m args c cX11_nextCome 4 RX11 (rm_X11_nextCome) (0, 0)) (hr : meth.sig.returnType = (some .int)) (hk : meth.locks = false)   (z : St) (o0 : Nat) (x1 : Int32) (ho0 : kd o0 = 11) {res : St × Int32} (hf : f_X11_nextCome_0  z o0 x1 = some res) : Zj p l e (rm_X11_nextCome) s m args below meth c g A 4 (0, 0) (QI g A below args s res) z 0 [(0, .ref (g.1 o0)), (1, .int x1)] [] := by
  unfold f_X11_nextCome_0 at hf
  refine z_sipush C dX11_nextCome_0 (v := 999) (by decide) ?_
  refine z_istore_n C (lv2 := [(2, .int 999), (0, .ref (g.1 o0)), (1, .int x1)]) dX11_nextCome_3 rfl (by decide) rfl ?_
  refine z_iconst C dX11_nextCome_4 (v := 0) (by decide) ?_
  refine z_istore_n C (lv2 := [(3, .int 0), (2, .int 999), (0, .ref (g.1 o0)), (1, .int x1)]) dX11_nextCome_5 rfl (by decide) rfl ?_
  exact z_sub [2, 3, 1, 0] rfl (b_X11_nextCome_6 C hr hk FU z o0 x1 999 0 ho0 hf)
def f_X11_nextCome (z : St) (o0 : Nat) (x1 : Int32) : Option (St × Int32) := f_X11_nextCome_0 z o0 x1
theorem c_X11_nextCome {l : Launch} {g : Ga} {A : Nat → Prop} {z : St} {o0 : Nat} {x1 : Int32} (ho0 : kd o0 = 11) {res : St × Int32} (hf : f_X11_nextCome z o0 x1 = some res) : CI l g A yX11_nextCome cX11_nextCome 4 (some .int) rm_X11_nextCome [.ref (g.1 o0), .int x1] z res :=
  e_CI (by decide) (Nat.le_of_ble_eq_true rfl) rfl (fun p e s m args below meth c C hr hk => z_sub [0, 1] rfl (b_X11_nextCome_0 C hr hk z o0 x1 ho0 hf))
abbrev rm_X11_greedily : Room := { frames := 2, cells := 0, slots := 0, locals := 46 }
def f_X11_greedily_45 (K9 : St → Nat → Int32 → Int32 → Int32 → Int32 → Option (St × Int32)) (z : St) (o0 : Nat) (x1 : Int32) (x2 : Int32) (x3 : Int32) (x4 : Int32) (x5 : Int32) : Option (St × Int32) :=
  if inb x4 8 = true then (if inb x5 8 = true then (if inb x5 8 = true then (if inb x5 8 = true then (if inb x5 8 = true then (K9 (zI (zI (zI z (rf o0 16) (Int32.toNatClampNeg x4) x5) (rf o0 17) (Int32.toNatClampNeg x5) x1) (rf o0 18) (Int32.toNatClampNeg x5) (x1 + ((zI (zI z (rf o0 16) (Int32.toNatClampNeg x4) x5) (rf o0 17) (Int32.toNatClampNeg x5) x1).1 (rf o0 14) (Int32.toNatClampNeg x5)))) o0 (x1 + ((zI (zI z (rf o0 16) (Int32.toNatClampNeg x4) x5) (rf o0 17) (Int32.toNatClampNeg x5) x1).1 (rf o0 14) (Int32.toNatClampNeg x5))) (x2 ||| ((1 : Int32) <<< (x5 &&& 31))) (imax x3 ((x1 + ((zI (zI z (rf o0 16) (Int32.toNatClampNeg x4) x5) (rf o0 17) (Int32.toNatClampNeg x5) x1).1 (rf o0 14) (Int32.toNatClampNeg x5))) + ((zI (zI (zI z (rf o0 16) (Int32.toNatClampNeg x4) x5) (rf o0 17) (Int32.toNatClampNeg x5) x1) (rf o0 18) (Int32.toNatClampNeg x5) (x1 + ((zI (zI z (rf o0 16) (Int32.toNatClampNeg x4) x5) (rf o0 17) (Int32.toNatClampNeg x5) x1).1 (rf o0 14) (Int32.toNatClampNeg x5)))).1 (rf o0 15) (Int32.toNatClampNeg x5)))) (x4 + 1)) else none) else none) else none) else none) else none
theorem b_X11_greedily_45 {p : Program} {l : Launch} {e : Env} {s : State} {m : MethodId} {args : Array Value} {below : List Frame} {meth : Method} {c : Code} {g : Ga} {A : Nat → Prop} (C : Cx l g A p s m args c cX11_greedily 6 RX11 (rm_X11_greedily) (0, 0)) (hr : meth.sig.returnType = (some .int)) (hk : meth.locks = false) {K9 : St → Nat → Int32 → Int32 → Int32 → Int32 → Option (St × Int32)} (hK9 : ∀ (z : St) (o0 : Nat) (x1 : Int32) (x2 : Int32) (x3 : Int32) (x4 : Int32) (_ : kd o0 = 11) {res : St × Int32}, K9 z o0 x1 x2 x3 x4 = some res → Zj p l e (rm_X11_greedily) s m args below meth c g A 6 (0, 0) (QI g A below args s res) z 9 [(0, .ref (g.1 o0)), (1, .int x1), (2, .int x2), (3, .int x3), (4, .int x4)] []) (z : St) (o0 : Nat) (x1 : Int32) (x2 : Int32) (x3 : Int32) (x4 : Int32) (x5 : Int32) (ho0 : kd o0 = 11) {res : St × Int32} (hf : f_X11_greedily_45 K9 z o0 x1 x2 x3 x4 x5 = some res) : Zj p l e (rm_X11_greedily) s m args below meth c g A 6 (0, 0) (QI g A below args s res) z 45 [(0, .ref (g.1 o0)), (1, .int x1), (2, .int x2), (3, .int x3), (4, .int x4), (5, .int x5)] [] := by
  unfold f_X11_greedily_45 at hf
  refine z_aload_n C dX11_greedily_45 rfl 0 rfl ?_
  refine gf_X11_37 C dX11_greedily_46 ho0 ?_
  refine z_iload C dX11_greedily_49 4 rfl ?_
  refine z_iload C dX11_greedily_51 5 rfl ?_
  obtain ⟨h1, hf⟩ := q_ck hf
  refine z_iast C (n := 8) dX11_greedily_53 (rt_11_16 _ (kd_lt ho0 (by decide)) ho0) (by decide) h1 ?_
  refine z_aload_n C dX11_greedily_54 rfl 0 rfl ?_
  refine gf_X11_40 C dX11_greedily_55 ho0 ?_
  refine z_iload C dX11_greedily_58 5 rfl ?_
  refine z_iload_n C dX11_greedily_60 rfl 1 rfl ?_
  obtain ⟨h2, hf⟩ := q_ck hf
  refine z_iast C (n := 8) dX11_greedily_61 (rt_11_17 _ (kd_lt ho0 (by decide)) ho0) (by decide) h2 ?_
  refine z_iload_n C dX11_greedily_62 rfl 1 rfl ?_
  refine z_aload_n C dX11_greedily_63 rfl 0 rfl ?_
  refine gf_X11_31 C dX11_greedily_64 ho0 ?_
  refine z_iload C dX11_greedily_67 5 rfl ?_
  obtain ⟨h3, hf⟩ := q_ck hf
  refine z_iald C (n := 8) dX11_greedily_69 (rt_11_14 _ (kd_lt ho0 (by decide)) ho0) (by decide) h3 ?_
  refine z_iadd C dX11_greedily_70 ?_
  refine z_istore_n C (lv2 := [(1, .int (x1 + ((zI (zI z (rf o0 16) (Int32.toNatClampNeg x4) x5) (rf o0 17) (Int32.toNatClampNeg x5) x1).1 (rf o0 14) (Int32.toNatClampNeg x5)))), (0, .ref (g.1 o0)), (2, .int x2), (3, .int x3), (4, .int x4), (5, .int x5)]) dX11_greedily_71 rfl (by decide) rfl ?_
  refine z_aload_n C dX11_greedily_72 rfl 1 rfl ?_
  refine gf_X11_43 C dX11_greedily_73 ho0 ?_
  refine z_iload C dX11_greedily_76 5 rfl ?_
  refine z_iload_n C dX11_greedily_78 rfl 0 rfl ?_
  obtain ⟨h4, hf⟩ := q_ck hf
  refine z_iast C (n := 8) dX11_greedily_79 (rt_11_18 _ (kd_lt ho0 (by decide)) ho0) (by decide) h4 ?_
  refine z_iload_n C dX11_greedily_80 rfl 2 rfl ?_
  refine z_iconst C dX11_greedily_81 (v := 1) (by decide) ?_
  refine z_iload C dX11_greedily_82 5 rfl ?_
  refine z_ishl C dX11_greedily_84 ?_
  refine z_ior C dX11_greedily_85 ?_
  refine z_istore_n C (lv2 := [(2, .int (x2 ||| ((1 : Int32) <<< (x5 &&& 31)))), (1, .int (x1 + ((zI (zI z (rf o0 16) (Int32.toNatClampNeg x4) x5) (rf o0 17) (Int32.toNatClampNeg x5) x1).1 (rf o0 14) (Int32.toNatClampNeg x5)))), (0, .ref (g.1 o0)), (3, .int x3), (4, .int x4), (5, .int x5)]) dX11_greedily_86 rfl (by decide) rfl ?_
  refine z_iload_n C dX11_greedily_87 rfl 3 rfl ?_
  refine z_iload_n C dX11_greedily_88 rfl 1 rfl ?_
  refine z_aload_n C dX11_greedily_89 rfl 2 rfl ?_
  refine gf_X11_34 C dX11_greedily_90 ho0 ?_
  refine z_iload C dX11_greedily_93 5 rfl ?_
  obtain ⟨h5, hf⟩ := q_ck hf
  refine z_iald C (n := 8) dX11_greedily_95 (rt_11_15 _ (kd_lt ho0 (by decide)) ho0) (by decide) h5 ?_
  refine z_iadd C dX11_greedily_96 ?_
  refine z_mmax C (st := []) dX11_greedily_97 ml_X11_126 mm_max.1 mm_i mm_max.2 ⟨Nat.le_of_ble_eq_true rfl, Nat.le_of_ble_eq_true rfl⟩ (Nat.le_of_ble_eq_true rfl) ?_
  refine z_istore_n C (lv2 := [(3, .int (imax x3 ((x1 + ((zI (zI z (rf o0 16) (Int32.toNatClampNeg x4) x5) (rf o0 17) (Int32.toNatClampNeg x5) x1).1 (rf o0 14) (Int32.toNatClampNeg x5))) + ((zI (zI (zI z (rf o0 16) (Int32.toNatClampNeg x4) x5) (rf o0 17) (Int32.toNatClampNeg x5) x1) (rf o0 18) (Int32.toNatClampNeg x5) (x1 + ((zI (zI z (rf o0 16) (Int32.toNatClampNeg x4) x5) (rf o0 17) (Int32.toNatClampNeg x5) x1).1 (rf o0 14) (Int32.toNatClampNeg x5)))).1 (rf o0 15) (Int32.toNatClampNeg x5))))), (2, .int (x2 ||| ((1 : Int32) <<< (x5 &&& 31)))), (1, .int (x1 + ((zI (zI z (rf o0 16) (Int32.toNatClampNeg x4) x5) (rf o0 17) (Int32.toNatClampNeg x5) x1).1 (rf o0 14) (Int32.toNatClampNeg x5)))), (0, .ref (g.1 o0)), (4, .int x4), (5, .int x5)]) dX11_greedily_100 rfl (by decide) rfl ?_
  refine z_iinc C (k := 4) (v := x4 + 1) (lv2 := [(4, .int (x4 + 1)), (3, .int (imax x3 ((x1 + ((zI (zI z (rf o0 16) (Int32.toNatClampNeg x4) x5) (rf o0 17) (Int32.toNatClampNeg x5) x1).1 (rf o0 14) (Int32.toNatClampNeg x5))) + ((zI (zI (zI z (rf o0 16) (Int32.toNatClampNeg x4) x5) (rf o0 17) (Int32.toNatClampNeg x5) x1) (rf o0 18) (Int32.toNatClampNeg x5) (x1 + ((zI (zI z (rf o0 16) (Int32.toNatClampNeg x4) x5) (rf o0 17) (Int32.toNatClampNeg x5) x1).1 (rf o0 14) (Int32.toNatClampNeg x5)))).1 (rf o0 15) (Int32.toNatClampNeg x5))))), (2, .int (x2 ||| ((1 : Int32) <<< (x5 &&& 31)))), (1, .int (x1 + ((zI (zI z (rf o0 16) (Int32.toNatClampNeg x4) x5) (rf o0 17) (Int32.toNatClampNeg x5) x1).1 (rf o0 14) (Int32.toNatClampNeg x5)))), (0, .ref (g.1 o0)), (5, .int x5)]) dX11_greedily_101 rfl rfl (by decide) rfl ?_
  exact z_goto C dX11_greedily_104 (by decide) (z_sub [4, 3, 2, 1, 0] rfl (hK9 (zI (zI (zI z (rf o0 16) (Int32.toNatClampNeg x4) x5) (rf o0 17) (Int32.toNatClampNeg x5) x1) (rf o0 18) (Int32.toNatClampNeg x5) (x1 + ((zI (zI z (rf o0 16) (Int32.toNatClampNeg x4) x5) (rf o0 17) (Int32.toNatClampNeg x5) x1).1 (rf o0 14) (Int32.toNatClampNeg x5)))) o0 (x1 + ((zI (zI z (rf o0 16) (Int32.toNatClampNeg x4) x5) (rf o0 17) (Int32.toNatClampNeg x5) x1).1 (rf o0 14) (Int32.toNatClampNeg x5))) (x2 ||| ((1 : Int32) <<< (x5 &&& 31))) (imax x3 ((x1 + ((zI (zI z (rf o0 16) (Int32.toNatClampNeg x4) x5) (rf o0 17) (Int32.toNatClampNeg x5) x1).1 (rf o0 14) (Int32.toNatClampNeg x5))) + ((zI (zI (zI z (rf o0 16) (Int32.toNatClampNeg x4) x5) (rf o0 17) (Int32.toNatClampNeg x5) x1) (rf o0 18) (Int32.toNatClampNeg x5) (x1 + ((zI (zI z (rf o0 16) (Int32.toNatClampNeg x4) x5) (rf o0 17) (Int32.toNatClampNeg x5) x1).1 (rf o0 14) (Int32.toNatClampNeg x5)))).1 (rf o0 15) (Int32.toNatClampNeg x5)))) (x4 + 1) ho0 hf))
def f_X11_greedily_31 (K9 : St → Nat → Int32 → Int32 → Int32 → Int32 → Option (St × Int32)) (z : St) (o0 : Nat) (x2 : Int32) (x3 : Int32) (x4 : Int32) : Option (St × Int32) :=
  ((f_X11_nextCome z o0 x2).bind fun r1 => ((f_X11_chosen r1.1 o0 r1.2 x2).bind fun r3 => f_X11_greedily_45 K9 r3.1 o0 r1.2 x2 x3 x4 r3.2))
theorem b_X11_greedily_31 {p : Program} {l : Launch} {e : Env} {s : State} {m : MethodId} {args : Array Value} {below : List Frame} {meth : Method} {c : Code} {g : Ga} {A : Nat → Prop} (C : Cx l g A p s m args c cX11_greedily 6 RX11 (rm_X11_greedily) (0, 0)) (hr : meth.sig.returnType = (some .int)) (hk : meth.locks = false) {K9 : St → Nat → Int32 → Int32 → Int32 → Int32 → Option (St × Int32)} (hK9 : ∀ (z : St) (o0 : Nat) (x1 : Int32) (x2 : Int32) (x3 : Int32) (x4 : Int32) (_ : kd o0 = 11) {res : St × Int32}, K9 z o0 x1 x2 x3 x4 = some res → Zj p l e (rm_X11_greedily) s m args below meth c g A 6 (0, 0) (QI g A below args s res) z 9 [(0, .ref (g.1 o0)), (1, .int x1), (2, .int x2), (3, .int x3), (4, .int x4)] []) (z : St) (o0 : Nat) (x2 : Int32) (x3 : Int32) (x4 : Int32) (ho0 : kd o0 = 11) {res : St × Int32} (hf : f_X11_greedily_31 K9 z o0 x2 x3 x4 = some res) : Zj p l e (rm_X11_greedily) s m args below meth c g A 6 (0, 0) (QI g A below args s res) z 31 [(0, .ref (g.1 o0)), (2, .int x2), (3, .int x3), (4, .int x4)] [] := by
  unfold f_X11_greedily_31 at hf
  refine z_aload_n C dX11_greedily_31 rfl 0 rfl ?_
  refine z_iload_n C dX11_greedily_32 rfl 1 rfl ?_
  obtain ⟨r1, hc2, hf⟩ := q_bd hf
  refine z_cVi C (st := []) (c_X11_nextCome ho0 hc2) mw_X11_nextCome ml_X11_199 ho0 (by decide) rfl dX11_greedily_33 rfl rfl rfl ⟨Nat.le_of_ble_eq_true rfl, Nat.le_of_ble_eq_true rfl⟩ rfl (Nat.le_of_ble_eq_true rfl) ?_
  refine z_istore_n C (lv2 := [(1, .int r1.2), (0, .ref (g.1 o0)), (2, .int x2), (3, .int x3), (4, .int x4)]) dX11_greedily_36 rfl (by decide) rfl ?_
  refine z_aload_n C dX11_greedily_37 rfl 1 rfl ?_
  refine z_iload_n C dX11_greedily_38 rfl 0 rfl ?_
  refine z_iload_n C dX11_greedily_39 rfl 2 rfl ?_
  obtain ⟨r3, hc4, hf⟩ := q_bd hf
  refine z_cVi C (st := []) (c_X11_chosen ho0 hc4) mw_X11_chosen ml_X11_196 ho0 (by decide) rfl dX11_greedily_40 rfl rfl rfl ⟨Nat.le_of_ble_eq_true rfl, Nat.le_of_ble_eq_true rfl⟩ rfl (Nat.le_of_ble_eq_true rfl) ?_
  refine z_istore C (lv2 := [(5, .int r3.2), (1, .int r1.2), (0, .ref (g.1 o0)), (2, .int x2), (3, .int x3), (4, .int x4)]) dX11_greedily_43 (by decide) rfl ?_
  exact z_sub [2, 1, 3, 4, 5, 0] rfl (b_X11_greedily_45 C hr hk hK9 r3.1 o0 r1.2 x2 x3 x4 r3.2 ho0 hf)
def f_X11_greedily_18 (K9 : St → Nat → Int32 → Int32 → Int32 → Int32 → Option (St × Int32)) (z : St) (o0 : Nat) (x1 : Int32) (x2 : Int32) (x3 : Int32) (x4 : Int32) : Option (St × Int32) :=
  ((f_X11_chosen z o0 x1 x2).bind fun r1 => if 0 ≤ r1.2 then f_X11_greedily_45 K9 r1.1 o0 x1 x2 x3 x4 r1.2 else f_X11_greedily_31 K9 r1.1 o0 x2 x3 x4)
theorem b_X11_greedily_18 {p : Program} {l : Launch} {e : Env} {s : State} {m : MethodId} {args : Array Value} {below : List Frame} {meth : Method} {c : Code} {g : Ga} {A : Nat → Prop} (C : Cx l g A p s m args c cX11_greedily 6 RX11 (rm_X11_greedily) (0, 0)) (hr : meth.sig.returnType = (some .int)) (hk : meth.locks = false) {K9 : St → Nat → Int32 → Int32 → Int32 → Int32 → Option (St × Int32)} (hK9 : ∀ (z : St) (o0 : Nat) (x1 : Int32) (x2 : Int32) (x3 : Int32) (x4 : Int32) (_ : kd o0 = 11) {res : St × Int32}, K9 z o0 x1 x2 x3 x4 = some res → Zj p l e (rm_X11_greedily) s m args below meth c g A 6 (0, 0) (QI g A below args s res) z 9 [(0, .ref (g.1 o0)), (1, .int x1), (2, .int x2), (3, .int x3), (4, .int x4)] []) (z : St) (o0 : Nat) (x1 : Int32) (x2 : Int32) (x3 : Int32) (x4 : Int32) (ho0 : kd o0 = 11) {res : St × Int32} (hf : f_X11_greedily_18 K9 z o0 x1 x2 x3 x4 = some res) : Zj p l e (rm_X11_greedily) s m args below meth c g A 6 (0, 0) (QI g A below args s res) z 18 [(0, .ref (g.1 o0)), (1, .int x1), (2, .int x2), (3, .int x3), (4, .int x4)] [] := by
  unfold f_X11_greedily_18 at hf
  refine z_aload_n C dX11_greedily_18 rfl 0 rfl ?_
  refine z_iload_n C dX11_greedily_19 rfl 1 rfl ?_
  refine z_iload_n C dX11_greedily_20 rfl 2 rfl ?_
  obtain ⟨r1, hc2, hf⟩ := q_bd hf
  refine z_cVi C (st := []) (c_X11_chosen ho0 hc2) mw_X11_chosen ml_X11_196 ho0 (by decide) rfl dX11_greedily_21 rfl rfl rfl ⟨Nat.le_of_ble_eq_true rfl, Nat.le_of_ble_eq_true rfl⟩ rfl (Nat.le_of_ble_eq_true rfl) ?_
  refine z_istore C (lv2 := [(5, .int r1.2), (0, .ref (g.1 o0)), (1, .int x1), (2, .int x2), (3, .int x3), (4, .int x4)]) dX11_greedily_24 (by decide) rfl ?_
  refine z_iload C dX11_greedily_26 0 rfl ?_
  exact z_if_ge C dX11_greedily_28 (by decide) (fun h => z_sub [1, 2, 3, 4, 5, 0] rfl (b_X11_greedily_45 C hr hk hK9 r1.1 o0 x1 x2 x3 x4 r1.2 ho0 (q_t hf h))) (fun h => z_sub [1, 3, 4, 5] rfl (b_X11_greedily_31 C hr hk hK9 r1.1 o0 x2 x3 x4 ho0 (q_f hf h)))
def f_X11_greedily_107  (z : St) (o0 : Nat) (x1 : Int32) (x3 : Int32) : Option (St × Int32) :=
  some (zI z o0 19 x1, x3)
theorem b_X11_greedily_107 {p : Program} {l : Launch} {e : Env} {s : State} {m : MethodId} {args : Array Value} {below : List Frame} {meth : Method} {c : Code} {g : Ga} {A : Nat → Prop} (C : Cx l g A p s m args c cX11_greedily 6 RX11 (rm_X11_greedily) (0, 0)) (hr : meth.sig.returnType = (some .int)) (hk : meth.locks = false)   (z : St) (o0 : Nat) (x1 : Int32) (x3 : Int32) (ho0 : kd o0 = 11) {res : St × Int32} (hf : f_X11_greedily_107  z o0 x1 x3 = some res) : Zj p l e (rm_X11_greedily) s m args below meth c g A 6 (0, 0) (QI g A below args s res) z 107 [(0, .ref (g.1 o0)), (1, .int x1), (3, .int x3)] [] := by
  unfold f_X11_greedily_107 at hf
  refine z_aload_n C dX11_greedily_107 rfl 0 rfl ?_
  refine z_iload_n C dX11_greedily_108 rfl 1 rfl ?_
  refine pf_X11_202 C dX11_greedily_109 ho0 ?_
  refine z_iload_n C dX11_greedily_112 rfl 2 rfl ?_
  cases hf
  exact z_iret C hr hk dX11_greedily_113
def f_X11_greedily_9  : Nat → St → Nat → Int32 → Int32 → Int32 → Int32 → Option (St × Int32)
  | 0, _, _, _, _, _, _ => none
  | n + 1, z, o0, x1, x2, x3, x4 => if (z.1 o0 5) ≤ x4 then f_X11_greedily_107 z o0 x1 x3 else f_X11_greedily_18 (f_X11_greedily_9 n) z o0 x1 x2 x3 x4
theorem b_X11_greedily_9 {p : Program} {l : Launch} {e : Env} {s : State} {m : MethodId} {args : Array Value} {below : List Frame} {meth : Method} {c : Code} {g : Ga} {A : Nat → Prop} (C : Cx l g A p s m args c cX11_greedily 6 RX11 (rm_X11_greedily) (0, 0)) (hr : meth.sig.returnType = (some .int)) (hk : meth.locks = false)   : ∀ (n : Nat) (z : St) (o0 : Nat) (x1 : Int32) (x2 : Int32) (x3 : Int32) (x4 : Int32) (_ : kd o0 = 11) {res : St × Int32} (_ : f_X11_greedily_9  n z o0 x1 x2 x3 x4 = some res), Zj p l e (rm_X11_greedily) s m args below meth c g A 6 (0, 0) (QI g A below args s res) z 9 [(0, .ref (g.1 o0)), (1, .int x1), (2, .int x2), (3, .int x3), (4, .int x4)] [] := by
  intro n
  induction n with
  | zero =>
    intro z o0 x1 x2 x3 x4 ho0 res hf
    cases hf
  | succ n ih =>
    intro z o0 x1 x2 x3 x4 ho0 res hf
    rw [f_X11_greedily_9] at hf
    refine z_iload C dX11_greedily_9 4 rfl ?_
    refine z_aload_n C dX11_greedily_11 rfl 0 rfl ?_
    refine gf_X11_111 C dX11_greedily_12 ho0 ?_
    exact z_icmp_ge C dX11_greedily_15 (by decide) (fun h => z_sub [0, 1, 3] rfl (b_X11_greedily_107 C hr hk z o0 x1 x3 ho0 (q_t hf h))) (fun h => z_sub [0, 1, 2, 3, 4] rfl (b_X11_greedily_18 C hr hk ih z o0 x1 x2 x3 x4 ho0 (q_f hf h)))
def f_X11_greedily_0  (z : St) (o0 : Nat) : Option (St × Int32) :=
  f_X11_greedily_9 FU z o0 0 0 0 0
theorem b_X11_greedily_0 {p : Program} {l : Launch} {e : Env} {s : State} {m : MethodId} {args : Array Value} {below : List Frame} {meth : Method} {c : Code} {g : Ga} {A : Nat → Prop} (C : Cx l g A p s m args c cX11_greedily 6 RX11 (rm_X11_greedily) (0, 0)) (hr : meth.sig.returnType = (some .int)) (hk : meth.locks = false)   (z : St) (o0 : Nat) (ho0 : kd o0 = 11) {res : St × Int32} (hf : f_X11_greedily_0  z o0 = some res) : Zj p l e (rm_X11_greedily) s m args below meth c g A 6 (0, 0) (QI g A below args s res) z 0 [(0, .ref (g.1 o0))] [] := by
  unfold f_X11_greedily_0 at hf
  refine z_iconst C dX11_greedily_0 (v := 0) (by decide) ?_
  refine z_istore_n C (lv2 := [(1, .int 0), (0, .ref (g.1 o0))]) dX11_greedily_1 rfl (by decide) rfl ?_
  refine z_iconst C dX11_greedily_2 (v := 0) (by decide) ?_
  refine z_istore_n C (lv2 := [(2, .int 0), (1, .int 0), (0, .ref (g.1 o0))]) dX11_greedily_3 rfl (by decide) rfl ?_
  refine z_iconst C dX11_greedily_4 (v := 0) (by decide) ?_
  refine z_istore_n C (lv2 := [(3, .int 0), (2, .int 0), (1, .int 0), (0, .ref (g.1 o0))]) dX11_greedily_5 rfl (by decide) rfl ?_
  refine z_iconst C dX11_greedily_6 (v := 0) (by decide) ?_
  refine z_istore C (lv2 := [(4, .int 0), (3, .int 0), (2, .int 0), (1, .int 0), (0, .ref (g.1 o0))]) dX11_greedily_7 (by decide) rfl ?_
  exact z_sub [4, 3, 2, 1, 0] rfl (b_X11_greedily_9 C hr hk FU z o0 0 0 0 0 ho0 hf)
def f_X11_greedily (z : St) (o0 : Nat) : Option (St × Int32) := f_X11_greedily_0 z o0
theorem c_X11_greedily {l : Launch} {g : Ga} {A : Nat → Prop} {z : St} {o0 : Nat} (ho0 : kd o0 = 11) {res : St × Int32} (hf : f_X11_greedily z o0 = some res) : CI l g A yX11_greedily cX11_greedily 6 (some .int) rm_X11_greedily [.ref (g.1 o0)] z res :=
  e_CI (by decide) (Nat.le_of_ble_eq_true rfl) rfl (fun p e s m args below meth c C hr hk => z_sub [0] rfl (b_X11_greedily_0 C hr hk z o0 ho0 hf))
abbrev rm_X11_allTake : Room := { frames := 0, cells := 0, slots := 0, locals := 0 }
def f_X11_allTake_12 (K4 : St → Nat → Int32 → Int32 → Option (St × Int32)) (z : St) (o0 : Nat) (x1 : Int32) (x2 : Int32) : Option (St × Int32) :=
  if inb x2 8 = true then (K4 z o0 (x1 + (z.1 (rf o0 14) (Int32.toNatClampNeg x2))) (x2 + 1)) else none
theorem b_X11_allTake_12 {p : Program} {l : Launch} {e : Env} {s : State} {m : MethodId} {args : Array Value} {below : List Frame} {meth : Method} {c : Code} {g : Ga} {A : Nat → Prop} (C : Cx l g A p s m args c cX11_allTake 3 RX11 (rm_X11_allTake) (0, 0)) (hr : meth.sig.returnType = (some .int)) (hk : meth.locks = false) {K4 : St → Nat → Int32 → Int32 → Option (St × Int32)} (hK4 : ∀ (z : St) (o0 : Nat) (x1 : Int32) (x2 : Int32) (_ : kd o0 = 11) {res : St × Int32}, K4 z o0 x1 x2 = some res → Zj p l e (rm_X11_allTake) s m args below meth c g A 3 (0, 0) (QI g A below args s res) z 4 [(0, .ref (g.1 o0)), (1, .int x1), (2, .int x2)] []) (z : St) (o0 : Nat) (x1 : Int32) (x2 : Int32) (ho0 : kd o0 = 11) {res : St × Int32} (hf : f_X11_allTake_12 K4 z o0 x1 x2 = some res) : Zj p l e (rm_X11_allTake) s m args below meth c g A 3 (0, 0) (QI g A below args s res) z 12 [(0, .ref (g.1 o0)), (1, .int x1), (2, .int x2)] [] := by
  unfold f_X11_allTake_12 at hf
  refine z_iload_n C dX11_allTake_12 rfl 1 rfl ?_
  refine z_aload_n C dX11_allTake_13 rfl 0 rfl ?_
  refine gf_X11_31 C dX11_allTake_14 ho0 ?_
  refine z_iload_n C dX11_allTake_17 rfl 2 rfl ?_
  obtain ⟨h1, hf⟩ := q_ck hf
  refine z_iald C (n := 8) dX11_allTake_18 (rt_11_14 _ (kd_lt ho0 (by decide)) ho0) (by decide) h1 ?_
  refine z_iadd C dX11_allTake_19 ?_
  refine z_istore_n C (lv2 := [(1, .int (x1 + (z.1 (rf o0 14) (Int32.toNatClampNeg x2)))), (0, .ref (g.1 o0)), (2, .int x2)]) dX11_allTake_20 rfl (by decide) rfl ?_
  refine z_iinc C (k := 2) (v := x2 + 1) (lv2 := [(2, .int (x2 + 1)), (1, .int (x1 + (z.1 (rf o0 14) (Int32.toNatClampNeg x2)))), (0, .ref (g.1 o0))]) dX11_allTake_21 rfl rfl (by decide) rfl ?_
  exact z_goto C dX11_allTake_24 (by decide) (z_sub [2, 1, 0] rfl (hK4 z o0 (x1 + (z.1 (rf o0 14) (Int32.toNatClampNeg x2))) (x2 + 1) ho0 hf))
def f_X11_allTake_27  (z : St) (x1 : Int32) : Option (St × Int32) :=
  some (z, x1)
theorem b_X11_allTake_27 {p : Program} {l : Launch} {e : Env} {s : State} {m : MethodId} {args : Array Value} {below : List Frame} {meth : Method} {c : Code} {g : Ga} {A : Nat → Prop} (C : Cx l g A p s m args c cX11_allTake 3 RX11 (rm_X11_allTake) (0, 0)) (hr : meth.sig.returnType = (some .int)) (hk : meth.locks = false)   (z : St) (x1 : Int32)  {res : St × Int32} (hf : f_X11_allTake_27  z x1 = some res) : Zj p l e (rm_X11_allTake) s m args below meth c g A 3 (0, 0) (QI g A below args s res) z 27 [(1, .int x1)] [] := by
  unfold f_X11_allTake_27 at hf
  refine z_iload_n C dX11_allTake_27 rfl 0 rfl ?_
  cases hf
  exact z_iret C hr hk dX11_allTake_28
def f_X11_allTake_4  : Nat → St → Nat → Int32 → Int32 → Option (St × Int32)
  | 0, _, _, _, _ => none
  | n + 1, z, o0, x1, x2 => if (z.1 o0 5) ≤ x2 then f_X11_allTake_27 z x1 else f_X11_allTake_12 (f_X11_allTake_4 n) z o0 x1 x2
theorem b_X11_allTake_4 {p : Program} {l : Launch} {e : Env} {s : State} {m : MethodId} {args : Array Value} {below : List Frame} {meth : Method} {c : Code} {g : Ga} {A : Nat → Prop} (C : Cx l g A p s m args c cX11_allTake 3 RX11 (rm_X11_allTake) (0, 0)) (hr : meth.sig.returnType = (some .int)) (hk : meth.locks = false)   : ∀ (n : Nat) (z : St) (o0 : Nat) (x1 : Int32) (x2 : Int32) (_ : kd o0 = 11) {res : St × Int32} (_ : f_X11_allTake_4  n z o0 x1 x2 = some res), Zj p l e (rm_X11_allTake) s m args below meth c g A 3 (0, 0) (QI g A below args s res) z 4 [(0, .ref (g.1 o0)), (1, .int x1), (2, .int x2)] [] := by
  intro n
  induction n with
  | zero =>
    intro z o0 x1 x2 ho0 res hf
    cases hf
  | succ n ih =>
    intro z o0 x1 x2 ho0 res hf
    rw [f_X11_allTake_4] at hf
    refine z_iload_n C dX11_allTake_4 rfl 2 rfl ?_
    refine z_aload_n C dX11_allTake_5 rfl 0 rfl ?_
    refine gf_X11_111 C dX11_allTake_6 ho0 ?_
    exact z_icmp_ge C dX11_allTake_9 (by decide) (fun h => z_sub [1] rfl (b_X11_allTake_27 C hr hk z x1 (q_t hf h))) (fun h => z_sub [0, 1, 2] rfl (b_X11_allTake_12 C hr hk ih z o0 x1 x2 ho0 (q_f hf h)))
def f_X11_allTake_0  (z : St) (o0 : Nat) : Option (St × Int32) :=
  f_X11_allTake_4 FU z o0 0 0
theorem b_X11_allTake_0 {p : Program} {l : Launch} {e : Env} {s : State} {m : MethodId} {args : Array Value} {below : List Frame} {meth : Method} {c : Code} {g : Ga} {A : Nat → Prop} (C : Cx l g A p s m args c cX11_allTake 3 RX11 (rm_X11_allTake) (0, 0)) (hr : meth.sig.returnType = (some .int)) (hk : meth.locks = false)   (z : St) (o0 : Nat) (ho0 : kd o0 = 11) {res : St × Int32} (hf : f_X11_allTake_0  z o0 = some res) : Zj p l e (rm_X11_allTake) s m args below meth c g A 3 (0, 0) (QI g A below args s res) z 0 [(0, .ref (g.1 o0))] [] := by
  unfold f_X11_allTake_0 at hf
  refine z_iconst C dX11_allTake_0 (v := 0) (by decide) ?_
  refine z_istore_n C (lv2 := [(1, .int 0), (0, .ref (g.1 o0))]) dX11_allTake_1 rfl (by decide) rfl ?_
  refine z_iconst C dX11_allTake_2 (v := 0) (by decide) ?_
  refine z_istore_n C (lv2 := [(2, .int 0), (1, .int 0), (0, .ref (g.1 o0))]) dX11_allTake_3 rfl (by decide) rfl ?_
  exact z_sub [2, 1, 0] rfl (b_X11_allTake_4 C hr hk FU z o0 0 0 ho0 hf)
def f_X11_allTake (z : St) (o0 : Nat) : Option (St × Int32) := f_X11_allTake_0 z o0
theorem c_X11_allTake {l : Launch} {g : Ga} {A : Nat → Prop} {z : St} {o0 : Nat} (ho0 : kd o0 = 11) {res : St × Int32} (hf : f_X11_allTake z o0 = some res) : CI l g A yX11_allTake cX11_allTake 3 (some .int) rm_X11_allTake [.ref (g.1 o0)] z res :=
  e_CI (by decide) (Nat.le_of_ble_eq_true rfl) rfl (fun p e s m args below meth c C hr hk => z_sub [0] rfl (b_X11_allTake_0 C hr hk z o0 ho0 hf))
abbrev rm_X11_greedy : Room := { frames := 4, cells := 0, slots := 0, locals := 85 }
def f_X11_greedy_9  (z : St)  : Option (St × Int32) :=
  some (z, (-2))
theorem b_X11_greedy_9 {p : Program} {l : Launch} {e : Env} {s : State} {m : MethodId} {args : Array Value} {below : List Frame} {meth : Method} {c : Code} {g : Ga} {A : Nat → Prop} (C : Cx l g A p s m args c cX11_greedy 4 RX11 (rm_X11_greedy) (0, 0)) (hr : meth.sig.returnType = (some .int)) (hk : meth.locks = false)   (z : St)   {res : St × Int32} (hf : f_X11_greedy_9  z  = some res) : Zj p l e (rm_X11_greedy) s m args below meth c g A 4 (0, 0) (QI g A below args s res) z 9 [] [] := by
  unfold f_X11_greedy_9 at hf
  refine z_bipush C dX11_greedy_9 (v := (-2)) (by decide) ?_
  cases hf
  exact z_iret C hr hk dX11_greedy_11
def f_X11_greedy_26  (z : St)  : Option (St × Int32) :=
  some (z, (-12))
theorem b_X11_greedy_26 {p : Program} {l : Launch} {e : Env} {s : State} {m : MethodId} {args : Array Value} {below : List Frame} {meth : Method} {c : Code} {g : Ga} {A : Nat → Prop} (C : Cx l g A p s m args c cX11_greedy 4 RX11 (rm_X11_greedy) (0, 0)) (hr : meth.sig.returnType = (some .int)) (hk : meth.locks = false)   (z : St)   {res : St × Int32} (hf : f_X11_greedy_26  z  = some res) : Zj p l e (rm_X11_greedy) s m args below meth c g A 4 (0, 0) (QI g A below args s res) z 26 [] [] := by
  unfold f_X11_greedy_26 at hf
  refine z_bipush C dX11_greedy_26 (v := (-12)) (by decide) ?_
  cases hf
  exact z_iret C hr hk dX11_greedy_28
def f_X11_greedy_59  (z : St) (s0 : Int32) : Option (St × Int32) :=
  some (z, s0)
theorem b_X11_greedy_59 {p : Program} {l : Launch} {e : Env} {s : State} {m : MethodId} {args : Array Value} {below : List Frame} {meth : Method} {c : Code} {g : Ga} {A : Nat → Prop} (C : Cx l g A p s m args c cX11_greedy 4 RX11 (rm_X11_greedy) (0, 0)) (hr : meth.sig.returnType = (some .int)) (hk : meth.locks = false)   (z : St) (s0 : Int32)  {res : St × Int32} (hf : f_X11_greedy_59  z s0 = some res) : Zj p l e (rm_X11_greedy) s m args below meth c g A 4 (0, 0) (QI g A below args s res) z 59 [] [.int s0] := by
  unfold f_X11_greedy_59 at hf
  cases hf
  exact z_iret C hr hk dX11_greedy_59
def f_X11_greedy_46  (z : St) (x3 : Int32) : Option (St × Int32) :=
  f_X11_greedy_59 z x3
theorem b_X11_greedy_46 {p : Program} {l : Launch} {e : Env} {s : State} {m : MethodId} {args : Array Value} {below : List Frame} {meth : Method} {c : Code} {g : Ga} {A : Nat → Prop} (C : Cx l g A p s m args c cX11_greedy 4 RX11 (rm_X11_greedy) (0, 0)) (hr : meth.sig.returnType = (some .int)) (hk : meth.locks = false)   (z : St) (x3 : Int32)  {res : St × Int32} (hf : f_X11_greedy_46  z x3 = some res) : Zj p l e (rm_X11_greedy) s m args below meth c g A 4 (0, 0) (QI g A below args s res) z 46 [(3, .int x3)] [] := by
  unfold f_X11_greedy_46 at hf
  refine z_iload_n C dX11_greedy_46 rfl 0 rfl ?_
  exact z_goto C dX11_greedy_47 (by decide) (z_sub [] rfl (b_X11_greedy_59 C hr hk z x3 hf))
def f_X11_greedy_50  (z : St) (o0 : Nat) : Option (St × Int32) :=
  ((f_X11_allTake z o0).bind fun r1 => f_X11_greedy_59 r1.1 ((z.1 o0 19) - r1.2))
theorem b_X11_greedy_50 {p : Program} {l : Launch} {e : Env} {s : State} {m : MethodId} {args : Array Value} {below : List Frame} {meth : Method} {c : Code} {g : Ga} {A : Nat → Prop} (C : Cx l g A p s m args c cX11_greedy 4 RX11 (rm_X11_greedy) (0, 0)) (hr : meth.sig.returnType = (some .int)) (hk : meth.locks = false)   (z : St) (o0 : Nat) (ho0 : kd o0 = 11) {res : St × Int32} (hf : f_X11_greedy_50  z o0 = some res) : Zj p l e (rm_X11_greedy) s m args below meth c g A 4 (0, 0) (QI g A below args s res) z 50 [(0, .ref (g.1 o0))] [] := by
  unfold f_X11_greedy_50 at hf
  refine z_aload_n C dX11_greedy_50 rfl 0 rfl ?_
  refine gf_X11_202 C dX11_greedy_51 ho0 ?_
  refine z_aload_n C dX11_greedy_54 rfl 0 rfl ?_
  obtain ⟨r1, hc2, hf⟩ := q_bd hf
  refine z_cVi C (st := [.int (z.1 o0 19)]) (c_X11_allTake ho0 hc2) mw_X11_allTake ml_X11_211 ho0 (by decide) rfl dX11_greedy_55 rfl rfl rfl ⟨Nat.le_of_ble_eq_true rfl, Nat.le_of_ble_eq_true rfl⟩ rfl (Nat.le_of_ble_eq_true rfl) ?_
  refine z_isub C dX11_greedy_58 ?_
  exact z_sub [] rfl (b_X11_greedy_59 C hr hk r1.1 ((z.1 o0 19) - r1.2) hf)
def f_X11_greedy_42  (z : St) (o0 : Nat) (x2 : Int32) (x3 : Int32) : Option (St × Int32) :=
  if x2 = 0 then f_X11_greedy_46 z x3 else f_X11_greedy_50 z o0
theorem b_X11_greedy_42 {p : Program} {l : Launch} {e : Env} {s : State} {m : MethodId} {args : Array Value} {below : List Frame} {meth : Method} {c : Code} {g : Ga} {A : Nat → Prop} (C : Cx l g A p s m args c cX11_greedy 4 RX11 (rm_X11_greedy) (0, 0)) (hr : meth.sig.returnType = (some .int)) (hk : meth.locks = false)   (z : St) (o0 : Nat) (x2 : Int32) (x3 : Int32) (ho0 : kd o0 = 11) {res : St × Int32} (hf : f_X11_greedy_42  z o0 x2 x3 = some res) : Zj p l e (rm_X11_greedy) s m args below meth c g A 4 (0, 0) (QI g A below args s res) z 42 [(0, .ref (g.1 o0)), (2, .int x2), (3, .int x3)] [] := by
  unfold f_X11_greedy_42 at hf
  refine z_iload_n C dX11_greedy_42 rfl 1 rfl ?_
  exact z_if_ne C dX11_greedy_43 (by decide) (fun h => z_sub [0] rfl (b_X11_greedy_50 C hr hk z o0 ho0 (q_f hf h))) (fun h => z_sub [2] rfl (b_X11_greedy_46 C hr hk z x3 (q_t hf h)))
def f_X11_greedy_84  (z : St) (s0 : Int32) : Option (St × Int32) :=
  some (z, s0)
theorem b_X11_greedy_84 {p : Program} {l : Launch} {e : Env} {s : State} {m : MethodId} {args : Array Value} {below : List Frame} {meth : Method} {c : Code} {g : Ga} {A : Nat → Prop} (C : Cx l g A p s m args c cX11_greedy 4 RX11 (rm_X11_greedy) (0, 0)) (hr : meth.sig.returnType = (some .int)) (hk : meth.locks = false)   (z : St) (s0 : Int32)  {res : St × Int32} (hf : f_X11_greedy_84  z s0 = some res) : Zj p l e (rm_X11_greedy) s m args below meth c g A 4 (0, 0) (QI g A below args s res) z 84 [] [.int s0] := by
  unfold f_X11_greedy_84 at hf
  cases hf
  exact z_iret C hr hk dX11_greedy_84
def f_X11_greedy_64  (z : St) (o0 : Nat) (x1 : Int32) : Option (St × Int32) :=
  if inb x1 8 = true then (f_X11_greedy_84 z (z.1 (rf o0 16) (Int32.toNatClampNeg x1))) else none
theorem b_X11_greedy_64 {p : Program} {l : Launch} {e : Env} {s : State} {m : MethodId} {args : Array Value} {below : List Frame} {meth : Method} {c : Code} {g : Ga} {A : Nat → Prop} (C : Cx l g A p s m args c cX11_greedy 4 RX11 (rm_X11_greedy) (0, 0)) (hr : meth.sig.returnType = (some .int)) (hk : meth.locks = false)   (z : St) (o0 : Nat) (x1 : Int32) (ho0 : kd o0 = 11) {res : St × Int32} (hf : f_X11_greedy_64  z o0 x1 = some res) : Zj p l e (rm_X11_greedy) s m args below meth c g A 4 (0, 0) (QI g A below args s res) z 64 [(0, .ref (g.1 o0)), (1, .int x1)] [] := by
  unfold f_X11_greedy_64 at hf
  refine z_aload_n C dX11_greedy_64 rfl 0 rfl ?_
  refine gf_X11_37 C dX11_greedy_65 ho0 ?_
  refine z_iload_n C dX11_greedy_68 rfl 1 rfl ?_
  obtain ⟨h1, hf⟩ := q_ck hf
  refine z_iald C (n := 8) dX11_greedy_69 (rt_11_16 _ (kd_lt ho0 (by decide)) ho0) (by decide) h1 ?_
  exact z_goto C dX11_greedy_70 (by decide) (z_sub [] rfl (b_X11_greedy_84 C hr hk z (z.1 (rf o0 16) (Int32.toNatClampNeg x1)) hf))
def f_X11_greedy_73  (z : St) (o0 : Nat) (x1 : Int32) : Option (St × Int32) :=
  if inb x1 8 = true then (if inb (z.1 (rf o0 16) (Int32.toNatClampNeg x1)) 8 = true then (f_X11_greedy_84 z (z.1 (rf o0 17) (Int32.toNatClampNeg (z.1 (rf o0 16) (Int32.toNatClampNeg x1))))) else none) else none
theorem b_X11_greedy_73 {p : Program} {l : Launch} {e : Env} {s : State} {m : MethodId} {args : Array Value} {below : List Frame} {meth : Method} {c : Code} {g : Ga} {A : Nat → Prop} (C : Cx l g A p s m args c cX11_greedy 4 RX11 (rm_X11_greedy) (0, 0)) (hr : meth.sig.returnType = (some .int)) (hk : meth.locks = false)   (z : St) (o0 : Nat) (x1 : Int32) (ho0 : kd o0 = 11) {res : St × Int32} (hf : f_X11_greedy_73  z o0 x1 = some res) : Zj p l e (rm_X11_greedy) s m args below meth c g A 4 (0, 0) (QI g A below args s res) z 73 [(0, .ref (g.1 o0)), (1, .int x1)] [] := by
  unfold f_X11_greedy_73 at hf
  refine z_aload_n C dX11_greedy_73 rfl 0 rfl ?_
  refine gf_X11_40 C dX11_greedy_74 ho0 ?_
  refine z_aload_n C dX11_greedy_77 rfl 0 rfl ?_
  refine gf_X11_37 C dX11_greedy_78 ho0 ?_
  refine z_iload_n C dX11_greedy_81 rfl 1 rfl ?_
  obtain ⟨h1, hf⟩ := q_ck hf
  refine z_iald C (n := 8) dX11_greedy_82 (rt_11_16 _ (kd_lt ho0 (by decide)) ho0) (by decide) h1 ?_
  obtain ⟨h2, hf⟩ := q_ck hf
  refine z_iald C (n := 8) dX11_greedy_83 (rt_11_17 _ (kd_lt ho0 (by decide)) ho0) (by decide) h2 ?_
  exact z_sub [] rfl (b_X11_greedy_84 C hr hk z (z.1 (rf o0 17) (Int32.toNatClampNeg (z.1 (rf o0 16) (Int32.toNatClampNeg x1)))) hf)
def f_X11_greedy_60  (z : St) (o0 : Nat) (x1 : Int32) (x2 : Int32) : Option (St × Int32) :=
  if x2 = 0 then f_X11_greedy_64 z o0 x1 else f_X11_greedy_73 z o0 x1
theorem b_X11_greedy_60 {p : Program} {l : Launch} {e : Env} {s : State} {m : MethodId} {args : Array Value} {below : List Frame} {meth : Method} {c : Code} {g : Ga} {A : Nat → Prop} (C : Cx l g A p s m args c cX11_greedy 4 RX11 (rm_X11_greedy) (0, 0)) (hr : meth.sig.returnType = (some .int)) (hk : meth.locks = false)   (z : St) (o0 : Nat) (x1 : Int32) (x2 : Int32) (ho0 : kd o0 = 11) {res : St × Int32} (hf : f_X11_greedy_60  z o0 x1 x2 = some res) : Zj p l e (rm_X11_greedy) s m args below meth c g A 4 (0, 0) (QI g A below args s res) z 60 [(0, .ref (g.1 o0)), (1, .int x1), (2, .int x2)] [] := by
  unfold f_X11_greedy_60 at hf
  refine z_iload_n C dX11_greedy_60 rfl 2 rfl ?_
  exact z_if_ne C dX11_greedy_61 (by decide) (fun h => z_sub [0, 1] rfl (b_X11_greedy_73 C hr hk z o0 x1 ho0 (q_f hf h))) (fun h => z_sub [0, 1] rfl (b_X11_greedy_64 C hr hk z o0 x1 ho0 (q_t hf h)))
def f_X11_greedy_29  (z : St) (o0 : Nat) (x1 : Int32) (x2 : Int32) : Option (St × Int32) :=
  ((f_X11_thinks z o0).bind fun r1 => ((f_X11_greedily r1 o0).bind fun r3 => if 0 ≤ x1 then f_X11_greedy_60 r3.1 o0 x1 x2 else f_X11_greedy_42 r3.1 o0 x2 r3.2))
theorem b_X11_greedy_29 {p : Program} {l : Launch} {e : Env} {s : State} {m : MethodId} {args : Array Value} {below : List Frame} {meth : Method} {c : Code} {g : Ga} {A : Nat → Prop} (C : Cx l g A p s m args c cX11_greedy 4 RX11 (rm_X11_greedy) (0, 0)) (hr : meth.sig.returnType = (some .int)) (hk : meth.locks = false)   (z : St) (o0 : Nat) (x1 : Int32) (x2 : Int32) (ho0 : kd o0 = 11) {res : St × Int32} (hf : f_X11_greedy_29  z o0 x1 x2 = some res) : Zj p l e (rm_X11_greedy) s m args below meth c g A 4 (0, 0) (QI g A below args s res) z 29 [(0, .ref (g.1 o0)), (1, .int x1), (2, .int x2)] [] := by
  unfold f_X11_greedy_29 at hf
  refine z_aload_n C dX11_greedy_29 rfl 0 rfl ?_
  obtain ⟨r1, hc2, hf⟩ := q_bd hf
  refine z_cVv C (st := []) (c_X11_thinks ho0 hc2) mw_X11_thinks ml_X11_205 ho0 (by decide) rfl dX11_greedy_30 rfl rfl rfl ⟨Nat.le_of_ble_eq_true rfl, Nat.le_of_ble_eq_true rfl⟩ rfl (Nat.le_of_ble_eq_true rfl) ?_
  refine z_aload_n C dX11_greedy_33 rfl 0 rfl ?_
  obtain ⟨r3, hc4, hf⟩ := q_bd hf
  refine z_cVi C (st := []) (c_X11_greedily ho0 hc4) mw_X11_greedily ml_X11_208 ho0 (by decide) rfl dX11_greedy_34 rfl rfl rfl ⟨Nat.le_of_ble_eq_true rfl, Nat.le_of_ble_eq_true rfl⟩ rfl (Nat.le_of_ble_eq_true rfl) ?_
  refine z_istore_n C (lv2 := [(3, .int r3.2), (0, .ref (g.1 o0)), (1, .int x1), (2, .int x2)]) dX11_greedy_37 rfl (by decide) rfl ?_
  refine z_iload_n C dX11_greedy_38 rfl 2 rfl ?_
  exact z_if_ge C dX11_greedy_39 (by decide) (fun h => z_sub [1, 2, 3] rfl (b_X11_greedy_60 C hr hk r3.1 o0 x1 x2 ho0 (q_t hf h))) (fun h => z_sub [1, 3, 0] rfl (b_X11_greedy_42 C hr hk r3.1 o0 x2 r3.2 ho0 (q_f hf h)))
def f_X11_greedy_12  (z : St) (o0 : Nat) (x1 : Int32) (x2 : Int32) : Option (St × Int32) :=
  ((f_X11_in z x1 ((-1)) ((z.1 o0 5) - 1)).bind fun r1 => if r1.2 = 0 then f_X11_greedy_26 r1.1 else f_X11_greedy_29 r1.1 o0 x1 x2)
theorem b_X11_greedy_12 {p : Program} {l : Launch} {e : Env} {s : State} {m : MethodId} {args : Array Value} {below : List Frame} {meth : Method} {c : Code} {g : Ga} {A : Nat → Prop} (C : Cx l g A p s m args c cX11_greedy 4 RX11 (rm_X11_greedy) (0, 0)) (hr : meth.sig.returnType = (some .int)) (hk : meth.locks = false)   (z : St) (o0 : Nat) (x1 : Int32) (x2 : Int32) (ho0 : kd o0 = 11) {res : St × Int32} (hf : f_X11_greedy_12  z o0 x1 x2 = some res) : Zj p l e (rm_X11_greedy) s m args below meth c g A 4 (0, 0) (QI g A below args s res) z 12 [(0, .ref (g.1 o0)), (1, .int x1), (2, .int x2)] [] := by
  unfold f_X11_greedy_12 at hf
  refine z_iload_n C dX11_greedy_12 rfl 1 rfl ?_
  refine z_iconst C dX11_greedy_13 (v := (-1)) (by decide) ?_
  refine z_aload_n C dX11_greedy_14 rfl 0 rfl ?_
  refine gf_X11_111 C dX11_greedy_15 ho0 ?_
  refine z_iconst C dX11_greedy_18 (v := 1) (by decide) ?_
  refine z_isub C dX11_greedy_19 ?_
  obtain ⟨r1, hc2, hf⟩ := q_bd hf
  refine z_cSi C (st := []) (c_X11_in  hc2) mw_X11_in ml_X11_114 dX11_greedy_20 rfl rfl rfl ⟨Nat.le_of_ble_eq_true rfl, Nat.le_of_ble_eq_true rfl⟩ rfl (Nat.le_of_ble_eq_true rfl) ?_
  exact z_if_ne C dX11_greedy_23 (by decide) (fun h => z_sub [0, 1, 2] rfl (b_X11_greedy_29 C hr hk r1.1 o0 x1 x2 ho0 (q_f hf h))) (fun h => z_sub [] rfl (b_X11_greedy_26 C hr hk r1.1 (q_t hf h)))
def f_X11_greedy_0  (z : St) (o0 : Nat) (x1 : Int32) (x2 : Int32) : Option (St × Int32) :=
  ((f_X11_in z x2 0 1).bind fun r1 => if r1.2 = 0 then f_X11_greedy_9 r1.1 else f_X11_greedy_12 r1.1 o0 x1 x2)
theorem b_X11_greedy_0 {p : Program} {l : Launch} {e : Env} {s : State} {m : MethodId} {args : Array Value} {below : List Frame} {meth : Method} {c : Code} {g : Ga} {A : Nat → Prop} (C : Cx l g A p s m args c cX11_greedy 4 RX11 (rm_X11_greedy) (0, 0)) (hr : meth.sig.returnType = (some .int)) (hk : meth.locks = false)   (z : St) (o0 : Nat) (x1 : Int32) (x2 : Int32) (ho0 : kd o0 = 11) {res : St × Int32} (hf : f_X11_greedy_0  z o0 x1 x2 = some res) : Zj p l e (rm_X11_greedy) s m args below meth c g A 4 (0, 0) (QI g A below args s res) z 0 [(0, .ref (g.1 o0)), (1, .int x1), (2, .int x2)] [] := by
  unfold f_X11_greedy_0 at hf
  refine z_iload_n C dX11_greedy_0 rfl 2 rfl ?_
  refine z_iconst C dX11_greedy_1 (v := 0) (by decide) ?_
  refine z_iconst C dX11_greedy_2 (v := 1) (by decide) ?_
  obtain ⟨r1, hc2, hf⟩ := q_bd hf
  refine z_cSi C (st := []) (c_X11_in  hc2) mw_X11_in ml_X11_114 dX11_greedy_3 rfl rfl rfl ⟨Nat.le_of_ble_eq_true rfl, Nat.le_of_ble_eq_true rfl⟩ rfl (Nat.le_of_ble_eq_true rfl) ?_
  exact z_if_ne C dX11_greedy_6 (by decide) (fun h => z_sub [0, 1, 2] rfl (b_X11_greedy_12 C hr hk r1.1 o0 x1 x2 ho0 (q_f hf h))) (fun h => z_sub [] rfl (b_X11_greedy_9 C hr hk r1.1 (q_t hf h)))
def f_X11_greedy (z : St) (o0 : Nat) (x1 : Int32) (x2 : Int32) : Option (St × Int32) := f_X11_greedy_0 z o0 x1 x2
theorem c_X11_greedy {l : Launch} {g : Ga} {A : Nat → Prop} {z : St} {o0 : Nat} {x1 : Int32} {x2 : Int32} (ho0 : kd o0 = 11) {res : St × Int32} (hf : f_X11_greedy z o0 x1 x2 = some res) : CI l g A yX11_greedy cX11_greedy 4 (some .int) rm_X11_greedy [.ref (g.1 o0), .int x1, .int x2] z res :=
  e_CI (by decide) (Nat.le_of_ble_eq_true rfl) rfl (fun p e s m args below meth c C hr hk => z_sub [0, 1, 2] rfl (b_X11_greedy_0 C hr hk z o0 x1 x2 ho0 hf))
abbrev rm_X11_bestOpen : Room := { frames := 1, cells := 0, slots := 0, locals := 22 }
def f_X11_bestOpen_46 (K4 : St → Nat → Int32 → Int32 → Int32 → Option (St × Int32)) (z : St) (o0 : Nat) (x1 : Int32) (x2 : Int32) (x3 : Int32) : Option (St × Int32) :=
  K4 z o0 x1 x2 (x3 + 1)
theorem b_X11_bestOpen_46 {p : Program} {l : Launch} {e : Env} {s : State} {m : MethodId} {args : Array Value} {below : List Frame} {meth : Method} {c : Code} {g : Ga} {A : Nat → Prop} (C : Cx l g A p s m args c cX11_bestOpen 4 RX11 (rm_X11_bestOpen) (0, 0)) (hr : meth.sig.returnType = (some .int)) (hk : meth.locks = false) {K4 : St → Nat → Int32 → Int32 → Int32 → Option (St × Int32)} (hK4 : ∀ (z : St) (o0 : Nat) (x1 : Int32) (x2 : Int32) (x3 : Int32) (_ : kd o0 = 11) {res : St × Int32}, K4 z o0 x1 x2 x3 = some res → Zj p l e (rm_X11_bestOpen) s m args below meth c g A 4 (0, 0) (QI g A below args s res) z 4 [(0, .ref (g.1 o0)), (1, .int x1), (2, .int x2), (3, .int x3)] []) (z : St) (o0 : Nat) (x1 : Int32) (x2 : Int32) (x3 : Int32) (ho0 : kd o0 = 11) {res : St × Int32} (hf : f_X11_bestOpen_46 K4 z o0 x1 x2 x3 = some res) : Zj p l e (rm_X11_bestOpen) s m args below meth c g A 4 (0, 0) (QI g A below args s res) z 46 [(0, .ref (g.1 o0)), (1, .int x1), (2, .int x2), (3, .int x3)] [] := by
  unfold f_X11_bestOpen_46 at hf
  refine z_iinc C (k := 3) (v := x3 + 1) (lv2 := [(3, .int (x3 + 1)), (0, .ref (g.1 o0)), (1, .int x1), (2, .int x2)]) dX11_bestOpen_46 rfl rfl (by decide) rfl ?_
  exact z_goto C dX11_bestOpen_49 (by decide) (z_sub [1, 2, 3, 0] rfl (hK4 z o0 x1 x2 (x3 + 1) ho0 hf))
def f_X11_bestOpen_44 (K4 : St → Nat → Int32 → Int32 → Int32 → Option (St × Int32)) (z : St) (o0 : Nat) (x1 : Int32) (x3 : Int32) : Option (St × Int32) :=
  f_X11_bestOpen_46 K4 z o0 x1 x3 x3
theorem b_X11_bestOpen_44 {p : Program} {l : Launch} {e : Env} {s : State} {m : MethodId} {args : Array Value} {below : List Frame} {meth : Method} {c : Code} {g : Ga} {A : Nat → Prop} (C : Cx l g A p s m args c cX11_bestOpen 4 RX11 (rm_X11_bestOpen) (0, 0)) (hr : meth.sig.returnType = (some .int)) (hk : meth.locks = false) {K4 : St → Nat → Int32 → Int32 → Int32 → Option (St × Int32)} (hK4 : ∀ (z : St) (o0 : Nat) (x1 : Int32) (x2 : Int32) (x3 : Int32) (_ : kd o0 = 11) {res : St × Int32}, K4 z o0 x1 x2 x3 = some res → Zj p l e (rm_X11_bestOpen) s m args below meth c g A 4 (0, 0) (QI g A below args s res) z 4 [(0, .ref (g.1 o0)), (1, .int x1), (2, .int x2), (3, .int x3)] []) (z : St) (o0 : Nat) (x1 : Int32) (x3 : Int32) (ho0 : kd o0 = 11) {res : St × Int32} (hf : f_X11_bestOpen_44 K4 z o0 x1 x3 = some res) : Zj p l e (rm_X11_bestOpen) s m args below meth c g A 4 (0, 0) (QI g A below args s res) z 44 [(0, .ref (g.1 o0)), (1, .int x1), (3, .int x3)] [] := by
  unfold f_X11_bestOpen_44 at hf
  refine z_iload_n C dX11_bestOpen_44 rfl 2 rfl ?_
  refine z_istore_n C (lv2 := [(2, .int x3), (0, .ref (g.1 o0)), (1, .int x1), (3, .int x3)]) dX11_bestOpen_45 rfl (by decide) rfl ?_
  exact z_sub [1, 2, 0, 3] rfl (b_X11_bestOpen_46 C hr hk hK4 z o0 x1 x3 x3 ho0 hf)
def f_X11_bestOpen_35 (K4 : St → Nat → Int32 → Int32 → Int32 → Option (St × Int32)) (z : St) (o0 : Nat) (x1 : Int32) (x2 : Int32) (x3 : Int32) : Option (St × Int32) :=
  ((f_X11_isAhead z o0 x3 x2).bind fun r1 => if r1.2 = 0 then f_X11_bestOpen_46 K4 r1.1 o0 x1 x2 x3 else f_X11_bestOpen_44 K4 r1.1 o0 x1 x3)
theorem b_X11_bestOpen_35 {p : Program} {l : Launch} {e : Env} {s : State} {m : MethodId} {args : Array Value} {below : List Frame} {meth : Method} {c : Code} {g : Ga} {A : Nat → Prop} (C : Cx l g A p s m args c cX11_bestOpen 4 RX11 (rm_X11_bestOpen) (0, 0)) (hr : meth.sig.returnType = (some .int)) (hk : meth.locks = false) {K4 : St → Nat → Int32 → Int32 → Int32 → Option (St × Int32)} (hK4 : ∀ (z : St) (o0 : Nat) (x1 : Int32) (x2 : Int32) (x3 : Int32) (_ : kd o0 = 11) {res : St × Int32}, K4 z o0 x1 x2 x3 = some res → Zj p l e (rm_X11_bestOpen) s m args below meth c g A 4 (0, 0) (QI g A below args s res) z 4 [(0, .ref (g.1 o0)), (1, .int x1), (2, .int x2), (3, .int x3)] []) (z : St) (o0 : Nat) (x1 : Int32) (x2 : Int32) (x3 : Int32) (ho0 : kd o0 = 11) {res : St × Int32} (hf : f_X11_bestOpen_35 K4 z o0 x1 x2 x3 = some res) : Zj p l e (rm_X11_bestOpen) s m args below meth c g A 4 (0, 0) (QI g A below args s res) z 35 [(0, .ref (g.1 o0)), (1, .int x1), (2, .int x2), (3, .int x3)] [] := by
  unfold f_X11_bestOpen_35 at hf
  refine z_aload_n C dX11_bestOpen_35 rfl 0 rfl ?_
  refine z_iload_n C dX11_bestOpen_36 rfl 3 rfl ?_
  refine z_iload_n C dX11_bestOpen_37 rfl 2 rfl ?_
  obtain ⟨r1, hc2, hf⟩ := q_bd hf
  refine z_cVi C (st := []) (c_X11_isAhead ho0 hc2) mw_X11_isAhead ml_X11_190 ho0 (by decide) rfl dX11_bestOpen_38 rfl rfl rfl ⟨Nat.le_of_ble_eq_true rfl, Nat.le_of_ble_eq_true rfl⟩ rfl (Nat.le_of_ble_eq_true rfl) ?_
  exact z_if_eq C dX11_bestOpen_41 (by decide) (fun h => z_sub [0, 1, 2, 3] rfl (b_X11_bestOpen_46 C hr hk hK4 r1.1 o0 x1 x2 x3 ho0 (q_t hf h))) (fun h => z_sub [0, 1, 3] rfl (b_X11_bestOpen_44 C hr hk hK4 r1.1 o0 x1 x3 ho0 (q_f hf h)))
def f_X11_bestOpen_31 (K4 : St → Nat → Int32 → Int32 → Int32 → Option (St × Int32)) (z : St) (o0 : Nat) (x1 : Int32) (x2 : Int32) (x3 : Int32) : Option (St × Int32) :=
  if x2 < 0 then f_X11_bestOpen_44 K4 z o0 x1 x3 else f_X11_bestOpen_35 K4 z o0 x1 x2 x3
theorem b_X11_bestOpen_31 {p : Program} {l : Launch} {e : Env} {s : State} {m : MethodId} {args : Array Value} {below : List Frame} {meth : Method} {c : Code} {g : Ga} {A : Nat → Prop} (C : Cx l g A p s m args c cX11_bestOpen 4 RX11 (rm_X11_bestOpen) (0, 0)) (hr : meth.sig.returnType = (some .int)) (hk : meth.locks = false) {K4 : St → Nat → Int32 → Int32 → Int32 → Option (St × Int32)} (hK4 : ∀ (z : St) (o0 : Nat) (x1 : Int32) (x2 : Int32) (x3 : Int32) (_ : kd o0 = 11) {res : St × Int32}, K4 z o0 x1 x2 x3 = some res → Zj p l e (rm_X11_bestOpen) s m args below meth c g A 4 (0, 0) (QI g A below args s res) z 4 [(0, .ref (g.1 o0)), (1, .int x1), (2, .int x2), (3, .int x3)] []) (z : St) (o0 : Nat) (x1 : Int32) (x2 : Int32) (x3 : Int32) (ho0 : kd o0 = 11) {res : St × Int32} (hf : f_X11_bestOpen_31 K4 z o0 x1 x2 x3 = some res) : Zj p l e (rm_X11_bestOpen) s m args below meth c g A 4 (0, 0) (QI g A below args s res) z 31 [(0, .ref (g.1 o0)), (1, .int x1), (2, .int x2), (3, .int x3)] [] := by
  unfold f_X11_bestOpen_31 at hf
  refine z_iload_n C dX11_bestOpen_31 rfl 2 rfl ?_
  exact z_if_lt C dX11_bestOpen_32 (by decide) (fun h => z_sub [0, 1, 3] rfl (b_X11_bestOpen_44 C hr hk hK4 z o0 x1 x3 ho0 (q_t hf h))) (fun h => z_sub [0, 1, 2, 3] rfl (b_X11_bestOpen_35 C hr hk hK4 z o0 x1 x2 x3 ho0 (q_f hf h)))
def f_X11_bestOpen_21 (K4 : St → Nat → Int32 → Int32 → Int32 → Option (St × Int32)) (z : St) (o0 : Nat) (x1 : Int32) (x2 : Int32) (x3 : Int32) : Option (St × Int32) :=
  if inb x3 8 = true then (if x1 < (z.1 (rf o0 13) (Int32.toNatClampNeg x3)) then f_X11_bestOpen_46 K4 z o0 x1 x2 x3 else f_X11_bestOpen_31 K4 z o0 x1 x2 x3) else none
theorem b_X11_bestOpen_21 {p : Program} {l : Launch} {e : Env} {s : State} {m : MethodId} {args : Array Value} {below : List Frame} {meth : Method} {c : Code} {g : Ga} {A : Nat → Prop} (C : Cx l g A p s m args c cX11_bestOpen 4 RX11 (rm_X11_bestOpen) (0, 0)) (hr : meth.sig.returnType = (some .int)) (hk : meth.locks = false) {K4 : St → Nat → Int32 → Int32 → Int32 → Option (St × Int32)} (hK4 : ∀ (z : St) (o0 : Nat) (x1 : Int32) (x2 : Int32) (x3 : Int32) (_ : kd o0 = 11) {res : St × Int32}, K4 z o0 x1 x2 x3 = some res → Zj p l e (rm_X11_bestOpen) s m args below meth c g A 4 (0, 0) (QI g A below args s res) z 4 [(0, .ref (g.1 o0)), (1, .int x1), (2, .int x2), (3, .int x3)] []) (z : St) (o0 : Nat) (x1 : Int32) (x2 : Int32) (x3 : Int32) (ho0 : kd o0 = 11) {res : St × Int32} (hf : f_X11_bestOpen_21 K4 z o0 x1 x2 x3 = some res) : Zj p l e (rm_X11_bestOpen) s m args below meth c g A 4 (0, 0) (QI g A below args s res) z 21 [(0, .ref (g.1 o0)), (1, .int x1), (2, .int x2), (3, .int x3)] [] := by
  unfold f_X11_bestOpen_21 at hf
  refine z_aload_n C dX11_bestOpen_21 rfl 0 rfl ?_
  refine gf_X11_28 C dX11_bestOpen_22 ho0 ?_
  refine z_iload_n C dX11_bestOpen_25 rfl 3 rfl ?_
  obtain ⟨h1, hf⟩ := q_ck hf
  refine z_iald C (n := 8) dX11_bestOpen_26 (rt_11_13 _ (kd_lt ho0 (by decide)) ho0) (by decide) h1 ?_
  refine z_iload_n C dX11_bestOpen_27 rfl 1 rfl ?_
  exact z_icmp_gt C dX11_bestOpen_28 (by decide) (fun h => z_sub [0, 1, 2, 3] rfl (b_X11_bestOpen_46 C hr hk hK4 z o0 x1 x2 x3 ho0 (q_t hf h))) (fun h => z_sub [0, 1, 2, 3] rfl (b_X11_bestOpen_31 C hr hk hK4 z o0 x1 x2 x3 ho0 (q_f hf h)))
def f_X11_bestOpen_12 (K4 : St → Nat → Int32 → Int32 → Int32 → Option (St × Int32)) (z : St) (o0 : Nat) (x1 : Int32) (x2 : Int32) (x3 : Int32) : Option (St × Int32) :=
  if inb x3 8 = true then (if (z.1 (rf o0 20) (Int32.toNatClampNeg x3)) ≤ 0 then f_X11_bestOpen_46 K4 z o0 x1 x2 x3 else f_X11_bestOpen_21 K4 z o0 x1 x2 x3) else none
theorem b_X11_bestOpen_12 {p : Program} {l : Launch} {e : Env} {s : State} {m : MethodId} {args : Array Value} {below : List Frame} {meth : Method} {c : Code} {g : Ga} {A : Nat → Prop} (C : Cx l g A p s m args c cX11_bestOpen 4 RX11 (rm_X11_bestOpen) (0, 0)) (hr : meth.sig.returnType = (some .int)) (hk : meth.locks = false) {K4 : St → Nat → Int32 → Int32 → Int32 → Option (St × Int32)} (hK4 : ∀ (z : St) (o0 : Nat) (x1 : Int32) (x2 : Int32) (x3 : Int32) (_ : kd o0 = 11) {res : St × Int32}, K4 z o0 x1 x2 x3 = some res → Zj p l e (rm_X11_bestOpen) s m args below meth c g A 4 (0, 0) (QI g A below args s res) z 4 [(0, .ref (g.1 o0)), (1, .int x1), (2, .int x2), (3, .int x3)] []) (z : St) (o0 : Nat) (x1 : Int32) (x2 : Int32) (x3 : Int32) (ho0 : kd o0 = 11) {res : St × Int32} (hf : f_X11_bestOpen_12 K4 z o0 x1 x2 x3 = some res) : Zj p l e (rm_X11_bestOpen) s m args below meth c g A 4 (0, 0) (QI g A below args s res) z 12 [(0, .ref (g.1 o0)), (1, .int x1), (2, .int x2), (3, .int x3)] [] := by
  unfold f_X11_bestOpen_12 at hf
  refine z_aload_n C dX11_bestOpen_12 rfl 0 rfl ?_
  refine gf_X11_46 C dX11_bestOpen_13 ho0 ?_
  refine z_iload_n C dX11_bestOpen_16 rfl 3 rfl ?_
  obtain ⟨h1, hf⟩ := q_ck hf
  refine z_iald C (n := 8) dX11_bestOpen_17 (rt_11_20 _ (kd_lt ho0 (by decide)) ho0) (by decide) h1 ?_
  exact z_if_le C dX11_bestOpen_18 (by decide) (fun h => z_sub [0, 1, 2, 3] rfl (b_X11_bestOpen_46 C hr hk hK4 z o0 x1 x2 x3 ho0 (q_t hf h))) (fun h => z_sub [0, 1, 2, 3] rfl (b_X11_bestOpen_21 C hr hk hK4 z o0 x1 x2 x3 ho0 (q_f hf h)))
def f_X11_bestOpen_52  (z : St) (x2 : Int32) : Option (St × Int32) :=
  some (z, x2)
theorem b_X11_bestOpen_52 {p : Program} {l : Launch} {e : Env} {s : State} {m : MethodId} {args : Array Value} {below : List Frame} {meth : Method} {c : Code} {g : Ga} {A : Nat → Prop} (C : Cx l g A p s m args c cX11_bestOpen 4 RX11 (rm_X11_bestOpen) (0, 0)) (hr : meth.sig.returnType = (some .int)) (hk : meth.locks = false)   (z : St) (x2 : Int32)  {res : St × Int32} (hf : f_X11_bestOpen_52  z x2 = some res) : Zj p l e (rm_X11_bestOpen) s m args below meth c g A 4 (0, 0) (QI g A below args s res) z 52 [(2, .int x2)] [] := by
  unfold f_X11_bestOpen_52 at hf
  refine z_iload_n C dX11_bestOpen_52 rfl 0 rfl ?_
  cases hf
  exact z_iret C hr hk dX11_bestOpen_53
def f_X11_bestOpen_4  : Nat → St → Nat → Int32 → Int32 → Int32 → Option (St × Int32)
  | 0, _, _, _, _, _ => none
  | n + 1, z, o0, x1, x2, x3 => if (z.1 o0 5) ≤ x3 then f_X11_bestOpen_52 z x2 else f_X11_bestOpen_12 (f_X11_bestOpen_4 n) z o0 x1 x2 x3
theorem b_X11_bestOpen_4 {p : Program} {l : Launch} {e : Env} {s : State} {m : MethodId} {args : Array Value} {below : List Frame} {meth : Method} {c : Code} {g : Ga} {A : Nat → Prop} (C : Cx l g A p s m args c cX11_bestOpen 4 RX11 (rm_X11_bestOpen) (0, 0)) (hr : meth.sig.returnType = (some .int)) (hk : meth.locks = false)   : ∀ (n : Nat) (z : St) (o0 : Nat) (x1 : Int32) (x2 : Int32) (x3 : Int32) (_ : kd o0 = 11) {res : St × Int32} (_ : f_X11_bestOpen_4  n z o0 x1 x2 x3 = some res), Zj p l e (rm_X11_bestOpen) s m args below meth c g A 4 (0, 0) (QI g A below args s res) z 4 [(0, .ref (g.1 o0)), (1, .int x1), (2, .int x2), (3, .int x3)] [] := by
  intro n
  induction n with
  | zero =>
    intro z o0 x1 x2 x3 ho0 res hf
    cases hf
  | succ n ih =>
    intro z o0 x1 x2 x3 ho0 res hf
    rw [f_X11_bestOpen_4] at hf
    refine z_iload_n C dX11_bestOpen_4 rfl 3 rfl ?_
    refine z_aload_n C dX11_bestOpen_5 rfl 0 rfl ?_
    refine gf_X11_111 C dX11_bestOpen_6 ho0 ?_
    exact z_icmp_ge C dX11_bestOpen_9 (by decide) (fun h => z_sub [2] rfl (b_X11_bestOpen_52 C hr hk z x2 (q_t hf h))) (fun h => z_sub [0, 1, 2, 3] rfl (b_X11_bestOpen_12 C hr hk ih z o0 x1 x2 x3 ho0 (q_f hf h)))
def f_X11_bestOpen_0  (z : St) (o0 : Nat) (x1 : Int32) : Option (St × Int32) :=
  f_X11_bestOpen_4 FU z o0 x1 ((-1)) 0
theorem b_X11_bestOpen_0 {p : Program} {l : Launch} {e : Env} {s : State} {m : MethodId} {args : Array Value} {below : List Frame} {meth : Method} {c : Code} {g : Ga} {A : Nat → Prop} (C : Cx l g A p s m args c cX11_bestOpen 4 RX11 (rm_X11_bestOpen) (0, 0)) (hr : meth.sig.returnType = (some .int)) (hk : meth.locks = false)   (z : St) (o0 : Nat) (x1 : Int32) (ho0 : kd o0 = 11) {res : St × Int32} (hf : f_X11_bestOpen_0  z o0 x1 = some res) : Zj p l e (rm_X11_bestOpen) s m args below meth c g A 4 (0, 0) (QI g A below args s res) z 0 [(0, .ref (g.1 o0)), (1, .int x1)] [] := by
  unfold f_X11_bestOpen_0 at hf
  refine z_iconst C dX11_bestOpen_0 (v := (-1)) (by decide) ?_
  refine z_istore_n C (lv2 := [(2, .int ((-1))), (0, .ref (g.1 o0)), (1, .int x1)]) dX11_bestOpen_1 rfl (by decide) rfl ?_
  refine z_iconst C dX11_bestOpen_2 (v := 0) (by decide) ?_
  refine z_istore_n C (lv2 := [(3, .int 0), (2, .int ((-1))), (0, .ref (g.1 o0)), (1, .int x1)]) dX11_bestOpen_3 rfl (by decide) rfl ?_
  exact z_sub [2, 3, 1, 0] rfl (b_X11_bestOpen_4 C hr hk FU z o0 x1 ((-1)) 0 ho0 hf)
def f_X11_bestOpen (z : St) (o0 : Nat) (x1 : Int32) : Option (St × Int32) := f_X11_bestOpen_0 z o0 x1
theorem c_X11_bestOpen {l : Launch} {g : Ga} {A : Nat → Prop} {z : St} {o0 : Nat} {x1 : Int32} (ho0 : kd o0 = 11) {res : St × Int32} (hf : f_X11_bestOpen z o0 x1 = some res) : CI l g A yX11_bestOpen cX11_bestOpen 4 (some .int) rm_X11_bestOpen [.ref (g.1 o0), .int x1] z res :=
  e_CI (by decide) (Nat.le_of_ble_eq_true rfl) rfl (fun p e s m args below meth c C hr hk => z_sub [0, 1] rfl (b_X11_bestOpen_0 C hr hk z o0 x1 ho0 hf))
abbrev rm_X11_breakingly : Room := { frames := 2, cells := 0, slots := 0, locals := 45 }
def f_X11_breakingly_12 (K4 : St → Nat → Int32 → Int32 → Option (St × Int32)) (z : St) (o0 : Nat) (x1 : Int32) (x2 : Int32) : Option (St × Int32) :=
  if inb x2 8 = true then (if inb x2 8 = true then (if inb x2 8 = true then (K4 (zI z (rf o0 20) (Int32.toNatClampNeg x2) (z.1 (rf o0 14) (Int32.toNatClampNeg x2))) o0 (x1 + ((zI z (rf o0 20) (Int32.toNatClampNeg x2) (z.1 (rf o0 14) (Int32.toNatClampNeg x2))).1 (rf o0 14) (Int32.toNatClampNeg x2))) (x2 + 1)) else none) else none) else none
theorem b_X11_breakingly_12 {p : Program} {l : Launch} {e : Env} {s : State} {m : MethodId} {args : Array Value} {below : List Frame} {meth : Method} {c : Code} {g : Ga} {A : Nat → Prop} (C : Cx l g A p s m args c cX11_breakingly 6 RX11 (rm_X11_breakingly) (0, 0)) (hr : meth.sig.returnType = (some .int)) (hk : meth.locks = false) {K4 : St → Nat → Int32 → Int32 → Option (St × Int32)} (hK4 : ∀ (z : St) (o0 : Nat) (x1 : Int32) (x2 : Int32) (_ : kd o0 = 11) {res : St × Int32}, K4 z o0 x1 x2 = some res → Zj p l e (rm_X11_breakingly) s m args below meth c g A 6 (0, 0) (QI g A below args s res) z 4 [(0, .ref (g.1 o0)), (1, .int x1), (2, .int x2)] []) (z : St) (o0 : Nat) (x1 : Int32) (x2 : Int32) (ho0 : kd o0 = 11) {res : St × Int32} (hf : f_X11_breakingly_12 K4 z o0 x1 x2 = some res) : Zj p l e (rm_X11_breakingly) s m args below meth c g A 6 (0, 0) (QI g A below args s res) z 12 [(0, .ref (g.1 o0)), (1, .int x1), (2, .int x2)] [] := by
  unfold f_X11_breakingly_12 at hf
  refine z_aload_n C dX11_breakingly_12 rfl 0 rfl ?_
  refine gf_X11_46 C dX11_breakingly_13 ho0 ?_
  refine z_iload_n C dX11_breakingly_16 rfl 2 rfl ?_
  refine z_aload_n C dX11_breakingly_17 rfl 0 rfl ?_
  refine gf_X11_31 C dX11_breakingly_18 ho0 ?_
  refine z_iload_n C dX11_breakingly_21 rfl 2 rfl ?_
  obtain ⟨h1, hf⟩ := q_ck hf
  refine z_iald C (n := 8) dX11_breakingly_22 (rt_11_14 _ (kd_lt ho0 (by decide)) ho0) (by decide) h1 ?_
  obtain ⟨h2, hf⟩ := q_ck hf
  refine z_iast C (n := 8) dX11_breakingly_23 (rt_11_20 _ (kd_lt ho0 (by decide)) ho0) (by decide) h2 ?_
  refine z_iload_n C dX11_breakingly_24 rfl 1 rfl ?_
  refine z_aload_n C dX11_breakingly_25 rfl 0 rfl ?_
  refine gf_X11_31 C dX11_breakingly_26 ho0 ?_
  refine z_iload_n C dX11_breakingly_29 rfl 2 rfl ?_
  obtain ⟨h3, hf⟩ := q_ck hf
  refine z_iald C (n := 8) dX11_breakingly_30 (rt_11_14 _ (kd_lt ho0 (by decide)) ho0) (by decide) h3 ?_
  refine z_iadd C dX11_breakingly_31 ?_
  refine z_istore_n C (lv2 := [(1, .int (x1 + ((zI z (rf o0 20) (Int32.toNatClampNeg x2) (z.1 (rf o0 14) (Int32.toNatClampNeg x2))).1 (rf o0 14) (Int32.toNatClampNeg x2)))), (0, .ref (g.1 o0)), (2, .int x2)]) dX11_breakingly_32 rfl (by decide) rfl ?_
  refine z_iinc C (k := 2) (v := x2 + 1) (lv2 := [(2, .int (x2 + 1)), (1, .int (x1 + ((zI z (rf o0 20) (Int32.toNatClampNeg x2) (z.1 (rf o0 14) (Int32.toNatClampNeg x2))).1 (rf o0 14) (Int32.toNatClampNeg x2)))), (0, .ref (g.1 o0))]) dX11_breakingly_33 rfl rfl (by decide) rfl ?_
  exact z_goto C dX11_breakingly_36 (by decide) (z_sub [2, 1, 0] rfl (hK4 (zI z (rf o0 20) (Int32.toNatClampNeg x2) (z.1 (rf o0 14) (Int32.toNatClampNeg x2))) o0 (x1 + ((zI z (rf o0 20) (Int32.toNatClampNeg x2) (z.1 (rf o0 14) (Int32.toNatClampNeg x2))).1 (rf o0 14) (Int32.toNatClampNeg x2))) (x2 + 1) ho0 hf))
def f_X11_breakingly_149 (K51 : St → Nat → Int32 → Int32 → Int32 → Int32 → Option (St × Int32)) (z : St) (o0 : Nat) (x1 : Int32) (x2 : Int32) (x3 : Int32) (x4 : Int32) : Option (St × Int32) :=
  K51 z o0 x1 x2 x3 (x4 + 1)
theorem b_X11_breakingly_149 {p : Program} {l : Launch} {e : Env} {s : State} {m : MethodId} {args : Array Value} {below : List Frame} {meth : Method} {c : Code} {g : Ga} {A : Nat → Prop} (C : Cx l g A p s m args c cX11_breakingly 6 RX11 (rm_X11_breakingly) (0, 0)) (hr : meth.sig.returnType = (some .int)) (hk : meth.locks = false) {K51 : St → Nat → Int32 → Int32 → Int32 → Int32 → Option (St × Int32)} (hK51 : ∀ (z : St) (o0 : Nat) (x1 : Int32) (x2 : Int32) (x3 : Int32) (x4 : Int32) (_ : kd o0 = 11) {res : St × Int32}, K51 z o0 x1 x2 x3 x4 = some res → Zj p l e (rm_X11_breakingly) s m args below meth c g A 6 (0, 0) (QI g A below args s res) z 51 [(0, .ref (g.1 o0)), (1, .int x1), (2, .int x2), (3, .int x3), (4, .int x4)] []) (z : St) (o0 : Nat) (x1 : Int32) (x2 : Int32) (x3 : Int32) (x4 : Int32) (ho0 : kd o0 = 11) {res : St × Int32} (hf : f_X11_breakingly_149 K51 z o0 x1 x2 x3 x4 = some res) : Zj p l e (rm_X11_breakingly) s m args below meth c g A 6 (0, 0) (QI g A below args s res) z 149 [(0, .ref (g.1 o0)), (1, .int x1), (2, .int x2), (3, .int x3), (4, .int x4)] [] := by
  unfold f_X11_breakingly_149 at hf
  refine z_iinc C (k := 4) (v := x4 + 1) (lv2 := [(4, .int (x4 + 1)), (0, .ref (g.1 o0)), (1, .int x1), (2, .int x2), (3, .int x3)]) dX11_breakingly_149 rfl rfl (by decide) rfl ?_
  exact z_goto C dX11_breakingly_152 (by decide) (z_sub [1, 2, 3, 4, 0] rfl (hK51 z o0 x1 x2 x3 (x4 + 1) ho0 hf))
def f_X11_breakingly_106 (K51 : St → Nat → Int32 → Int32 → Int32 → Int32 → Option (St × Int32)) (z : St) (o0 : Nat) (x1 : Int32) (x2 : Int32) (x3 : Int32) (x4 : Int32) : Option (St × Int32) :=
  f_X11_breakingly_149 K51 z o0 x1 x2 x3 x4
theorem b_X11_breakingly_106 {p : Program} {l : Launch} {e : Env} {s : State} {m : MethodId} {args : Array Value} {below : List Frame} {meth : Method} {c : Code} {g : Ga} {A : Nat → Prop} (C : Cx l g A p s m args c cX11_breakingly 6 RX11 (rm_X11_breakingly) (0, 0)) (hr : meth.sig.returnType = (some .int)) (hk : meth.locks = false) {K51 : St → Nat → Int32 → Int32 → Int32 → Int32 → Option (St × Int32)} (hK51 : ∀ (z : St) (o0 : Nat) (x1 : Int32) (x2 : Int32) (x3 : Int32) (x4 : Int32) (_ : kd o0 = 11) {res : St × Int32}, K51 z o0 x1 x2 x3 x4 = some res → Zj p l e (rm_X11_breakingly) s m args below meth c g A 6 (0, 0) (QI g A below args s res) z 51 [(0, .ref (g.1 o0)), (1, .int x1), (2, .int x2), (3, .int x3), (4, .int x4)] []) (z : St) (o0 : Nat) (x1 : Int32) (x2 : Int32) (x3 : Int32) (x4 : Int32) (ho0 : kd o0 = 11) {res : St × Int32} (hf : f_X11_breakingly_106 K51 z o0 x1 x2 x3 x4 = some res) : Zj p l e (rm_X11_breakingly) s m args below meth c g A 6 (0, 0) (QI g A below args s res) z 106 [(0, .ref (g.1 o0)), (1, .int x1), (2, .int x2), (3, .int x3), (4, .int x4)] [] := by
  unfold f_X11_breakingly_106 at hf
  exact z_goto C dX11_breakingly_106 (by decide) (z_sub [0, 1, 2, 3, 4] rfl (b_X11_breakingly_149 C hr hk hK51 z o0 x1 x2 x3 x4 ho0 hf))
def f_X11_breakingly_131 (K51 : St → Nat → Int32 → Int32 → Int32 → Int32 → Option (St × Int32)) (z : St) (o0 : Nat) (x1 : Int32) (x2 : Int32) (x3 : Int32) (x4 : Int32) : Option (St × Int32) :=
  if inb x3 8 = true then (f_X11_breakingly_149 K51 z o0 x1 (imax x2 ((x4 + 1) + (z.1 (rf o0 15) (Int32.toNatClampNeg x3)))) ((-1)) x4) else none
theorem b_X11_breakingly_131 {p : Program} {l : Launch} {e : Env} {s : State} {m : MethodId} {args : Array Value} {below : List Frame} {meth : Method} {c : Code} {g : Ga} {A : Nat → Prop} (C : Cx l g A p s m args c cX11_breakingly 6 RX11 (rm_X11_breakingly) (0, 0)) (hr : meth.sig.returnType = (some .int)) (hk : meth.locks = false) {K51 : St → Nat → Int32 → Int32 → Int32 → Int32 → Option (St × Int32)} (hK51 : ∀ (z : St) (o0 : Nat) (x1 : Int32) (x2 : Int32) (x3 : Int32) (x4 : Int32) (_ : kd o0 = 11) {res : St × Int32}, K51 z o0 x1 x2 x3 x4 = some res → Zj p l e (rm_X11_breakingly) s m args below meth c g A 6 (0, 0) (QI g A below args s res) z 51 [(0, .ref (g.1 o0)), (1, .int x1), (2, .int x2), (3, .int x3), (4, .int x4)] []) (z : St) (o0 : Nat) (x1 : Int32) (x2 : Int32) (x3 : Int32) (x4 : Int32) (ho0 : kd o0 = 11) {res : St × Int32} (hf : f_X11_breakingly_131 K51 z o0 x1 x2 x3 x4 = some res) : Zj p l e (rm_X11_breakingly) s m args below meth c g A 6 (0, 0) (QI g A below args s res) z 131 [(0, .ref (g.1 o0)), (1, .int x1), (2, .int x2), (3, .int x3), (4, .int x4)] [] := by
  unfold f_X11_breakingly_131 at hf
  refine z_iload_n C dX11_breakingly_131 rfl 2 rfl ?_
  refine z_iload C dX11_breakingly_132 4 rfl ?_
  refine z_iconst C dX11_breakingly_134 (v := 1) (by decide) ?_
  refine z_iadd C dX11_breakingly_135 ?_
  refine z_aload_n C dX11_breakingly_136 rfl 0 rfl ?_
  refine gf_X11_34 C dX11_breakingly_137 ho0 ?_
  refine z_iload_n C dX11_breakingly_140 rfl 3 rfl ?_
  obtain ⟨h1, hf⟩ := q_ck hf
  refine z_iald C (n := 8) dX11_breakingly_141 (rt_11_15 _ (kd_lt ho0 (by decide)) ho0) (by decide) h1 ?_
  refine z_iadd C dX11_breakingly_142 ?_
  refine z_mmax C (st := []) dX11_breakingly_143 ml_X11_126 mm_max.1 mm_i mm_max.2 ⟨Nat.le_of_ble_eq_true rfl, Nat.le_of_ble_eq_true rfl⟩ (Nat.le_of_ble_eq_true rfl) ?_
  refine z_istore_n C (lv2 := [(2, .int (imax x2 ((x4 + 1) + (z.1 (rf o0 15) (Int32.toNatClampNeg x3))))), (0, .ref (g.1 o0)), (1, .int x1), (3, .int x3), (4, .int x4)]) dX11_breakingly_146 rfl (by decide) rfl ?_
  refine z_iconst C dX11_breakingly_147 (v := (-1)) (by decide) ?_
  refine z_istore_n C (lv2 := [(3, .int ((-1))), (2, .int (imax x2 ((x4 + 1) + (z.1 (rf o0 15) (Int32.toNatClampNeg x3))))), (0, .ref (g.1 o0)), (1, .int x1), (4, .int x4)]) dX11_breakingly_148 rfl (by decide) rfl ?_
  exact z_sub [2, 3, 1, 0, 4] rfl (b_X11_breakingly_149 C hr hk hK51 z o0 x1 (imax x2 ((x4 + 1) + (z.1 (rf o0 15) (Int32.toNatClampNeg x3)))) ((-1)) x4 ho0 hf)
def f_X11_breakingly_109 (K51 : St → Nat → Int32 → Int32 → Int32 → Int32 → Option (St × Int32)) (z : St) (o0 : Nat) (x1 : Int32) (x2 : Int32) (x3 : Int32) (x4 : Int32) : Option (St × Int32) :=
  if inb x3 8 = true then (if inb x3 8 = true then (if inb x3 8 = true then (if ((zI z (rf o0 20) (Int32.toNatClampNeg x3) ((z.1 (rf o0 20) (Int32.toNatClampNeg x3)) - 1)).1 (rf o0 20) (Int32.toNatClampNeg x3)) = 0 then f_X11_breakingly_131 K51 (zI z (rf o0 20) (Int32.toNatClampNeg x3) ((z.1 (rf o0 20) (Int32.toNatClampNeg x3)) - 1)) o0 (x1 + (-1)) x2 x3 x4 else f_X11_breakingly_149 K51 (zI z (rf o0 20) (Int32.toNatClampNeg x3) ((z.1 (rf o0 20) (Int32.toNatClampNeg x3)) - 1)) o0 (x1 + (-1)) x2 x3 x4) else none) else none) else none
theorem b_X11_breakingly_109 {p : Program} {l : Launch} {e : Env} {s : State} {m : MethodId} {args : Array Value} {below : List Frame} {meth : Method} {c : Code} {g : Ga} {A : Nat → Prop} (C : Cx l g A p s m args c cX11_breakingly 6 RX11 (rm_X11_breakingly) (0, 0)) (hr : meth.sig.returnType = (some .int)) (hk : meth.locks = false) {K51 : St → Nat → Int32 → Int32 → Int32 → Int32 → Option (St × Int32)} (hK51 : ∀ (z : St) (o0 : Nat) (x1 : Int32) (x2 : Int32) (x3 : Int32) (x4 : Int32) (_ : kd o0 = 11) {res : St × Int32}, K51 z o0 x1 x2 x3 x4 = some res → Zj p l e (rm_X11_breakingly) s m args below meth c g A 6 (0, 0) (QI g A below args s res) z 51 [(0, .ref (g.1 o0)), (1, .int x1), (2, .int x2), (3, .int x3), (4, .int x4)] []) (z : St) (o0 : Nat) (x1 : Int32) (x2 : Int32) (x3 : Int32) (x4 : Int32) (ho0 : kd o0 = 11) {res : St × Int32} (hf : f_X11_breakingly_109 K51 z o0 x1 x2 x3 x4 = some res) : Zj p l e (rm_X11_breakingly) s m args below meth c g A 6 (0, 0) (QI g A below args s res) z 109 [(0, .ref (g.1 o0)), (1, .int x1), (2, .int x2), (3, .int x3), (4, .int x4)] [] := by
  unfold f_X11_breakingly_109 at hf
  refine z_aload_n C dX11_breakingly_109 rfl 0 rfl ?_
  refine gf_X11_46 C dX11_breakingly_110 ho0 ?_
  refine z_iload_n C dX11_breakingly_113 rfl 3 rfl ?_
  refine z_dup2 C dX11_breakingly_114 rfl rfl ?_
  obtain ⟨h1, hf⟩ := q_ck hf
  refine z_iald C (n := 8) dX11_breakingly_115 (rt_11_20 _ (kd_lt ho0 (by decide)) ho0) (by decide) h1 ?_
  refine z_iconst C dX11_breakingly_116 (v := 1) (by decide) ?_
  refine z_isub C dX11_breakingly_117 ?_
  obtain ⟨h2, hf⟩ := q_ck hf
  refine z_iast C (n := 8) dX11_breakingly_118 (rt_11_20 _ (kd_lt ho0 (by decide)) ho0) (by decide) h2 ?_
  refine z_iinc C (k := 1) (v := x1 + (-1)) (lv2 := [(1, .int (x1 + (-1))), (0, .ref (g.1 o0)), (2, .int x2), (3, .int x3), (4, .int x4)]) dX11_breakingly_119 rfl rfl (by decide) rfl ?_
  refine z_aload_n C dX11_breakingly_122 rfl 1 rfl ?_
  refine gf_X11_46 C dX11_breakingly_123 ho0 ?_
  refine z_iload_n C dX11_breakingly_126 rfl 3 rfl ?_
  obtain ⟨h3, hf⟩ := q_ck hf
  refine z_iald C (n := 8) dX11_breakingly_127 (rt_11_20 _ (kd_lt ho0 (by decide)) ho0) (by decide) h3 ?_
  exact z_if_ne C dX11_breakingly_128 (by decide) (fun h => z_sub [1, 0, 2, 3, 4] rfl (b_X11_breakingly_149 C hr hk hK51 (zI z (rf o0 20) (Int32.toNatClampNeg x3) ((z.1 (rf o0 20) (Int32.toNatClampNeg x3)) - 1)) o0 (x1 + (-1)) x2 x3 x4 ho0 (q_f hf h))) (fun h => z_sub [1, 0, 2, 3, 4] rfl (b_X11_breakingly_131 C hr hk hK51 (zI z (rf o0 20) (Int32.toNatClampNeg x3) ((z.1 (rf o0 20) (Int32.toNatClampNeg x3)) - 1)) o0 (x1 + (-1)) x2 x3 x4 ho0 (q_t hf h)))
def f_X11_breakingly_102 (K51 : St → Nat → Int32 → Int32 → Int32 → Int32 → Option (St × Int32)) (z : St) (o0 : Nat) (x1 : Int32) (x2 : Int32) (x3 : Int32) (x4 : Int32) : Option (St × Int32) :=
  if 0 ≤ x3 then f_X11_breakingly_109 K51 z o0 x1 x2 x3 x4 else f_X11_breakingly_106 K51 z o0 x1 x2 x3 x4
theorem b_X11_breakingly_102 {p : Program} {l : Launch} {e : Env} {s : State} {m : MethodId} {args : Array Value} {below : List Frame} {meth : Method} {c : Code} {g : Ga} {A : Nat → Prop} (C : Cx l g A p s m args c cX11_breakingly 6 RX11 (rm_X11_breakingly) (0, 0)) (hr : meth.sig.returnType = (some .int)) (hk : meth.locks = false) {K51 : St → Nat → Int32 → Int32 → Int32 → Int32 → Option (St × Int32)} (hK51 : ∀ (z : St) (o0 : Nat) (x1 : Int32) (x2 : Int32) (x3 : Int32) (x4 : Int32) (_ : kd o0 = 11) {res : St × Int32}, K51 z o0 x1 x2 x3 x4 = some res → Zj p l e (rm_X11_breakingly) s m args below meth c g A 6 (0, 0) (QI g A below args s res) z 51 [(0, .ref (g.1 o0)), (1, .int x1), (2, .int x2), (3, .int x3), (4, .int x4)] []) (z : St) (o0 : Nat) (x1 : Int32) (x2 : Int32) (x3 : Int32) (x4 : Int32) (ho0 : kd o0 = 11) {res : St × Int32} (hf : f_X11_breakingly_102 K51 z o0 x1 x2 x3 x4 = some res) : Zj p l e (rm_X11_breakingly) s m args below meth c g A 6 (0, 0) (QI g A below args s res) z 102 [(0, .ref (g.1 o0)), (1, .int x1), (2, .int x2), (3, .int x3), (4, .int x4)] [] := by
  unfold f_X11_breakingly_102 at hf
  refine z_iload_n C dX11_breakingly_102 rfl 3 rfl ?_
  exact z_if_ge C dX11_breakingly_103 (by decide) (fun h => z_sub [0, 1, 2, 3, 4] rfl (b_X11_breakingly_109 C hr hk hK51 z o0 x1 x2 x3 x4 ho0 (q_t hf h))) (fun h => z_sub [0, 1, 2, 3, 4] rfl (b_X11_breakingly_106 C hr hk hK51 z o0 x1 x2 x3 x4 ho0 (q_f hf h)))
def f_X11_breakingly_67 (K51 : St → Nat → Int32 → Int32 → Int32 → Int32 → Option (St × Int32)) (z : St) (o0 : Nat) (x1 : Int32) (x2 : Int32) (x4 : Int32) (x5 : Int32) : Option (St × Int32) :=
  f_X11_breakingly_102 K51 z o0 x1 x2 x5 x4
theorem b_X11_breakingly_67 {p : Program} {l : Launch} {e : Env} {s : State} {m : MethodId} {args : Array Value} {below : List Frame} {meth : Method} {c : Code} {g : Ga} {A : Nat → Prop} (C : Cx l g A p s m args c cX11_breakingly 6 RX11 (rm_X11_breakingly) (0, 0)) (hr : meth.sig.returnType = (some .int)) (hk : meth.locks = false) {K51 : St → Nat → Int32 → Int32 → Int32 → Int32 → Option (St × Int32)} (hK51 : ∀ (z : St) (o0 : Nat) (x1 : Int32) (x2 : Int32) (x3 : Int32) (x4 : Int32) (_ : kd o0 = 11) {res : St × Int32}, K51 z o0 x1 x2 x3 x4 = some res → Zj p l e (rm_X11_breakingly) s m args below meth c g A 6 (0, 0) (QI g A below args s res) z 51 [(0, .ref (g.1 o0)), (1, .int x1), (2, .int x2), (3, .int x3), (4, .int x4)] []) (z : St) (o0 : Nat) (x1 : Int32) (x2 : Int32) (x4 : Int32) (x5 : Int32) (ho0 : kd o0 = 11) {res : St × Int32} (hf : f_X11_breakingly_67 K51 z o0 x1 x2 x4 x5 = some res) : Zj p l e (rm_X11_breakingly) s m args below meth c g A 6 (0, 0) (QI g A below args s res) z 67 [(0, .ref (g.1 o0)), (1, .int x1), (2, .int x2), (4, .int x4), (5, .int x5)] [] := by
  unfold f_X11_breakingly_67 at hf
  refine z_iload C dX11_breakingly_67 4 rfl ?_
  refine z_istore_n C (lv2 := [(3, .int x5), (0, .ref (g.1 o0)), (1, .int x1), (2, .int x2), (4, .int x4), (5, .int x5)]) dX11_breakingly_69 rfl (by decide) rfl ?_
  exact z_goto C dX11_breakingly_70 (by decide) (z_sub [1, 2, 3, 0, 4] rfl (b_X11_breakingly_102 C hr hk hK51 z o0 x1 x2 x5 x4 ho0 hf))
def f_X11_breakingly_89 (K51 : St → Nat → Int32 → Int32 → Int32 → Int32 → Option (St × Int32)) (z : St) (o0 : Nat) (x1 : Int32) (x2 : Int32) (x4 : Int32) (x5 : Int32) : Option (St × Int32) :=
  f_X11_breakingly_102 K51 (zI z o0 21 ((z.1 o0 21) + 1)) o0 x1 x2 x5 x4
theorem b_X11_breakingly_89 {p : Program} {l : Launch} {e : Env} {s : State} {m : MethodId} {args : Array Value} {below : List Frame} {meth : Method} {c : Code} {g : Ga} {A : Nat → Prop} (C : Cx l g A p s m args c cX11_breakingly 6 RX11 (rm_X11_breakingly) (0, 0)) (hr : meth.sig.returnType = (some .int)) (hk : meth.locks = false) {K51 : St → Nat → Int32 → Int32 → Int32 → Int32 → Option (St × Int32)} (hK51 : ∀ (z : St) (o0 : Nat) (x1 : Int32) (x2 : Int32) (x3 : Int32) (x4 : Int32) (_ : kd o0 = 11) {res : St × Int32}, K51 z o0 x1 x2 x3 x4 = some res → Zj p l e (rm_X11_breakingly) s m args below meth c g A 6 (0, 0) (QI g A below args s res) z 51 [(0, .ref (g.1 o0)), (1, .int x1), (2, .int x2), (3, .int x3), (4, .int x4)] []) (z : St) (o0 : Nat) (x1 : Int32) (x2 : Int32) (x4 : Int32) (x5 : Int32) (ho0 : kd o0 = 11) {res : St × Int32} (hf : f_X11_breakingly_89 K51 z o0 x1 x2 x4 x5 = some res) : Zj p l e (rm_X11_breakingly) s m args below meth c g A 6 (0, 0) (QI g A below args s res) z 89 [(0, .ref (g.1 o0)), (1, .int x1), (2, .int x2), (4, .int x4), (5, .int x5)] [] := by
  unfold f_X11_breakingly_89 at hf
  refine z_aload_n C dX11_breakingly_89 rfl 0 rfl ?_
  refine z_dup C dX11_breakingly_90 rfl ?_
  refine gf_X11_214 C dX11_breakingly_91 ho0 ?_
  refine z_iconst C dX11_breakingly_94 (v := 1) (by decide) ?_
  refine z_iadd C dX11_breakingly_95 ?_
  refine pf_X11_214 C dX11_breakingly_96 ho0 ?_
  refine z_iload C dX11_breakingly_99 4 rfl ?_
  refine z_istore_n C (lv2 := [(3, .int x5), (0, .ref (g.1 o0)), (1, .int x1), (2, .int x2), (4, .int x4), (5, .int x5)]) dX11_breakingly_101 rfl (by decide) rfl ?_
  exact z_sub [1, 2, 3, 0, 4] rfl (b_X11_breakingly_102 C hr hk hK51 (zI z o0 21 ((z.1 o0 21) + 1)) o0 x1 x2 x5 x4 ho0 hf)
def f_X11_breakingly_73 (K51 : St → Nat → Int32 → Int32 → Int32 → Int32 → Option (St × Int32)) (z : St) (o0 : Nat) (x1 : Int32) (x2 : Int32) (x3 : Int32) (x4 : Int32) (x5 : Int32) : Option (St × Int32) :=
  if inb x5 8 = true then (if inb x3 8 = true then (if (z.1 (rf o0 15) (Int32.toNatClampNeg x5)) ≤ (z.1 (rf o0 15) (Int32.toNatClampNeg x3)) then f_X11_breakingly_102 K51 z o0 x1 x2 x3 x4 else f_X11_breakingly_89 K51 z o0 x1 x2 x4 x5) else none) else none
theorem b_X11_breakingly_73 {p : Program} {l : Launch} {e : Env} {s : State} {m : MethodId} {args : Array Value} {below : List Frame} {meth : Method} {c : Code} {g : Ga} {A : Nat → Prop} (C : Cx l g A p s m args c cX11_breakingly 6 RX11 (rm_X11_breakingly) (0, 0)) (hr : meth.sig.returnType = (some .int)) (hk : meth.locks = false) {K51 : St → Nat → Int32 → Int32 → Int32 → Int32 → Option (St × Int32)} (hK51 : ∀ (z : St) (o0 : Nat) (x1 : Int32) (x2 : Int32) (x3 : Int32) (x4 : Int32) (_ : kd o0 = 11) {res : St × Int32}, K51 z o0 x1 x2 x3 x4 = some res → Zj p l e (rm_X11_breakingly) s m args below meth c g A 6 (0, 0) (QI g A below args s res) z 51 [(0, .ref (g.1 o0)), (1, .int x1), (2, .int x2), (3, .int x3), (4, .int x4)] []) (z : St) (o0 : Nat) (x1 : Int32) (x2 : Int32) (x3 : Int32) (x4 : Int32) (x5 : Int32) (ho0 : kd o0 = 11) {res : St × Int32} (hf : f_X11_breakingly_73 K51 z o0 x1 x2 x3 x4 x5 = some res) : Zj p l e (rm_X11_breakingly) s m args below meth c g A 6 (0, 0) (QI g A below args s res) z 73 [(0, .ref (g.1 o0)), (1, .int x1), (2, .int x2), (3, .int x3), (4, .int x4), (5, .int x5)] [] := by
  unfold f_X11_breakingly_73 at hf
  refine z_aload_n C dX11_breakingly_73 rfl 0 rfl ?_
  refine gf_X11_34 C dX11_breakingly_74 ho0 ?_
  refine z_iload C dX11_breakingly_77 5 rfl ?_
  obtain ⟨h1, hf⟩ := q_ck hf
  refine z_iald C (n := 8) dX11_breakingly_79 (rt_11_15 _ (kd_lt ho0 (by decide)) ho0) (by decide) h1 ?_
  refine z_aload_n C dX11_breakingly_80 rfl 0 rfl ?_
  refine gf_X11_34 C dX11_breakingly_81 ho0 ?_
  refine z_iload_n C dX11_breakingly_84 rfl 3 rfl ?_
  obtain ⟨h2, hf⟩ := q_ck hf
  refine z_iald C (n := 8) dX11_breakingly_85 (rt_11_15 _ (kd_lt ho0 (by decide)) ho0) (by decide) h2 ?_
  exact z_icmp_le C dX11_breakingly_86 (by decide) (fun h => z_sub [0, 1, 2, 3, 4] rfl (b_X11_breakingly_102 C hr hk hK51 z o0 x1 x2 x3 x4 ho0 (q_t hf h))) (fun h => z_sub [0, 1, 2, 4, 5] rfl (b_X11_breakingly_89 C hr hk hK51 z o0 x1 x2 x4 x5 ho0 (q_f hf h)))
def f_X11_breakingly_55 (K51 : St → Nat → Int32 → Int32 → Int32 → Int32 → Option (St × Int32)) (z : St) (o0 : Nat) (x1 : Int32) (x2 : Int32) (x3 : Int32) (x4 : Int32) : Option (St × Int32) :=
  ((f_X11_bestOpen z o0 x4).bind fun r1 => if 0 ≤ x3 then f_X11_breakingly_73 K51 r1.1 o0 x1 x2 x3 x4 r1.2 else f_X11_breakingly_67 K51 r1.1 o0 x1 x2 x4 r1.2)
theorem b_X11_breakingly_55 {p : Program} {l : Launch} {e : Env} {s : State} {m : MethodId} {args : Array Value} {below : List Frame} {meth : Method} {c : Code} {g : Ga} {A : Nat → Prop} (C : Cx l g A p s m args c cX11_breakingly 6 RX11 (rm_X11_breakingly) (0, 0)) (hr : meth.sig.returnType = (some .int)) (hk : meth.locks = false) {K51 : St → Nat → Int32 → Int32 → Int32 → Int32 → Option (St × Int32)} (hK51 : ∀ (z : St) (o0 : Nat) (x1 : Int32) (x2 : Int32) (x3 : Int32) (x4 : Int32) (_ : kd o0 = 11) {res : St × Int32}, K51 z o0 x1 x2 x3 x4 = some res → Zj p l e (rm_X11_breakingly) s m args below meth c g A 6 (0, 0) (QI g A below args s res) z 51 [(0, .ref (g.1 o0)), (1, .int x1), (2, .int x2), (3, .int x3), (4, .int x4)] []) (z : St) (o0 : Nat) (x1 : Int32) (x2 : Int32) (x3 : Int32) (x4 : Int32) (ho0 : kd o0 = 11) {res : St × Int32} (hf : f_X11_breakingly_55 K51 z o0 x1 x2 x3 x4 = some res) : Zj p l e (rm_X11_breakingly) s m args below meth c g A 6 (0, 0) (QI g A below args s res) z 55 [(0, .ref (g.1 o0)), (1, .int x1), (2, .int x2), (3, .int x3), (4, .int x4)] [] := by
  unfold f_X11_breakingly_55 at hf
  refine z_aload_n C dX11_breakingly_55 rfl 0 rfl ?_
  refine z_iload C dX11_breakingly_56 4 rfl ?_
  obtain ⟨r1, hc2, hf⟩ := q_bd hf
  refine z_cVi C (st := []) (c_X11_bestOpen ho0 hc2) mw_X11_bestOpen ml_X11_217 ho0 (by decide) rfl dX11_breakingly_58 rfl rfl rfl ⟨Nat.le_of_ble_eq_true rfl, Nat.le_of_ble_eq_true rfl⟩ rfl (Nat.le_of_ble_eq_true rfl) ?_
  refine z_istore C (lv2 := [(5, .int r1.2), (0, .ref (g.1 o0)), (1, .int x1), (2, .int x2), (3, .int x3), (4, .int x4)]) dX11_breakingly_61 (by decide) rfl ?_
  refine z_iload_n C dX11_breakingly_63 rfl 4 rfl ?_
  exact z_if_ge C dX11_breakingly_64 (by decide) (fun h => z_sub [1, 2, 3, 4, 5, 0] rfl (b_X11_breakingly_73 C hr hk hK51 r1.1 o0 x1 x2 x3 x4 r1.2 ho0 (q_t hf h))) (fun h => z_sub [1, 2, 3, 5, 0] rfl (b_X11_breakingly_67 C hr hk hK51 r1.1 o0 x1 x2 x4 r1.2 ho0 (q_f hf h)))
def f_X11_breakingly_155  (z : St) (x2 : Int32) : Option (St × Int32) :=
  some (z, x2)
theorem b_X11_breakingly_155 {p : Program} {l : Launch} {e : Env} {s : State} {m : MethodId} {args : Array Value} {below : List Frame} {meth : Method} {c : Code} {g : Ga} {A : Nat → Prop} (C : Cx l g A p s m args c cX11_breakingly 6 RX11 (rm_X11_breakingly) (0, 0)) (hr : meth.sig.returnType = (some .int)) (hk : meth.locks = false)   (z : St) (x2 : Int32)  {res : St × Int32} (hf : f_X11_breakingly_155  z x2 = some res) : Zj p l e (rm_X11_breakingly) s m args below meth c g A 6 (0, 0) (QI g A below args s res) z 155 [(2, .int x2)] [] := by
  unfold f_X11_breakingly_155 at hf
  refine z_iload_n C dX11_breakingly_155 rfl 0 rfl ?_
  cases hf
  exact z_iret C hr hk dX11_breakingly_156
def f_X11_breakingly_51  : Nat → St → Nat → Int32 → Int32 → Int32 → Int32 → Option (St × Int32)
  | 0, _, _, _, _, _, _ => none
  | n + 1, z, o0, x1, x2, x3, x4 => if x1 ≤ 0 then f_X11_breakingly_155 z x2 else f_X11_breakingly_55 (f_X11_breakingly_51 n) z o0 x1 x2 x3 x4
theorem b_X11_breakingly_51 {p : Program} {l : Launch} {e : Env} {s : State} {m : MethodId} {args : Array Value} {below : List Frame} {meth : Method} {c : Code} {g : Ga} {A : Nat → Prop} (C : Cx l g A p s m args c cX11_breakingly 6 RX11 (rm_X11_breakingly) (0, 0)) (hr : meth.sig.returnType = (some .int)) (hk : meth.locks = false)   : ∀ (n : Nat) (z : St) (o0 : Nat) (x1 : Int32) (x2 : Int32) (x3 : Int32) (x4 : Int32) (_ : kd o0 = 11) {res : St × Int32} (_ : f_X11_breakingly_51  n z o0 x1 x2 x3 x4 = some res), Zj p l e (rm_X11_breakingly) s m args below meth c g A 6 (0, 0) (QI g A below args s res) z 51 [(0, .ref (g.1 o0)), (1, .int x1), (2, .int x2), (3, .int x3), (4, .int x4)] [] := by
  intro n
  induction n with
  | zero =>
    intro z o0 x1 x2 x3 x4 ho0 res hf
    cases hf
  | succ n ih =>
    intro z o0 x1 x2 x3 x4 ho0 res hf
    rw [f_X11_breakingly_51] at hf
    refine z_iload_n C dX11_breakingly_51 rfl 1 rfl ?_
    exact z_if_le C dX11_breakingly_52 (by decide) (fun h => z_sub [2] rfl (b_X11_breakingly_155 C hr hk z x2 (q_t hf h))) (fun h => z_sub [0, 1, 2, 3, 4] rfl (b_X11_breakingly_55 C hr hk ih z o0 x1 x2 x3 x4 ho0 (q_f hf h)))
def f_X11_breakingly_39  (z : St) (o0 : Nat) (x1 : Int32) : Option (St × Int32) :=
  f_X11_breakingly_51 FU (zI z o0 21 0) o0 x1 0 ((-1)) 0
theorem b_X11_breakingly_39 {p : Program} {l : Launch} {e : Env} {s : State} {m : MethodId} {args : Array Value} {below : List Frame} {meth : Method} {c : Code} {g : Ga} {A : Nat → Prop} (C : Cx l g A p s m args c cX11_breakingly 6 RX11 (rm_X11_breakingly) (0, 0)) (hr : meth.sig.returnType = (some .int)) (hk : meth.locks = false)   (z : St) (o0 : Nat) (x1 : Int32) (ho0 : kd o0 = 11) {res : St × Int32} (hf : f_X11_breakingly_39  z o0 x1 = some res) : Zj p l e (rm_X11_breakingly) s m args below meth c g A 6 (0, 0) (QI g A below args s res) z 39 [(0, .ref (g.1 o0)), (1, .int x1)] [] := by
  unfold f_X11_breakingly_39 at hf
  refine z_aload_n C dX11_breakingly_39 rfl 0 rfl ?_
  refine z_iconst C dX11_breakingly_40 (v := 0) (by decide) ?_
  refine pf_X11_214 C dX11_breakingly_41 ho0 ?_
  refine z_iconst C dX11_breakingly_44 (v := 0) (by decide) ?_
  refine z_istore_n C (lv2 := [(2, .int 0), (0, .ref (g.1 o0)), (1, .int x1)]) dX11_breakingly_45 rfl (by decide) rfl ?_
  refine z_iconst C dX11_breakingly_46 (v := (-1)) (by decide) ?_
  refine z_istore_n C (lv2 := [(3, .int ((-1))), (2, .int 0), (0, .ref (g.1 o0)), (1, .int x1)]) dX11_breakingly_47 rfl (by decide) rfl ?_
  refine z_iconst C dX11_breakingly_48 (v := 0) (by decide) ?_
  refine z_istore C (lv2 := [(4, .int 0), (3, .int ((-1))), (2, .int 0), (0, .ref (g.1 o0)), (1, .int x1)]) dX11_breakingly_49 (by decide) rfl ?_
  exact z_sub [3, 4, 2, 1, 0] rfl (b_X11_breakingly_51 C hr hk FU (zI z o0 21 0) o0 x1 0 ((-1)) 0 ho0 hf)
def f_X11_breakingly_4  : Nat → St → Nat → Int32 → Int32 → Option (St × Int32)
  | 0, _, _, _, _ => none
  | n + 1, z, o0, x1, x2 => if (z.1 o0 5) ≤ x2 then f_X11_breakingly_39 z o0 x1 else f_X11_breakingly_12 (f_X11_breakingly_4 n) z o0 x1 x2
theorem b_X11_breakingly_4 {p : Program} {l : Launch} {e : Env} {s : State} {m : MethodId} {args : Array Value} {below : List Frame} {meth : Method} {c : Code} {g : Ga} {A : Nat → Prop} (C : Cx l g A p s m args c cX11_breakingly 6 RX11 (rm_X11_breakingly) (0, 0)) (hr : meth.sig.returnType = (some .int)) (hk : meth.locks = false)   : ∀ (n : Nat) (z : St) (o0 : Nat) (x1 : Int32) (x2 : Int32) (_ : kd o0 = 11) {res : St × Int32} (_ : f_X11_breakingly_4  n z o0 x1 x2 = some res), Zj p l e (rm_X11_breakingly) s m args below meth c g A 6 (0, 0) (QI g A below args s res) z 4 [(0, .ref (g.1 o0)), (1, .int x1), (2, .int x2)] [] := by
  intro n
  induction n with
  | zero =>
    intro z o0 x1 x2 ho0 res hf
    cases hf
  | succ n ih =>
    intro z o0 x1 x2 ho0 res hf
    rw [f_X11_breakingly_4] at hf
    refine z_iload_n C dX11_breakingly_4 rfl 2 rfl ?_
    refine z_aload_n C dX11_breakingly_5 rfl 0 rfl ?_
    refine gf_X11_111 C dX11_breakingly_6 ho0 ?_
    exact z_icmp_ge C dX11_breakingly_9 (by decide) (fun h => z_sub [0, 1] rfl (b_X11_breakingly_39 C hr hk z o0 x1 ho0 (q_t hf h))) (fun h => z_sub [0, 1, 2] rfl (b_X11_breakingly_12 C hr hk ih z o0 x1 x2 ho0 (q_f hf h)))
def f_X11_breakingly_0  (z : St) (o0 : Nat) : Option (St × Int32) :=
  f_X11_breakingly_4 FU z o0 0 0
theorem b_X11_breakingly_0 {p : Program} {l : Launch} {e : Env} {s : State} {m : MethodId} {args : Array Value} {below : List Frame} {meth : Method} {c : Code} {g : Ga} {A : Nat → Prop} (C : Cx l g A p s m args c cX11_breakingly 6 RX11 (rm_X11_breakingly) (0, 0)) (hr : meth.sig.returnType = (some .int)) (hk : meth.locks = false)   (z : St) (o0 : Nat) (ho0 : kd o0 = 11) {res : St × Int32} (hf : f_X11_breakingly_0  z o0 = some res) : Zj p l e (rm_X11_breakingly) s m args below meth c g A 6 (0, 0) (QI g A below args s res) z 0 [(0, .ref (g.1 o0))] [] := by
  unfold f_X11_breakingly_0 at hf
  refine z_iconst C dX11_breakingly_0 (v := 0) (by decide) ?_
  refine z_istore_n C (lv2 := [(1, .int 0), (0, .ref (g.1 o0))]) dX11_breakingly_1 rfl (by decide) rfl ?_
  refine z_iconst C dX11_breakingly_2 (v := 0) (by decide) ?_
  refine z_istore_n C (lv2 := [(2, .int 0), (1, .int 0), (0, .ref (g.1 o0))]) dX11_breakingly_3 rfl (by decide) rfl ?_
  exact z_sub [2, 1, 0] rfl (b_X11_breakingly_4 C hr hk FU z o0 0 0 ho0 hf)
def f_X11_breakingly (z : St) (o0 : Nat) : Option (St × Int32) := f_X11_breakingly_0 z o0
theorem c_X11_breakingly {l : Launch} {g : Ga} {A : Nat → Prop} {z : St} {o0 : Nat} (ho0 : kd o0 = 11) {res : St × Int32} (hf : f_X11_breakingly z o0 = some res) : CI l g A yX11_breakingly cX11_breakingly 6 (some .int) rm_X11_breakingly [.ref (g.1 o0)] z res :=
  e_CI (by decide) (Nat.le_of_ble_eq_true rfl) rfl (fun p e s m args below meth c C hr hk => z_sub [0] rfl (b_X11_breakingly_0 C hr hk z o0 ho0 hf))
abbrev rm_X11_breaking : Room := { frames := 4, cells := 0, slots := 0, locals := 85 }
def f_X11_breaking_9  (z : St)  : Option (St × Int32) :=
  some (z, (-2))
theorem b_X11_breaking_9 {p : Program} {l : Launch} {e : Env} {s : State} {m : MethodId} {args : Array Value} {below : List Frame} {meth : Method} {c : Code} {g : Ga} {A : Nat → Prop} (C : Cx l g A p s m args c cX11_breaking 3 RX11 (rm_X11_breaking) (0, 0)) (hr : meth.sig.returnType = (some .int)) (hk : meth.locks = false)   (z : St)   {res : St × Int32} (hf : f_X11_breaking_9  z  = some res) : Zj p l e (rm_X11_breaking) s m args below meth c g A 3 (0, 0) (QI g A below args s res) z 9 [] [] := by
  unfold f_X11_breaking_9 at hf
  refine z_bipush C dX11_breaking_9 (v := (-2)) (by decide) ?_
  cases hf
  exact z_iret C hr hk dX11_breaking_11
def f_X11_breaking_33  (z : St) (s0 : Int32) : Option (St × Int32) :=
  some (z, s0)
theorem b_X11_breaking_33 {p : Program} {l : Launch} {e : Env} {s : State} {m : MethodId} {args : Array Value} {below : List Frame} {meth : Method} {c : Code} {g : Ga} {A : Nat → Prop} (C : Cx l g A p s m args c cX11_breaking 3 RX11 (rm_X11_breaking) (0, 0)) (hr : meth.sig.returnType = (some .int)) (hk : meth.locks = false)   (z : St) (s0 : Int32)  {res : St × Int32} (hf : f_X11_breaking_33  z s0 = some res) : Zj p l e (rm_X11_breaking) s m args below meth c g A 3 (0, 0) (QI g A below args s res) z 33 [] [.int s0] := by
  unfold f_X11_breaking_33 at hf
  cases hf
  exact z_iret C hr hk dX11_breaking_33
def f_X11_breaking_25  (z : St) (x2 : Int32) : Option (St × Int32) :=
  f_X11_breaking_33 z x2
theorem b_X11_breaking_25 {p : Program} {l : Launch} {e : Env} {s : State} {m : MethodId} {args : Array Value} {below : List Frame} {meth : Method} {c : Code} {g : Ga} {A : Nat → Prop} (C : Cx l g A p s m args c cX11_breaking 3 RX11 (rm_X11_breaking) (0, 0)) (hr : meth.sig.returnType = (some .int)) (hk : meth.locks = false)   (z : St) (x2 : Int32)  {res : St × Int32} (hf : f_X11_breaking_25  z x2 = some res) : Zj p l e (rm_X11_breaking) s m args below meth c g A 3 (0, 0) (QI g A below args s res) z 25 [(2, .int x2)] [] := by
  unfold f_X11_breaking_25 at hf
  refine z_iload_n C dX11_breaking_25 rfl 0 rfl ?_
  exact z_goto C dX11_breaking_26 (by decide) (z_sub [] rfl (b_X11_breaking_33 C hr hk z x2 hf))
def f_X11_breaking_29  (z : St) (o0 : Nat) : Option (St × Int32) :=
  f_X11_breaking_33 z (z.1 o0 21)
theorem b_X11_breaking_29 {p : Program} {l : Launch} {e : Env} {s : State} {m : MethodId} {args : Array Value} {below : List Frame} {meth : Method} {c : Code} {g : Ga} {A : Nat → Prop} (C : Cx l g A p s m args c cX11_breaking 3 RX11 (rm_X11_breaking) (0, 0)) (hr : meth.sig.returnType = (some .int)) (hk : meth.locks = false)   (z : St) (o0 : Nat) (ho0 : kd o0 = 11) {res : St × Int32} (hf : f_X11_breaking_29  z o0 = some res) : Zj p l e (rm_X11_breaking) s m args below meth c g A 3 (0, 0) (QI g A below args s res) z 29 [(0, .ref (g.1 o0))] [] := by
  unfold f_X11_breaking_29 at hf
  refine z_aload_n C dX11_breaking_29 rfl 0 rfl ?_
  refine gf_X11_214 C dX11_breaking_30 ho0 ?_
  exact z_sub [] rfl (b_X11_breaking_33 C hr hk z (z.1 o0 21) hf)
def f_X11_breaking_12  (z : St) (o0 : Nat) (x1 : Int32) : Option (St × Int32) :=
  ((f_X11_thinks z o0).bind fun r1 => ((f_X11_breakingly r1 o0).bind fun r3 => if x1 = 0 then f_X11_breaking_25 r3.1 r3.2 else f_X11_breaking_29 r3.1 o0))
theorem b_X11_breaking_12 {p : Program} {l : Launch} {e : Env} {s : State} {m : MethodId} {args : Array Value} {below : List Frame} {meth : Method} {c : Code} {g : Ga} {A : Nat → Prop} (C : Cx l g A p s m args c cX11_breaking 3 RX11 (rm_X11_breaking) (0, 0)) (hr : meth.sig.returnType = (some .int)) (hk : meth.locks = false)   (z : St) (o0 : Nat) (x1 : Int32) (ho0 : kd o0 = 11) {res : St × Int32} (hf : f_X11_breaking_12  z o0 x1 = some res) : Zj p l e (rm_X11_breaking) s m args below meth c g A 3 (0, 0) (QI g A below args s res) z 12 [(0, .ref (g.1 o0)), (1, .int x1)] [] := by
  unfold f_X11_breaking_12 at hf
  refine z_aload_n C dX11_breaking_12 rfl 0 rfl ?_
  obtain ⟨r1, hc2, hf⟩ := q_bd hf
  refine z_cVv C (st := []) (c_X11_thinks ho0 hc2) mw_X11_thinks ml_X11_205 ho0 (by decide) rfl dX11_breaking_13 rfl rfl rfl ⟨Nat.le_of_ble_eq_true rfl, Nat.le_of_ble_eq_true rfl⟩ rfl (Nat.le_of_ble_eq_true rfl) ?_
  refine z_aload_n C dX11_breaking_16 rfl 0 rfl ?_
  obtain ⟨r3, hc4, hf⟩ := q_bd hf
  refine z_cVi C (st := []) (c_X11_breakingly ho0 hc4) mw_X11_breakingly ml_X11_220 ho0 (by decide) rfl dX11_breaking_17 rfl rfl rfl ⟨Nat.le_of_ble_eq_true rfl, Nat.le_of_ble_eq_true rfl⟩ rfl (Nat.le_of_ble_eq_true rfl) ?_
  refine z_istore_n C (lv2 := [(2, .int r3.2), (0, .ref (g.1 o0)), (1, .int x1)]) dX11_breaking_20 rfl (by decide) rfl ?_
  refine z_iload_n C dX11_breaking_21 rfl 2 rfl ?_
  exact z_if_ne C dX11_breaking_22 (by decide) (fun h => z_sub [1] rfl (b_X11_breaking_29 C hr hk r3.1 o0 ho0 (q_f hf h))) (fun h => z_sub [0] rfl (b_X11_breaking_25 C hr hk r3.1 r3.2 (q_t hf h)))
def f_X11_breaking_0  (z : St) (o0 : Nat) (x1 : Int32) : Option (St × Int32) :=
  ((f_X11_in z x1 0 1).bind fun r1 => if r1.2 = 0 then f_X11_breaking_9 r1.1 else f_X11_breaking_12 r1.1 o0 x1)
theorem b_X11_breaking_0 {p : Program} {l : Launch} {e : Env} {s : State} {m : MethodId} {args : Array Value} {below : List Frame} {meth : Method} {c : Code} {g : Ga} {A : Nat → Prop} (C : Cx l g A p s m args c cX11_breaking 3 RX11 (rm_X11_breaking) (0, 0)) (hr : meth.sig.returnType = (some .int)) (hk : meth.locks = false)   (z : St) (o0 : Nat) (x1 : Int32) (ho0 : kd o0 = 11) {res : St × Int32} (hf : f_X11_breaking_0  z o0 x1 = some res) : Zj p l e (rm_X11_breaking) s m args below meth c g A 3 (0, 0) (QI g A below args s res) z 0 [(0, .ref (g.1 o0)), (1, .int x1)] [] := by
  unfold f_X11_breaking_0 at hf
  refine z_iload_n C dX11_breaking_0 rfl 1 rfl ?_
  refine z_iconst C dX11_breaking_1 (v := 0) (by decide) ?_
  refine z_iconst C dX11_breaking_2 (v := 1) (by decide) ?_
  obtain ⟨r1, hc2, hf⟩ := q_bd hf
  refine z_cSi C (st := []) (c_X11_in  hc2) mw_X11_in ml_X11_114 dX11_breaking_3 rfl rfl rfl ⟨Nat.le_of_ble_eq_true rfl, Nat.le_of_ble_eq_true rfl⟩ rfl (Nat.le_of_ble_eq_true rfl) ?_
  exact z_if_ne C dX11_breaking_6 (by decide) (fun h => z_sub [0, 1] rfl (b_X11_breaking_12 C hr hk r1.1 o0 x1 ho0 (q_f hf h))) (fun h => z_sub [] rfl (b_X11_breaking_9 C hr hk r1.1 (q_t hf h)))
def f_X11_breaking (z : St) (o0 : Nat) (x1 : Int32) : Option (St × Int32) := f_X11_breaking_0 z o0 x1
theorem c_X11_breaking {l : Launch} {g : Ga} {A : Nat → Prop} {z : St} {o0 : Nat} {x1 : Int32} (ho0 : kd o0 = 11) {res : St × Int32} (hf : f_X11_breaking z o0 x1 = some res) : CI l g A yX11_breaking cX11_breaking 3 (some .int) rm_X11_breaking [.ref (g.1 o0), .int x1] z res :=
  e_CI (by decide) (Nat.le_of_ble_eq_true rfl) rfl (fun p e s m args below meth c C hr hk => z_sub [0, 1] rfl (b_X11_breaking_0 C hr hk z o0 x1 ho0 hf))
abbrev rm_X11_looks : Room := { frames := 0, cells := 0, slots := 0, locals := 0 }
def f_X11_looks_41 (K4 : St → Nat → Int32 → Int32 → Int32 → Option (St)) (z : St) (o0 : Nat) (x1 : Int32) (x2 : Int32) (x3 : Int32) : Option (St) :=
  K4 z o0 x1 x2 (x3 + 1)
theorem b_X11_looks_41 {p : Program} {l : Launch} {e : Env} {s : State} {m : MethodId} {args : Array Value} {below : List Frame} {meth : Method} {c : Code} {g : Ga} {A : Nat → Prop} (C : Cx l g A p s m args c cX11_looks 6 RX11 (rm_X11_looks) (0, 0)) (hr : meth.sig.returnType = none) (hk : meth.locks = false) {K4 : St → Nat → Int32 → Int32 → Int32 → Option (St)} (hK4 : ∀ (z : St) (o0 : Nat) (x1 : Int32) (x2 : Int32) (x3 : Int32) (_ : kd o0 = 11) {res : St}, K4 z o0 x1 x2 x3 = some res → Zj p l e (rm_X11_looks) s m args below meth c g A 6 (0, 0) (QV g A below args s res) z 4 [(0, .ref (g.1 o0)), (1, .int x1), (2, .int x2), (3, .int x3)] []) (z : St) (o0 : Nat) (x1 : Int32) (x2 : Int32) (x3 : Int32) (ho0 : kd o0 = 11) {res : St} (hf : f_X11_looks_41 K4 z o0 x1 x2 x3 = some res) : Zj p l e (rm_X11_looks) s m args below meth c g A 6 (0, 0) (QV g A below args s res) z 41 [(0, .ref (g.1 o0)), (1, .int x1), (2, .int x2), (3, .int x3)] [] := by
  unfold f_X11_looks_41 at hf
  refine z_iinc C (k := 3) (v := x3 + 1) (lv2 := [(3, .int (x3 + 1)), (0, .ref (g.1 o0)), (1, .int x1), (2, .int x2)]) dX11_looks_41 rfl rfl (by decide) rfl ?_
  exact z_goto C dX11_looks_44 (by decide) (z_sub [1, 2, 3, 0] rfl (hK4 z o0 x1 x2 (x3 + 1) ho0 hf))
def f_X11_looks_39 (K4 : St → Nat → Int32 → Int32 → Int32 → Option (St)) (z : St) (o0 : Nat) (x1 : Int32) (x3 : Int32) : Option (St) :=
  f_X11_looks_41 K4 z o0 x1 x3 x3
theorem b_X11_looks_39 {p : Program} {l : Launch} {e : Env} {s : State} {m : MethodId} {args : Array Value} {below : List Frame} {meth : Method} {c : Code} {g : Ga} {A : Nat → Prop} (C : Cx l g A p s m args c cX11_looks 6 RX11 (rm_X11_looks) (0, 0)) (hr : meth.sig.returnType = none) (hk : meth.locks = false) {K4 : St → Nat → Int32 → Int32 → Int32 → Option (St)} (hK4 : ∀ (z : St) (o0 : Nat) (x1 : Int32) (x2 : Int32) (x3 : Int32) (_ : kd o0 = 11) {res : St}, K4 z o0 x1 x2 x3 = some res → Zj p l e (rm_X11_looks) s m args below meth c g A 6 (0, 0) (QV g A below args s res) z 4 [(0, .ref (g.1 o0)), (1, .int x1), (2, .int x2), (3, .int x3)] []) (z : St) (o0 : Nat) (x1 : Int32) (x3 : Int32) (ho0 : kd o0 = 11) {res : St} (hf : f_X11_looks_39 K4 z o0 x1 x3 = some res) : Zj p l e (rm_X11_looks) s m args below meth c g A 6 (0, 0) (QV g A below args s res) z 39 [(0, .ref (g.1 o0)), (1, .int x1), (3, .int x3)] [] := by
  unfold f_X11_looks_39 at hf
  refine z_iload_n C dX11_looks_39 rfl 2 rfl ?_
  refine z_istore_n C (lv2 := [(2, .int x3), (0, .ref (g.1 o0)), (1, .int x1), (3, .int x3)]) dX11_looks_40 rfl (by decide) rfl ?_
  exact z_sub [1, 2, 0, 3] rfl (b_X11_looks_41 C hr hk hK4 z o0 x1 x3 x3 ho0 hf)
def f_X11_looks_12 (K4 : St → Nat → Int32 → Int32 → Int32 → Option (St)) (z : St) (o0 : Nat) (x1 : Int32) (x2 : Int32) (x3 : Int32) : Option (St) :=
  if inb x3 8 = true then (if inb (z.1 (rf o0 16) (Int32.toNatClampNeg x3)) 8 = true then (if inb x3 8 = true then (if inb (z.1 (rf o0 16) (Int32.toNatClampNeg x3)) 8 = true then (if ((z.1 (rf o0 18) (Int32.toNatClampNeg (z.1 (rf o0 16) (Int32.toNatClampNeg x3)))) + (z.1 (rf o0 15) (Int32.toNatClampNeg (z.1 (rf o0 16) (Int32.toNatClampNeg x3))))) = x1 then f_X11_looks_39 K4 z o0 x1 x3 else f_X11_looks_41 K4 z o0 x1 x2 x3) else none) else none) else none) else none
theorem b_X11_looks_12 {p : Program} {l : Launch} {e : Env} {s : State} {m : MethodId} {args : Array Value} {below : List Frame} {meth : Method} {c : Code} {g : Ga} {A : Nat → Prop} (C : Cx l g A p s m args c cX11_looks 6 RX11 (rm_X11_looks) (0, 0)) (hr : meth.sig.returnType = none) (hk : meth.locks = false) {K4 : St → Nat → Int32 → Int32 → Int32 → Option (St)} (hK4 : ∀ (z : St) (o0 : Nat) (x1 : Int32) (x2 : Int32) (x3 : Int32) (_ : kd o0 = 11) {res : St}, K4 z o0 x1 x2 x3 = some res → Zj p l e (rm_X11_looks) s m args below meth c g A 6 (0, 0) (QV g A below args s res) z 4 [(0, .ref (g.1 o0)), (1, .int x1), (2, .int x2), (3, .int x3)] []) (z : St) (o0 : Nat) (x1 : Int32) (x2 : Int32) (x3 : Int32) (ho0 : kd o0 = 11) {res : St} (hf : f_X11_looks_12 K4 z o0 x1 x2 x3 = some res) : Zj p l e (rm_X11_looks) s m args below meth c g A 6 (0, 0) (QV g A below args s res) z 12 [(0, .ref (g.1 o0)), (1, .int x1), (2, .int x2), (3, .int x3)] [] := by
  unfold f_X11_looks_12 at hf
  refine z_aload_n C dX11_looks_12 rfl 0 rfl ?_
  refine gf_X11_43 C dX11_looks_13 ho0 ?_
  refine z_aload_n C dX11_looks_16 rfl 0 rfl ?_
  refine gf_X11_37 C dX11_looks_17 ho0 ?_
  refine z_iload_n C dX11_looks_20 rfl 3 rfl ?_
  obtain ⟨h1, hf⟩ := q_ck hf
  refine z_iald C (n := 8) dX11_looks_21 (rt_11_16 _ (kd_lt ho0 (by decide)) ho0) (by decide) h1 ?_
  obtain ⟨h2, hf⟩ := q_ck hf
  refine z_iald C (n := 8) dX11_looks_22 (rt_11_18 _ (kd_lt ho0 (by decide)) ho0) (by decide) h2 ?_
  refine z_aload_n C dX11_looks_23 rfl 0 rfl ?_
  refine gf_X11_34 C dX11_looks_24 ho0 ?_
  refine z_aload_n C dX11_looks_27 rfl 0 rfl ?_
  refine gf_X11_37 C dX11_looks_28 ho0 ?_
  refine z_iload_n C dX11_looks_31 rfl 3 rfl ?_
  obtain ⟨h3, hf⟩ := q_ck hf
  refine z_iald C (n := 8) dX11_looks_32 (rt_11_16 _ (kd_lt ho0 (by decide)) ho0) (by decide) h3 ?_
  obtain ⟨h4, hf⟩ := q_ck hf
  refine z_iald C (n := 8) dX11_looks_33 (rt_11_15 _ (kd_lt ho0 (by decide)) ho0) (by decide) h4 ?_
  refine z_iadd C dX11_looks_34 ?_
  refine z_iload_n C dX11_looks_35 rfl 1 rfl ?_
  exact z_icmp_ne C dX11_looks_36 (by decide) (fun h => z_sub [0, 1, 2, 3] rfl (b_X11_looks_41 C hr hk hK4 z o0 x1 x2 x3 ho0 (q_f hf h))) (fun h => z_sub [0, 1, 3] rfl (b_X11_looks_39 C hr hk hK4 z o0 x1 x3 ho0 (q_t hf h)))
def f_X11_looks_80 (K49 : St → Nat → Int32 → Int32 → Option (St)) (z : St) (o0 : Nat) (x2 : Int32) (x3 : Int32) : Option (St) :=
  K49 z o0 x2 (x3 + (-1))
theorem b_X11_looks_80 {p : Program} {l : Launch} {e : Env} {s : State} {m : MethodId} {args : Array Value} {below : List Frame} {meth : Method} {c : Code} {g : Ga} {A : Nat → Prop} (C : Cx l g A p s m args c cX11_looks 6 RX11 (rm_X11_looks) (0, 0)) (hr : meth.sig.returnType = none) (hk : meth.locks = false) {K49 : St → Nat → Int32 → Int32 → Option (St)} (hK49 : ∀ (z : St) (o0 : Nat) (x2 : Int32) (x3 : Int32) (_ : kd o0 = 11) {res : St}, K49 z o0 x2 x3 = some res → Zj p l e (rm_X11_looks) s m args below meth c g A 6 (0, 0) (QV g A below args s res) z 49 [(0, .ref (g.1 o0)), (2, .int x2), (3, .int x3)] []) (z : St) (o0 : Nat) (x2 : Int32) (x3 : Int32) (ho0 : kd o0 = 11) {res : St} (hf : f_X11_looks_80 K49 z o0 x2 x3 = some res) : Zj p l e (rm_X11_looks) s m args below meth c g A 6 (0, 0) (QV g A below args s res) z 80 [(0, .ref (g.1 o0)), (2, .int x2), (3, .int x3)] [] := by
  unfold f_X11_looks_80 at hf
  refine z_iinc C (k := 2) (v := x3 + (-1)) (lv2 := [(3, .int (x3 + (-1))), (0, .ref (g.1 o0)), (2, .int x2)]) dX11_looks_80 rfl rfl (by decide) rfl ?_
  exact z_goto C dX11_looks_83 (by decide) (z_sub [1, 2, 0] rfl (hK49 z o0 x2 (x3 + (-1)) ho0 hf))
def f_X11_looks_158 (K128 : St → Nat → Int32 → Int32 → Int32 → Option (St)) (z : St) (o0 : Nat) (x2 : Int32) (x3 : Int32) (x4 : Int32) : Option (St) :=
  K128 z o0 x2 x3 (x4 + (-1))
theorem b_X11_looks_158 {p : Program} {l : Launch} {e : Env} {s : State} {m : MethodId} {args : Array Value} {below : List Frame} {meth : Method} {c : Code} {g : Ga} {A : Nat → Prop} (C : Cx l g A p s m args c cX11_looks 6 RX11 (rm_X11_looks) (0, 0)) (hr : meth.sig.returnType = none) (hk : meth.locks = false) {K128 : St → Nat → Int32 → Int32 → Int32 → Option (St)} (hK128 : ∀ (z : St) (o0 : Nat) (x2 : Int32) (x3 : Int32) (x4 : Int32) (_ : kd o0 = 11) {res : St}, K128 z o0 x2 x3 x4 = some res → Zj p l e (rm_X11_looks) s m args below meth c g A 6 (0, 0) (QV g A below args s res) z 128 [(0, .ref (g.1 o0)), (2, .int x2), (3, .int x3), (4, .int x4)] []) (z : St) (o0 : Nat) (x2 : Int32) (x3 : Int32) (x4 : Int32) (ho0 : kd o0 = 11) {res : St} (hf : f_X11_looks_158 K128 z o0 x2 x3 x4 = some res) : Zj p l e (rm_X11_looks) s m args below meth c g A 6 (0, 0) (QV g A below args s res) z 158 [(0, .ref (g.1 o0)), (2, .int x2), (3, .int x3), (4, .int x4)] [] := by
  unfold f_X11_looks_158 at hf
  refine z_iinc C (k := 3) (v := x4 + (-1)) (lv2 := [(4, .int (x4 + (-1))), (0, .ref (g.1 o0)), (2, .int x2), (3, .int x3)]) dX11_looks_158 rfl rfl (by decide) rfl ?_
  exact z_goto C dX11_looks_161 (by decide) (z_sub [1, 2, 3, 0] rfl (hK128 z o0 x2 x3 (x4 + (-1)) ho0 hf))
def f_X11_looks_170  (z : St)  : Option (St) :=
  some z
theorem b_X11_looks_170 {p : Program} {l : Launch} {e : Env} {s : State} {m : MethodId} {args : Array Value} {below : List Frame} {meth : Method} {c : Code} {g : Ga} {A : Nat → Prop} (C : Cx l g A p s m args c cX11_looks 6 RX11 (rm_X11_looks) (0, 0)) (hr : meth.sig.returnType = none) (hk : meth.locks = false)   (z : St)   {res : St} (hf : f_X11_looks_170  z  = some res) : Zj p l e (rm_X11_looks) s m args below meth c g A 6 (0, 0) (QV g A below args s res) z 170 [] [] := by
  unfold f_X11_looks_170 at hf
  cases hf
  exact z_vret C hr hk dX11_looks_170
def f_X11_looks_194 (K188 : St → Nat → Int32 → Int32 → Option (St)) (z : St) (o0 : Nat) (x2 : Int32) (x5 : Int32) : Option (St) :=
  if inb x5 8 = true then (K188 (zI z o0 25 ((z.1 o0 25) ||| ((1 : Int32) <<< ((z.1 (rf o0 16) (Int32.toNatClampNeg x5)) &&& 31)))) o0 x2 (x5 + 1)) else none
theorem b_X11_looks_194 {p : Program} {l : Launch} {e : Env} {s : State} {m : MethodId} {args : Array Value} {below : List Frame} {meth : Method} {c : Code} {g : Ga} {A : Nat → Prop} (C : Cx l g A p s m args c cX11_looks 6 RX11 (rm_X11_looks) (0, 0)) (hr : meth.sig.returnType = none) (hk : meth.locks = false) {K188 : St → Nat → Int32 → Int32 → Option (St)} (hK188 : ∀ (z : St) (o0 : Nat) (x2 : Int32) (x5 : Int32) (_ : kd o0 = 11) {res : St}, K188 z o0 x2 x5 = some res → Zj p l e (rm_X11_looks) s m args below meth c g A 6 (0, 0) (QV g A below args s res) z 188 [(0, .ref (g.1 o0)), (2, .int x2), (5, .int x5)] []) (z : St) (o0 : Nat) (x2 : Int32) (x5 : Int32) (ho0 : kd o0 = 11) {res : St} (hf : f_X11_looks_194 K188 z o0 x2 x5 = some res) : Zj p l e (rm_X11_looks) s m args below meth c g A 6 (0, 0) (QV g A below args s res) z 194 [(0, .ref (g.1 o0)), (2, .int x2), (5, .int x5)] [] := by
  unfold f_X11_looks_194 at hf
  refine z_aload_n C dX11_looks_194 rfl 0 rfl ?_
  refine z_dup C dX11_looks_195 rfl ?_
  refine gf_X11_235 C dX11_looks_196 ho0 ?_
  refine z_iconst C dX11_looks_199 (v := 1) (by decide) ?_
  refine z_aload_n C dX11_looks_200 rfl 0 rfl ?_
  refine gf_X11_37 C dX11_looks_201 ho0 ?_
  refine z_iload C dX11_looks_204 2 rfl ?_
  obtain ⟨h1, hf⟩ := q_ck hf
  refine z_iald C (n := 8) dX11_looks_206 (rt_11_16 _ (kd_lt ho0 (by decide)) ho0) (by decide) h1 ?_
  refine z_ishl C dX11_looks_207 ?_
  refine z_ior C dX11_looks_208 ?_
  refine pf_X11_235 C dX11_looks_209 ho0 ?_
  refine z_iinc C (k := 2) (v := x5 + 1) (lv2 := [(5, .int (x5 + 1)), (0, .ref (g.1 o0)), (2, .int x2)]) dX11_looks_212 rfl rfl (by decide) rfl ?_
  exact z_goto C dX11_looks_215 (by decide) (z_sub [1, 2, 0] rfl (hK188 (zI z o0 25 ((z.1 o0 25) ||| ((1 : Int32) <<< ((z.1 (rf o0 16) (Int32.toNatClampNeg x5)) &&& 31)))) o0 x2 (x5 + 1) ho0 hf))
def f_X11_looks_218  (z : St)  : Option (St) :=
  some z
theorem b_X11_looks_218 {p : Program} {l : Launch} {e : Env} {s : State} {m : MethodId} {args : Array Value} {below : List Frame} {meth : Method} {c : Code} {g : Ga} {A : Nat → Prop} (C : Cx l g A p s m args c cX11_looks 6 RX11 (rm_X11_looks) (0, 0)) (hr : meth.sig.returnType = none) (hk : meth.locks = false)   (z : St)   {res : St} (hf : f_X11_looks_218  z  = some res) : Zj p l e (rm_X11_looks) s m args below meth c g A 6 (0, 0) (QV g A below args s res) z 218 [] [] := by
  unfold f_X11_looks_218 at hf
  cases hf
  exact z_vret C hr hk dX11_looks_218
def f_X11_looks_188  : Nat → St → Nat → Int32 → Int32 → Option (St)
  | 0, _, _, _, _ => none
  | n + 1, z, o0, x2, x5 => if x2 < x5 then f_X11_looks_218 z else f_X11_looks_194 (f_X11_looks_188 n) z o0 x2 x5
theorem b_X11_looks_188 {p : Program} {l : Launch} {e : Env} {s : State} {m : MethodId} {args : Array Value} {below : List Frame} {meth : Method} {c : Code} {g : Ga} {A : Nat → Prop} (C : Cx l g A p s m args c cX11_looks 6 RX11 (rm_X11_looks) (0, 0)) (hr : meth.sig.returnType = none) (hk : meth.locks = false)   : ∀ (n : Nat) (z : St) (o0 : Nat) (x2 : Int32) (x5 : Int32) (_ : kd o0 = 11) {res : St} (_ : f_X11_looks_188  n z o0 x2 x5 = some res), Zj p l e (rm_X11_looks) s m args below meth c g A 6 (0, 0) (QV g A below args s res) z 188 [(0, .ref (g.1 o0)), (2, .int x2), (5, .int x5)] [] := by
  intro n
  induction n with
  | zero =>
    intro z o0 x2 x5 ho0 res hf
    cases hf
  | succ n ih =>
    intro z o0 x2 x5 ho0 res hf
    rw [f_X11_looks_188] at hf
    refine z_iload C dX11_looks_188 2 rfl ?_
    refine z_iload_n C dX11_looks_190 rfl 1 rfl ?_
    exact z_icmp_gt C dX11_looks_191 (by decide) (fun h => z_sub [] rfl (b_X11_looks_218 C hr hk z (q_t hf h))) (fun h => z_sub [0, 1, 2] rfl (b_X11_looks_194 C hr hk ih z o0 x2 x5 ho0 (q_f hf h)))
def f_X11_looks_171  (z : St) (o0 : Nat) (x2 : Int32) (x4 : Int32) : Option (St) :=
  if inb x4 8 = true then (f_X11_looks_188 FU (zI z o0 24 (z.1 (rf o0 16) (Int32.toNatClampNeg x4))) o0 x2 (x4 + 1)) else none
theorem b_X11_looks_171 {p : Program} {l : Launch} {e : Env} {s : State} {m : MethodId} {args : Array Value} {below : List Frame} {meth : Method} {c : Code} {g : Ga} {A : Nat → Prop} (C : Cx l g A p s m args c cX11_looks 6 RX11 (rm_X11_looks) (0, 0)) (hr : meth.sig.returnType = none) (hk : meth.locks = false)   (z : St) (o0 : Nat) (x2 : Int32) (x4 : Int32) (ho0 : kd o0 = 11) {res : St} (hf : f_X11_looks_171  z o0 x2 x4 = some res) : Zj p l e (rm_X11_looks) s m args below meth c g A 6 (0, 0) (QV g A below args s res) z 171 [(0, .ref (g.1 o0)), (2, .int x2), (4, .int x4)] [] := by
  unfold f_X11_looks_171 at hf
  refine z_aload_n C dX11_looks_171 rfl 0 rfl ?_
  refine z_aload_n C dX11_looks_172 rfl 0 rfl ?_
  refine gf_X11_37 C dX11_looks_173 ho0 ?_
  refine z_iload C dX11_looks_176 2 rfl ?_
  obtain ⟨h1, hf⟩ := q_ck hf
  refine z_iald C (n := 8) dX11_looks_178 (rt_11_16 _ (kd_lt ho0 (by decide)) ho0) (by decide) h1 ?_
  refine pf_X11_232 C dX11_looks_179 ho0 ?_
  refine z_iload C dX11_looks_182 2 rfl ?_
  refine z_iconst C dX11_looks_184 (v := 1) (by decide) ?_
  refine z_iadd C dX11_looks_185 ?_
  refine z_istore C (lv2 := [(5, .int (x4 + 1)), (0, .ref (g.1 o0)), (2, .int x2), (4, .int x4)]) dX11_looks_186 (by decide) rfl ?_
  exact z_sub [1, 2, 0] rfl (b_X11_looks_188 C hr hk FU (zI z o0 24 (z.1 (rf o0 16) (Int32.toNatClampNeg x4))) o0 x2 (x4 + 1) ho0 hf)
def f_X11_looks_164  (z : St) (o0 : Nat) (x2 : Int32) (x3 : Int32) (x4 : Int32) : Option (St) :=
  if x3 ≤ x4 then f_X11_looks_171 z o0 x2 x4 else f_X11_looks_170 z
theorem b_X11_looks_164 {p : Program} {l : Launch} {e : Env} {s : State} {m : MethodId} {args : Array Value} {below : List Frame} {meth : Method} {c : Code} {g : Ga} {A : Nat → Prop} (C : Cx l g A p s m args c cX11_looks 6 RX11 (rm_X11_looks) (0, 0)) (hr : meth.sig.returnType = none) (hk : meth.locks = false)   (z : St) (o0 : Nat) (x2 : Int32) (x3 : Int32) (x4 : Int32) (ho0 : kd o0 = 11) {res : St} (hf : f_X11_looks_164  z o0 x2 x3 x4 = some res) : Zj p l e (rm_X11_looks) s m args below meth c g A 6 (0, 0) (QV g A below args s res) z 164 [(0, .ref (g.1 o0)), (2, .int x2), (3, .int x3), (4, .int x4)] [] := by
  unfold f_X11_looks_164 at hf
  refine z_iload C dX11_looks_164 3 rfl ?_
  refine z_iload_n C dX11_looks_166 rfl 2 rfl ?_
  exact z_icmp_ge C dX11_looks_167 (by decide) (fun h => z_sub [0, 1, 3] rfl (b_X11_looks_171 C hr hk z o0 x2 x4 ho0 (q_t hf h))) (fun h => z_sub [] rfl (b_X11_looks_170 C hr hk z (q_f hf h)))
def f_X11_looks_134 (K128 : St → Nat → Int32 → Int32 → Int32 → Option (St)) (z : St) (o0 : Nat) (x2 : Int32) (x3 : Int32) (x4 : Int32) : Option (St) :=
  if inb x4 8 = true then (if inb (z.1 (rf o0 16) (Int32.toNatClampNeg x4)) 8 = true then (if inb (z.1 o0 22) 8 = true then (if (z.1 (rf o0 15) (Int32.toNatClampNeg (z.1 (rf o0 16) (Int32.toNatClampNeg x4)))) < (z.1 (rf o0 15) (Int32.toNatClampNeg (z.1 o0 22))) then f_X11_looks_164 z o0 x2 x3 x4 else f_X11_looks_158 K128 z o0 x2 x3 x4) else none) else none) else none
theorem b_X11_looks_134 {p : Program} {l : Launch} {e : Env} {s : State} {m : MethodId} {args : Array Value} {below : List Frame} {meth : Method} {c : Code} {g : Ga} {A : Nat → Prop} (C : Cx l g A p s m args c cX11_looks 6 RX11 (rm_X11_looks) (0, 0)) (hr : meth.sig.returnType = none) (hk : meth.locks = false) {K128 : St → Nat → Int32 → Int32 → Int32 → Option (St)} (hK128 : ∀ (z : St) (o0 : Nat) (x2 : Int32) (x3 : Int32) (x4 : Int32) (_ : kd o0 = 11) {res : St}, K128 z o0 x2 x3 x4 = some res → Zj p l e (rm_X11_looks) s m args below meth c g A 6 (0, 0) (QV g A below args s res) z 128 [(0, .ref (g.1 o0)), (2, .int x2), (3, .int x3), (4, .int x4)] []) (z : St) (o0 : Nat) (x2 : Int32) (x3 : Int32) (x4 : Int32) (ho0 : kd o0 = 11) {res : St} (hf : f_X11_looks_134 K128 z o0 x2 x3 x4 = some res) : Zj p l e (rm_X11_looks) s m args below meth c g A 6 (0, 0) (QV g A below args s res) z 134 [(0, .ref (g.1 o0)), (2, .int x2), (3, .int x3), (4, .int x4)] [] := by
  unfold f_X11_looks_134 at hf
  refine z_aload_n C dX11_looks_134 rfl 0 rfl ?_
  refine gf_X11_34 C dX11_looks_135 ho0 ?_
  refine z_aload_n C dX11_looks_138 rfl 0 rfl ?_
  refine gf_X11_37 C dX11_looks_139 ho0 ?_
  refine z_iload C dX11_looks_142 3 rfl ?_
  obtain ⟨h1, hf⟩ := q_ck hf
  refine z_iald C (n := 8) dX11_looks_144 (rt_11_16 _ (kd_lt ho0 (by decide)) ho0) (by decide) h1 ?_
  obtain ⟨h2, hf⟩ := q_ck hf
  refine z_iald C (n := 8) dX11_looks_145 (rt_11_15 _ (kd_lt ho0 (by decide)) ho0) (by decide) h2 ?_
  refine z_aload_n C dX11_looks_146 rfl 0 rfl ?_
  refine gf_X11_34 C dX11_looks_147 ho0 ?_
  refine z_aload_n C dX11_looks_150 rfl 0 rfl ?_
  refine gf_X11_223 C dX11_looks_151 ho0 ?_
  obtain ⟨h3, hf⟩ := q_ck hf
  refine z_iald C (n := 8) dX11_looks_154 (rt_11_15 _ (kd_lt ho0 (by decide)) ho0) (by decide) h3 ?_
  exact z_icmp_lt C dX11_looks_155 (by decide) (fun h => z_sub [0, 1, 2, 3] rfl (b_X11_looks_164 C hr hk z o0 x2 x3 x4 ho0 (q_t hf h))) (fun h => z_sub [0, 1, 2, 3] rfl (b_X11_looks_158 C hr hk hK128 z o0 x2 x3 x4 ho0 (q_f hf h)))
def f_X11_looks_128  : Nat → St → Nat → Int32 → Int32 → Int32 → Option (St)
  | 0, _, _, _, _, _ => none
  | n + 1, z, o0, x2, x3, x4 => if x4 < x3 then f_X11_looks_164 z o0 x2 x3 x4 else f_X11_looks_134 (f_X11_looks_128 n) z o0 x2 x3 x4
theorem b_X11_looks_128 {p : Program} {l : Launch} {e : Env} {s : State} {m : MethodId} {args : Array Value} {below : List Frame} {meth : Method} {c : Code} {g : Ga} {A : Nat → Prop} (C : Cx l g A p s m args c cX11_looks 6 RX11 (rm_X11_looks) (0, 0)) (hr : meth.sig.returnType = none) (hk : meth.locks = false)   : ∀ (n : Nat) (z : St) (o0 : Nat) (x2 : Int32) (x3 : Int32) (x4 : Int32) (_ : kd o0 = 11) {res : St} (_ : f_X11_looks_128  n z o0 x2 x3 x4 = some res), Zj p l e (rm_X11_looks) s m args below meth c g A 6 (0, 0) (QV g A below args s res) z 128 [(0, .ref (g.1 o0)), (2, .int x2), (3, .int x3), (4, .int x4)] [] := by
  intro n
  induction n with
  | zero =>
    intro z o0 x2 x3 x4 ho0 res hf
    cases hf
  | succ n ih =>
    intro z o0 x2 x3 x4 ho0 res hf
    rw [f_X11_looks_128] at hf
    refine z_iload C dX11_looks_128 3 rfl ?_
    refine z_iload_n C dX11_looks_130 rfl 2 rfl ?_
    exact z_icmp_lt C dX11_looks_131 (by decide) (fun h => z_sub [0, 1, 2, 3] rfl (b_X11_looks_164 C hr hk z o0 x2 x3 x4 ho0 (q_t hf h))) (fun h => z_sub [0, 1, 2, 3] rfl (b_X11_looks_134 C hr hk ih z o0 x2 x3 x4 ho0 (q_f hf h)))
def f_X11_looks_86  (z : St) (o0 : Nat) (x2 : Int32) (x3 : Int32) : Option (St) :=
  if inb x2 8 = true then (if inb x3 8 = true then (f_X11_looks_128 FU (zI (zI (zI (zI (zI z o0 22 (z.1 (rf o0 16) (Int32.toNatClampNeg x2))) o0 23 ((zI z o0 22 (z.1 (rf o0 16) (Int32.toNatClampNeg x2))).1 (rf o0 16) (Int32.toNatClampNeg x3))) o0 26 ((x2 - x3) + 1)) o0 24 ((-1))) o0 25 0) o0 x2 x3 x2) else none) else none
theorem b_X11_looks_86 {p : Program} {l : Launch} {e : Env} {s : State} {m : MethodId} {args : Array Value} {below : List Frame} {meth : Method} {c : Code} {g : Ga} {A : Nat → Prop} (C : Cx l g A p s m args c cX11_looks 6 RX11 (rm_X11_looks) (0, 0)) (hr : meth.sig.returnType = none) (hk : meth.locks = false)   (z : St) (o0 : Nat) (x2 : Int32) (x3 : Int32) (ho0 : kd o0 = 11) {res : St} (hf : f_X11_looks_86  z o0 x2 x3 = some res) : Zj p l e (rm_X11_looks) s m args below meth c g A 6 (0, 0) (QV g A below args s res) z 86 [(0, .ref (g.1 o0)), (2, .int x2), (3, .int x3)] [] := by
  unfold f_X11_looks_86 at hf
  refine z_aload_n C dX11_looks_86 rfl 0 rfl ?_
  refine z_aload_n C dX11_looks_87 rfl 0 rfl ?_
  refine gf_X11_37 C dX11_looks_88 ho0 ?_
  refine z_iload_n C dX11_looks_91 rfl 1 rfl ?_
  obtain ⟨h1, hf⟩ := q_ck hf
  refine z_iald C (n := 8) dX11_looks_92 (rt_11_16 _ (kd_lt ho0 (by decide)) ho0) (by decide) h1 ?_
  refine pf_X11_223 C dX11_looks_93 ho0 ?_
  refine z_aload_n C dX11_looks_96 rfl 0 rfl ?_
  refine z_aload_n C dX11_looks_97 rfl 0 rfl ?_
  refine gf_X11_37 C dX11_looks_98 ho0 ?_
  refine z_iload_n C dX11_looks_101 rfl 2 rfl ?_
  obtain ⟨h2, hf⟩ := q_ck hf
  refine z_iald C (n := 8) dX11_looks_102 (rt_11_16 _ (kd_lt ho0 (by decide)) ho0) (by decide) h2 ?_
  refine pf_X11_226 C dX11_looks_103 ho0 ?_
  refine z_aload_n C dX11_looks_106 rfl 0 rfl ?_
  refine z_iload_n C dX11_looks_107 rfl 1 rfl ?_
  refine z_iload_n C dX11_looks_108 rfl 2 rfl ?_
  refine z_isub C dX11_looks_109 ?_
  refine z_iconst C dX11_looks_110 (v := 1) (by decide) ?_
  refine z_iadd C dX11_looks_111 ?_
  refine pf_X11_229 C dX11_looks_112 ho0 ?_
  refine z_aload_n C dX11_looks_115 rfl 0 rfl ?_
  refine z_iconst C dX11_looks_116 (v := (-1)) (by decide) ?_
  refine pf_X11_232 C dX11_looks_117 ho0 ?_
  refine z_aload_n C dX11_looks_120 rfl 0 rfl ?_
  refine z_iconst C dX11_looks_121 (v := 0) (by decide) ?_
  refine pf_X11_235 C dX11_looks_122 ho0 ?_
  refine z_iload_n C dX11_looks_125 rfl 1 rfl ?_
  refine z_istore C (lv2 := [(4, .int x2), (0, .ref (g.1 o0)), (2, .int x2), (3, .int x3)]) dX11_looks_126 (by decide) rfl ?_
  exact z_sub [1, 2, 3, 0] rfl (b_X11_looks_128 C hr hk FU (zI (zI (zI (zI (zI z o0 22 (z.1 (rf o0 16) (Int32.toNatClampNeg x2))) o0 23 ((zI z o0 22 (z.1 (rf o0 16) (Int32.toNatClampNeg x2))).1 (rf o0 16) (Int32.toNatClampNeg x3))) o0 26 ((x2 - x3) + 1)) o0 24 ((-1))) o0 25 0) o0 x2 x3 x2 ho0 hf)
def f_X11_looks_53 (K49 : St → Nat → Int32 → Int32 → Option (St)) (z : St) (o0 : Nat) (x2 : Int32) (x3 : Int32) : Option (St) :=
  if inb (x3 - 1) 8 = true then (if inb (z.1 (rf o0 16) (Int32.toNatClampNeg (x3 - 1))) 8 = true then (if inb x3 8 = true then (if inb (z.1 (rf o0 16) (Int32.toNatClampNeg x3)) 8 = true then (if (z.1 (rf o0 18) (Int32.toNatClampNeg (z.1 (rf o0 16) (Int32.toNatClampNeg (x3 - 1))))) = (z.1 (rf o0 17) (Int32.toNatClampNeg (z.1 (rf o0 16) (Int32.toNatClampNeg x3)))) then f_X11_looks_80 K49 z o0 x2 x3 else f_X11_looks_86 z o0 x2 x3) else none) else none) else none) else none
theorem b_X11_looks_53 {p : Program} {l : Launch} {e : Env} {s : State} {m : MethodId} {args : Array Value} {below : List Frame} {meth : Method} {c : Code} {g : Ga} {A : Nat → Prop} (C : Cx l g A p s m args c cX11_looks 6 RX11 (rm_X11_looks) (0, 0)) (hr : meth.sig.returnType = none) (hk : meth.locks = false) {K49 : St → Nat → Int32 → Int32 → Option (St)} (hK49 : ∀ (z : St) (o0 : Nat) (x2 : Int32) (x3 : Int32) (_ : kd o0 = 11) {res : St}, K49 z o0 x2 x3 = some res → Zj p l e (rm_X11_looks) s m args below meth c g A 6 (0, 0) (QV g A below args s res) z 49 [(0, .ref (g.1 o0)), (2, .int x2), (3, .int x3)] []) (z : St) (o0 : Nat) (x2 : Int32) (x3 : Int32) (ho0 : kd o0 = 11) {res : St} (hf : f_X11_looks_53 K49 z o0 x2 x3 = some res) : Zj p l e (rm_X11_looks) s m args below meth c g A 6 (0, 0) (QV g A below args s res) z 53 [(0, .ref (g.1 o0)), (2, .int x2), (3, .int x3)] [] := by
  unfold f_X11_looks_53 at hf
  refine z_aload_n C dX11_looks_53 rfl 0 rfl ?_
  refine gf_X11_43 C dX11_looks_54 ho0 ?_
  refine z_aload_n C dX11_looks_57 rfl 0 rfl ?_
  refine gf_X11_37 C dX11_looks_58 ho0 ?_
  refine z_iload_n C dX11_looks_61 rfl 2 rfl ?_
  refine z_iconst C dX11_looks_62 (v := 1) (by decide) ?_
  refine z_isub C dX11_looks_63 ?_
  obtain ⟨h1, hf⟩ := q_ck hf
  refine z_iald C (n := 8) dX11_looks_64 (rt_11_16 _ (kd_lt ho0 (by decide)) ho0) (by decide) h1 ?_
  obtain ⟨h2, hf⟩ := q_ck hf
  refine z_iald C (n := 8) dX11_looks_65 (rt_11_18 _ (kd_lt ho0 (by decide)) ho0) (by decide) h2 ?_
  refine z_aload_n C dX11_looks_66 rfl 0 rfl ?_
  refine gf_X11_40 C dX11_looks_67 ho0 ?_
  refine z_aload_n C dX11_looks_70 rfl 0 rfl ?_
  refine gf_X11_37 C dX11_looks_71 ho0 ?_
  refine z_iload_n C dX11_looks_74 rfl 2 rfl ?_
  obtain ⟨h3, hf⟩ := q_ck hf
  refine z_iald C (n := 8) dX11_looks_75 (rt_11_16 _ (kd_lt ho0 (by decide)) ho0) (by decide) h3 ?_
  obtain ⟨h4, hf⟩ := q_ck hf
  refine z_iald C (n := 8) dX11_looks_76 (rt_11_17 _ (kd_lt ho0 (by decide)) ho0) (by decide) h4 ?_
  exact z_icmp_ne C dX11_looks_77 (by decide) (fun h => z_sub [0, 1, 2] rfl (b_X11_looks_86 C hr hk z o0 x2 x3 ho0 (q_f hf h))) (fun h => z_sub [0, 1, 2] rfl (b_X11_looks_80 C hr hk hK49 z o0 x2 x3 ho0 (q_t hf h)))
def f_X11_looks_49  : Nat → St → Nat → Int32 → Int32 → Option (St)
  | 0, _, _, _, _ => none
  | n + 1, z, o0, x2, x3 => if x3 ≤ 0 then f_X11_looks_86 z o0 x2 x3 else f_X11_looks_53 (f_X11_looks_49 n) z o0 x2 x3
theorem b_X11_looks_49 {p : Program} {l : Launch} {e : Env} {s : State} {m : MethodId} {args : Array Value} {below : List Frame} {meth : Method} {c : Code} {g : Ga} {A : Nat → Prop} (C : Cx l g A p s m args c cX11_looks 6 RX11 (rm_X11_looks) (0, 0)) (hr : meth.sig.returnType = none) (hk : meth.locks = false)   : ∀ (n : Nat) (z : St) (o0 : Nat) (x2 : Int32) (x3 : Int32) (_ : kd o0 = 11) {res : St} (_ : f_X11_looks_49  n z o0 x2 x3 = some res), Zj p l e (rm_X11_looks) s m args below meth c g A 6 (0, 0) (QV g A below args s res) z 49 [(0, .ref (g.1 o0)), (2, .int x2), (3, .int x3)] [] := by
  intro n
  induction n with
  | zero =>
    intro z o0 x2 x3 ho0 res hf
    cases hf
  | succ n ih =>
    intro z o0 x2 x3 ho0 res hf
    rw [f_X11_looks_49] at hf
    refine z_iload_n C dX11_looks_49 rfl 2 rfl ?_
    exact z_if_le C dX11_looks_50 (by decide) (fun h => z_sub [0, 1, 2] rfl (b_X11_looks_86 C hr hk z o0 x2 x3 ho0 (q_t hf h))) (fun h => z_sub [0, 1, 2] rfl (b_X11_looks_53 C hr hk ih z o0 x2 x3 ho0 (q_f hf h)))
def f_X11_looks_47  (z : St) (o0 : Nat) (x2 : Int32) : Option (St) :=
  f_X11_looks_49 FU z o0 x2 x2
theorem b_X11_looks_47 {p : Program} {l : Launch} {e : Env} {s : State} {m : MethodId} {args : Array Value} {below : List Frame} {meth : Method} {c : Code} {g : Ga} {A : Nat → Prop} (C : Cx l g A p s m args c cX11_looks 6 RX11 (rm_X11_looks) (0, 0)) (hr : meth.sig.returnType = none) (hk : meth.locks = false)   (z : St) (o0 : Nat) (x2 : Int32) (ho0 : kd o0 = 11) {res : St} (hf : f_X11_looks_47  z o0 x2 = some res) : Zj p l e (rm_X11_looks) s m args below meth c g A 6 (0, 0) (QV g A below args s res) z 47 [(0, .ref (g.1 o0)), (2, .int x2)] [] := by
  unfold f_X11_looks_47 at hf
  refine z_iload_n C dX11_looks_47 rfl 1 rfl ?_
  refine z_istore_n C (lv2 := [(3, .int x2), (0, .ref (g.1 o0)), (2, .int x2)]) dX11_looks_48 rfl (by decide) rfl ?_
  exact z_sub [1, 2, 0] rfl (b_X11_looks_49 C hr hk FU z o0 x2 x2 ho0 hf)
def f_X11_looks_4  : Nat → St → Nat → Int32 → Int32 → Int32 → Option (St)
  | 0, _, _, _, _, _ => none
  | n + 1, z, o0, x1, x2, x3 => if (z.1 o0 5) ≤ x3 then f_X11_looks_47 z o0 x2 else f_X11_looks_12 (f_X11_looks_4 n) z o0 x1 x2 x3
theorem b_X11_looks_4 {p : Program} {l : Launch} {e : Env} {s : State} {m : MethodId} {args : Array Value} {below : List Frame} {meth : Method} {c : Code} {g : Ga} {A : Nat → Prop} (C : Cx l g A p s m args c cX11_looks 6 RX11 (rm_X11_looks) (0, 0)) (hr : meth.sig.returnType = none) (hk : meth.locks = false)   : ∀ (n : Nat) (z : St) (o0 : Nat) (x1 : Int32) (x2 : Int32) (x3 : Int32) (_ : kd o0 = 11) {res : St} (_ : f_X11_looks_4  n z o0 x1 x2 x3 = some res), Zj p l e (rm_X11_looks) s m args below meth c g A 6 (0, 0) (QV g A below args s res) z 4 [(0, .ref (g.1 o0)), (1, .int x1), (2, .int x2), (3, .int x3)] [] := by
  intro n
  induction n with
  | zero =>
    intro z o0 x1 x2 x3 ho0 res hf
    cases hf
  | succ n ih =>
    intro z o0 x1 x2 x3 ho0 res hf
    rw [f_X11_looks_4] at hf
    refine z_iload_n C dX11_looks_4 rfl 3 rfl ?_
    refine z_aload_n C dX11_looks_5 rfl 0 rfl ?_
    refine gf_X11_111 C dX11_looks_6 ho0 ?_
    exact z_icmp_ge C dX11_looks_9 (by decide) (fun h => z_sub [0, 2] rfl (b_X11_looks_47 C hr hk z o0 x2 ho0 (q_t hf h))) (fun h => z_sub [0, 1, 2, 3] rfl (b_X11_looks_12 C hr hk ih z o0 x1 x2 x3 ho0 (q_f hf h)))
def f_X11_looks_0  (z : St) (o0 : Nat) (x1 : Int32) : Option (St) :=
  f_X11_looks_4 FU z o0 x1 0 0
theorem b_X11_looks_0 {p : Program} {l : Launch} {e : Env} {s : State} {m : MethodId} {args : Array Value} {below : List Frame} {meth : Method} {c : Code} {g : Ga} {A : Nat → Prop} (C : Cx l g A p s m args c cX11_looks 6 RX11 (rm_X11_looks) (0, 0)) (hr : meth.sig.returnType = none) (hk : meth.locks = false)   (z : St) (o0 : Nat) (x1 : Int32) (ho0 : kd o0 = 11) {res : St} (hf : f_X11_looks_0  z o0 x1 = some res) : Zj p l e (rm_X11_looks) s m args below meth c g A 6 (0, 0) (QV g A below args s res) z 0 [(0, .ref (g.1 o0)), (1, .int x1)] [] := by
  unfold f_X11_looks_0 at hf
  refine z_iconst C dX11_looks_0 (v := 0) (by decide) ?_
  refine z_istore_n C (lv2 := [(2, .int 0), (0, .ref (g.1 o0)), (1, .int x1)]) dX11_looks_1 rfl (by decide) rfl ?_
  refine z_iconst C dX11_looks_2 (v := 0) (by decide) ?_
  refine z_istore_n C (lv2 := [(3, .int 0), (2, .int 0), (0, .ref (g.1 o0)), (1, .int x1)]) dX11_looks_3 rfl (by decide) rfl ?_
  exact z_sub [2, 3, 1, 0] rfl (b_X11_looks_4 C hr hk FU z o0 x1 0 0 ho0 hf)
def f_X11_looks (z : St) (o0 : Nat) (x1 : Int32) : Option (St) := f_X11_looks_0 z o0 x1
theorem c_X11_looks {l : Launch} {g : Ga} {A : Nat → Prop} {z : St} {o0 : Nat} {x1 : Int32} (ho0 : kd o0 = 11) {res : St} (hf : f_X11_looks z o0 x1 = some res) : CV l g A yX11_looks cX11_looks 6 none rm_X11_looks [.ref (g.1 o0), .int x1] z res :=
  e_CV (by decide) (Nat.le_of_ble_eq_true rfl) rfl (fun p e s m args below meth c C hr hk => z_sub [0, 1] rfl (b_X11_looks_0 C hr hk z o0 x1 ho0 hf))
abbrev rm_X11_critical : Room := { frames := 4, cells := 0, slots := 0, locals := 85 }
def f_X11_critical_9  (z : St)  : Option (St × Int32) :=
  some (z, (-2))
theorem b_X11_critical_9 {p : Program} {l : Launch} {e : Env} {s : State} {m : MethodId} {args : Array Value} {below : List Frame} {meth : Method} {c : Code} {g : Ga} {A : Nat → Prop} (C : Cx l g A p s m args c cX11_critical 2 RX11 (rm_X11_critical) (0, 0)) (hr : meth.sig.returnType = (some .int)) (hk : meth.locks = false)   (z : St)   {res : St × Int32} (hf : f_X11_critical_9  z  = some res) : Zj p l e (rm_X11_critical) s m args below meth c g A 2 (0, 0) (QI g A below args s res) z 9 [] [] := by
  unfold f_X11_critical_9 at hf
  refine z_bipush C dX11_critical_9 (v := (-2)) (by decide) ?_
  cases hf
  exact z_iret C hr hk dX11_critical_11
def f_X11_critical_19  (z : St)  : Option (St × Int32) :=
  some (z, (-3))
theorem b_X11_critical_19 {p : Program} {l : Launch} {e : Env} {s : State} {m : MethodId} {args : Array Value} {below : List Frame} {meth : Method} {c : Code} {g : Ga} {A : Nat → Prop} (C : Cx l g A p s m args c cX11_critical 2 RX11 (rm_X11_critical) (0, 0)) (hr : meth.sig.returnType = (some .int)) (hk : meth.locks = false)   (z : St)   {res : St × Int32} (hf : f_X11_critical_19  z  = some res) : Zj p l e (rm_X11_critical) s m args below meth c g A 2 (0, 0) (QI g A below args s res) z 19 [] [] := by
  unfold f_X11_critical_19 at hf
  refine z_bipush C dX11_critical_19 (v := (-3)) (by decide) ?_
  cases hf
  exact z_iret C hr hk dX11_critical_21
def f_X11_critical_64  (z : St) (o0 : Nat) : Option (St × Int32) :=
  some (z, z.1 o0 22)
theorem b_X11_critical_64 {p : Program} {l : Launch} {e : Env} {s : State} {m : MethodId} {args : Array Value} {below : List Frame} {meth : Method} {c : Code} {g : Ga} {A : Nat → Prop} (C : Cx l g A p s m args c cX11_critical 2 RX11 (rm_X11_critical) (0, 0)) (hr : meth.sig.returnType = (some .int)) (hk : meth.locks = false)   (z : St) (o0 : Nat) (ho0 : kd o0 = 11) {res : St × Int32} (hf : f_X11_critical_64  z o0 = some res) : Zj p l e (rm_X11_critical) s m args below meth c g A 2 (0, 0) (QI g A below args s res) z 64 [(0, .ref (g.1 o0))] [] := by
  unfold f_X11_critical_64 at hf
  refine z_aload_n C dX11_critical_64 rfl 0 rfl ?_
  refine gf_X11_223 C dX11_critical_65 ho0 ?_
  cases hf
  exact z_iret C hr hk dX11_critical_68
def f_X11_critical_69  (z : St) (o0 : Nat) : Option (St × Int32) :=
  some (z, z.1 o0 23)
theorem b_X11_critical_69 {p : Program} {l : Launch} {e : Env} {s : State} {m : MethodId} {args : Array Value} {below : List Frame} {meth : Method} {c : Code} {g : Ga} {A : Nat → Prop} (C : Cx l g A p s m args c cX11_critical 2 RX11 (rm_X11_critical) (0, 0)) (hr : meth.sig.returnType = (some .int)) (hk : meth.locks = false)   (z : St) (o0 : Nat) (ho0 : kd o0 = 11) {res : St × Int32} (hf : f_X11_critical_69  z o0 = some res) : Zj p l e (rm_X11_critical) s m args below meth c g A 2 (0, 0) (QI g A below args s res) z 69 [(0, .ref (g.1 o0))] [] := by
  unfold f_X11_critical_69 at hf
  refine z_aload_n C dX11_critical_69 rfl 0 rfl ?_
  refine gf_X11_226 C dX11_critical_70 ho0 ?_
  cases hf
  exact z_iret C hr hk dX11_critical_73
def f_X11_critical_74  (z : St) (o0 : Nat) : Option (St × Int32) :=
  some (z, z.1 o0 24)
theorem b_X11_critical_74 {p : Program} {l : Launch} {e : Env} {s : State} {m : MethodId} {args : Array Value} {below : List Frame} {meth : Method} {c : Code} {g : Ga} {A : Nat → Prop} (C : Cx l g A p s m args c cX11_critical 2 RX11 (rm_X11_critical) (0, 0)) (hr : meth.sig.returnType = (some .int)) (hk : meth.locks = false)   (z : St) (o0 : Nat) (ho0 : kd o0 = 11) {res : St × Int32} (hf : f_X11_critical_74  z o0 = some res) : Zj p l e (rm_X11_critical) s m args below meth c g A 2 (0, 0) (QI g A below args s res) z 74 [(0, .ref (g.1 o0))] [] := by
  unfold f_X11_critical_74 at hf
  refine z_aload_n C dX11_critical_74 rfl 0 rfl ?_
  refine gf_X11_232 C dX11_critical_75 ho0 ?_
  cases hf
  exact z_iret C hr hk dX11_critical_78
def f_X11_critical_79  (z : St) (o0 : Nat) : Option (St × Int32) :=
  some (z, z.1 o0 25)
theorem b_X11_critical_79 {p : Program} {l : Launch} {e : Env} {s : State} {m : MethodId} {args : Array Value} {below : List Frame} {meth : Method} {c : Code} {g : Ga} {A : Nat → Prop} (C : Cx l g A p s m args c cX11_critical 2 RX11 (rm_X11_critical) (0, 0)) (hr : meth.sig.returnType = (some .int)) (hk : meth.locks = false)   (z : St) (o0 : Nat) (ho0 : kd o0 = 11) {res : St × Int32} (hf : f_X11_critical_79  z o0 = some res) : Zj p l e (rm_X11_critical) s m args below meth c g A 2 (0, 0) (QI g A below args s res) z 79 [(0, .ref (g.1 o0))] [] := by
  unfold f_X11_critical_79 at hf
  refine z_aload_n C dX11_critical_79 rfl 0 rfl ?_
  refine gf_X11_235 C dX11_critical_80 ho0 ?_
  cases hf
  exact z_iret C hr hk dX11_critical_83
def f_X11_critical_84  (z : St) (o0 : Nat) : Option (St × Int32) :=
  some (z, z.1 o0 26)
theorem b_X11_critical_84 {p : Program} {l : Launch} {e : Env} {s : State} {m : MethodId} {args : Array Value} {below : List Frame} {meth : Method} {c : Code} {g : Ga} {A : Nat → Prop} (C : Cx l g A p s m args c cX11_critical 2 RX11 (rm_X11_critical) (0, 0)) (hr : meth.sig.returnType = (some .int)) (hk : meth.locks = false)   (z : St) (o0 : Nat) (ho0 : kd o0 = 11) {res : St × Int32} (hf : f_X11_critical_84  z o0 = some res) : Zj p l e (rm_X11_critical) s m args below meth c g A 2 (0, 0) (QI g A below args s res) z 84 [(0, .ref (g.1 o0))] [] := by
  unfold f_X11_critical_84 at hf
  refine z_aload_n C dX11_critical_84 rfl 0 rfl ?_
  refine gf_X11_229 C dX11_critical_85 ho0 ?_
  cases hf
  exact z_iret C hr hk dX11_critical_88
def f_X11_critical_22  (z : St) (o0 : Nat) (x1 : Int32) : Option (St × Int32) :=
  ((f_X11_thinks z o0).bind fun r1 => ((f_X11_greedily r1 o0).bind fun r3 => ((f_X11_looks r3.1 o0 r3.2).bind fun r5 => if x1 = 0 then f_X11_critical_64 r5 o0 else if x1 = 1 then f_X11_critical_69 r5 o0 else if x1 = 2 then f_X11_critical_74 r5 o0 else if x1 = 3 then f_X11_critical_79 r5 o0 else f_X11_critical_84 r5 o0)))
theorem b_X11_critical_22 {p : Program} {l : Launch} {e : Env} {s : State} {m : MethodId} {args : Array Value} {below : List Frame} {meth : Method} {c : Code} {g : Ga} {A : Nat → Prop} (C : Cx l g A p s m args c cX11_critical 2 RX11 (rm_X11_critical) (0, 0)) (hr : meth.sig.returnType = (some .int)) (hk : meth.locks = false)   (z : St) (o0 : Nat) (x1 : Int32) (ho0 : kd o0 = 11) {res : St × Int32} (hf : f_X11_critical_22  z o0 x1 = some res) : Zj p l e (rm_X11_critical) s m args below meth c g A 2 (0, 0) (QI g A below args s res) z 22 [(0, .ref (g.1 o0)), (1, .int x1)] [] := by
  unfold f_X11_critical_22 at hf
  refine z_aload_n C dX11_critical_22 rfl 0 rfl ?_
  obtain ⟨r1, hc2, hf⟩ := q_bd hf
  refine z_cVv C (st := []) (c_X11_thinks ho0 hc2) mw_X11_thinks ml_X11_205 ho0 (by decide) rfl dX11_critical_23 rfl rfl rfl ⟨Nat.le_of_ble_eq_true rfl, Nat.le_of_ble_eq_true rfl⟩ rfl (Nat.le_of_ble_eq_true rfl) ?_
  refine z_aload_n C dX11_critical_26 rfl 0 rfl ?_
  refine z_aload_n C dX11_critical_27 rfl 0 rfl ?_
  obtain ⟨r3, hc4, hf⟩ := q_bd hf
  refine z_cVi C (st := [.ref (g.1 o0)]) (c_X11_greedily ho0 hc4) mw_X11_greedily ml_X11_208 ho0 (by decide) rfl dX11_critical_28 rfl rfl rfl ⟨Nat.le_of_ble_eq_true rfl, Nat.le_of_ble_eq_true rfl⟩ rfl (Nat.le_of_ble_eq_true rfl) ?_
  obtain ⟨r5, hc6, hf⟩ := q_bd hf
  refine z_cVv C (st := []) (c_X11_looks ho0 hc6) mw_X11_looks ml_X11_238 ho0 (by decide) rfl dX11_critical_31 rfl rfl rfl ⟨Nat.le_of_ble_eq_true rfl, Nat.le_of_ble_eq_true rfl⟩ rfl (Nat.le_of_ble_eq_true rfl) ?_
  refine z_iload_n C dX11_critical_34 rfl 1 rfl ?_
  by_cases h7 : x1 = 0
  · exact z_tblK C dX11_critical_35 (k := 0) h7 (by decide) (by decide) (off := 29) (by decide) (by decide) (z_sub [0] rfl (b_X11_critical_64 C hr hk r5 o0 ho0 (q_t hf h7)))
  replace hf := q_f hf h7
  by_cases h8 : x1 = 1
  · exact z_tblK C dX11_critical_35 (k := 1) h8 (by decide) (by decide) (off := 34) (by decide) (by decide) (z_sub [0] rfl (b_X11_critical_69 C hr hk r5 o0 ho0 (q_t hf h8)))
  replace hf := q_f hf h8
  by_cases h9 : x1 = 2
  · exact z_tblK C dX11_critical_35 (k := 2) h9 (by decide) (by decide) (off := 39) (by decide) (by decide) (z_sub [0] rfl (b_X11_critical_74 C hr hk r5 o0 ho0 (q_t hf h9)))
  replace hf := q_f hf h9
  by_cases h10 : x1 = 3
  · exact z_tblK C dX11_critical_35 (k := 3) h10 (by decide) (by decide) (off := 44) (by decide) (by decide) (z_sub [0] rfl (b_X11_critical_79 C hr hk r5 o0 ho0 (q_t hf h10)))
  replace hf := q_f hf h10
  exact z_tblOut C dX11_critical_35 (tbl_out (lo := 0) (hi := 3) (fun k q1 q2 => by
    rcases (show k = 0 ∨ k = 1 ∨ k = 2 ∨ k = 3 by omega) with rfl | rfl | rfl | rfl
    · exact fun e => h7 (e.symm.trans (by decide))
    · exact fun e => h8 (e.symm.trans (by decide))
    · exact fun e => h9 (e.symm.trans (by decide))
    · exact fun e => h10 (e.symm.trans (by decide)))) (by decide) (z_sub [0] rfl (b_X11_critical_84 C hr hk r5 o0 ho0 hf))
def f_X11_critical_12  (z : St) (o0 : Nat) (x1 : Int32) : Option (St × Int32) :=
  if (z.1 o0 5) = 0 then f_X11_critical_19 z else f_X11_critical_22 z o0 x1
theorem b_X11_critical_12 {p : Program} {l : Launch} {e : Env} {s : State} {m : MethodId} {args : Array Value} {below : List Frame} {meth : Method} {c : Code} {g : Ga} {A : Nat → Prop} (C : Cx l g A p s m args c cX11_critical 2 RX11 (rm_X11_critical) (0, 0)) (hr : meth.sig.returnType = (some .int)) (hk : meth.locks = false)   (z : St) (o0 : Nat) (x1 : Int32) (ho0 : kd o0 = 11) {res : St × Int32} (hf : f_X11_critical_12  z o0 x1 = some res) : Zj p l e (rm_X11_critical) s m args below meth c g A 2 (0, 0) (QI g A below args s res) z 12 [(0, .ref (g.1 o0)), (1, .int x1)] [] := by
  unfold f_X11_critical_12 at hf
  refine z_aload_n C dX11_critical_12 rfl 0 rfl ?_
  refine gf_X11_111 C dX11_critical_13 ho0 ?_
  exact z_if_ne C dX11_critical_16 (by decide) (fun h => z_sub [0, 1] rfl (b_X11_critical_22 C hr hk z o0 x1 ho0 (q_f hf h))) (fun h => z_sub [] rfl (b_X11_critical_19 C hr hk z (q_t hf h)))
def f_X11_critical_0  (z : St) (o0 : Nat) (x1 : Int32) : Option (St × Int32) :=
  ((f_X11_in z x1 0 4).bind fun r1 => if r1.2 = 0 then f_X11_critical_9 r1.1 else f_X11_critical_12 r1.1 o0 x1)
theorem b_X11_critical_0 {p : Program} {l : Launch} {e : Env} {s : State} {m : MethodId} {args : Array Value} {below : List Frame} {meth : Method} {c : Code} {g : Ga} {A : Nat → Prop} (C : Cx l g A p s m args c cX11_critical 2 RX11 (rm_X11_critical) (0, 0)) (hr : meth.sig.returnType = (some .int)) (hk : meth.locks = false)   (z : St) (o0 : Nat) (x1 : Int32) (ho0 : kd o0 = 11) {res : St × Int32} (hf : f_X11_critical_0  z o0 x1 = some res) : Zj p l e (rm_X11_critical) s m args below meth c g A 2 (0, 0) (QI g A below args s res) z 0 [(0, .ref (g.1 o0)), (1, .int x1)] [] := by
  unfold f_X11_critical_0 at hf
  refine z_iload_n C dX11_critical_0 rfl 1 rfl ?_
  refine z_iconst C dX11_critical_1 (v := 0) (by decide) ?_
  refine z_iconst C dX11_critical_2 (v := 4) (by decide) ?_
  obtain ⟨r1, hc2, hf⟩ := q_bd hf
  refine z_cSi C (st := []) (c_X11_in  hc2) mw_X11_in ml_X11_114 dX11_critical_3 rfl rfl rfl ⟨Nat.le_of_ble_eq_true rfl, Nat.le_of_ble_eq_true rfl⟩ rfl (Nat.le_of_ble_eq_true rfl) ?_
  exact z_if_ne C dX11_critical_6 (by decide) (fun h => z_sub [0, 1] rfl (b_X11_critical_12 C hr hk r1.1 o0 x1 ho0 (q_f hf h))) (fun h => z_sub [] rfl (b_X11_critical_9 C hr hk r1.1 (q_t hf h)))
def f_X11_critical (z : St) (o0 : Nat) (x1 : Int32) : Option (St × Int32) := f_X11_critical_0 z o0 x1
theorem c_X11_critical {l : Launch} {g : Ga} {A : Nat → Prop} {z : St} {o0 : Nat} {x1 : Int32} (ho0 : kd o0 = 11) {res : St × Int32} (hf : f_X11_critical z o0 x1 = some res) : CI l g A yX11_critical cX11_critical 2 (some .int) rm_X11_critical [.ref (g.1 o0), .int x1] z res :=
  e_CI (by decide) (Nat.le_of_ble_eq_true rfl) rfl (fun p e s m args below meth c C hr hk => z_sub [0, 1] rfl (b_X11_critical_0 C hr hk z o0 x1 ho0 hf))
abbrev rm_X11_behindTakes : Room := { frames := 0, cells := 0, slots := 0, locals := 0 }
def f_X11_behindTakes_35 (K4 : St → Nat → Int32 → Int32 → Option (St × Int32)) (z : St) (o0 : Nat) (x2 : Int32) (s0 : Int32) (s1 : Int32) : Option (St × Int32) :=
  K4 z o0 (s0 + s1) (x2 + 1)
theorem b_X11_behindTakes_35 {p : Program} {l : Launch} {e : Env} {s : State} {m : MethodId} {args : Array Value} {below : List Frame} {meth : Method} {c : Code} {g : Ga} {A : Nat → Prop} (C : Cx l g A p s m args c cX11_behindTakes 3 RX11 (rm_X11_behindTakes) (0, 0)) (hr : meth.sig.returnType = (some .int)) (hk : meth.locks = false) {K4 : St → Nat → Int32 → Int32 → Option (St × Int32)} (hK4 : ∀ (z : St) (o0 : Nat) (x1 : Int32) (x2 : Int32) (_ : kd o0 = 11) {res : St × Int32}, K4 z o0 x1 x2 = some res → Zj p l e (rm_X11_behindTakes) s m args below meth c g A 3 (0, 0) (QI g A below args s res) z 4 [(0, .ref (g.1 o0)), (1, .int x1), (2, .int x2)] []) (z : St) (o0 : Nat) (x2 : Int32) (s0 : Int32) (s1 : Int32) (ho0 : kd o0 = 11) {res : St × Int32} (hf : f_X11_behindTakes_35 K4 z o0 x2 s0 s1 = some res) : Zj p l e (rm_X11_behindTakes) s m args below meth c g A 3 (0, 0) (QI g A below args s res) z 35 [(0, .ref (g.1 o0)), (2, .int x2)] [.int s1, .int s0] := by
  unfold f_X11_behindTakes_35 at hf
  refine z_iadd C dX11_behindTakes_35 ?_
  refine z_istore_n C (lv2 := [(1, .int (s0 + s1)), (0, .ref (g.1 o0)), (2, .int x2)]) dX11_behindTakes_36 rfl (by decide) rfl ?_
  refine z_iinc C (k := 2) (v := x2 + 1) (lv2 := [(2, .int (x2 + 1)), (1, .int (s0 + s1)), (0, .ref (g.1 o0))]) dX11_behindTakes_37 rfl rfl (by decide) rfl ?_
  exact z_goto C dX11_behindTakes_40 (by decide) (z_sub [2, 1, 0] rfl (hK4 z o0 (s0 + s1) (x2 + 1) ho0 hf))
def f_X11_behindTakes_25 (K4 : St → Nat → Int32 → Int32 → Option (St × Int32)) (z : St) (o0 : Nat) (x2 : Int32) (s0 : Int32) : Option (St × Int32) :=
  if inb x2 8 = true then (f_X11_behindTakes_35 K4 z o0 x2 s0 (z.1 (rf o0 14) (Int32.toNatClampNeg x2))) else none
theorem b_X11_behindTakes_25 {p : Program} {l : Launch} {e : Env} {s : State} {m : MethodId} {args : Array Value} {below : List Frame} {meth : Method} {c : Code} {g : Ga} {A : Nat → Prop} (C : Cx l g A p s m args c cX11_behindTakes 3 RX11 (rm_X11_behindTakes) (0, 0)) (hr : meth.sig.returnType = (some .int)) (hk : meth.locks = false) {K4 : St → Nat → Int32 → Int32 → Option (St × Int32)} (hK4 : ∀ (z : St) (o0 : Nat) (x1 : Int32) (x2 : Int32) (_ : kd o0 = 11) {res : St × Int32}, K4 z o0 x1 x2 = some res → Zj p l e (rm_X11_behindTakes) s m args below meth c g A 3 (0, 0) (QI g A below args s res) z 4 [(0, .ref (g.1 o0)), (1, .int x1), (2, .int x2)] []) (z : St) (o0 : Nat) (x2 : Int32) (s0 : Int32) (ho0 : kd o0 = 11) {res : St × Int32} (hf : f_X11_behindTakes_25 K4 z o0 x2 s0 = some res) : Zj p l e (rm_X11_behindTakes) s m args below meth c g A 3 (0, 0) (QI g A below args s res) z 25 [(0, .ref (g.1 o0)), (2, .int x2)] [.int s0] := by
  unfold f_X11_behindTakes_25 at hf
  refine z_aload_n C dX11_behindTakes_25 rfl 0 rfl ?_
  refine gf_X11_31 C dX11_behindTakes_26 ho0 ?_
  refine z_iload_n C dX11_behindTakes_29 rfl 1 rfl ?_
  obtain ⟨h1, hf⟩ := q_ck hf
  refine z_iald C (n := 8) dX11_behindTakes_30 (rt_11_14 _ (kd_lt ho0 (by decide)) ho0) (by decide) h1 ?_
  exact z_goto C dX11_behindTakes_31 (by decide) (z_sub [0, 1] rfl (b_X11_behindTakes_35 C hr hk hK4 z o0 x2 s0 (z.1 (rf o0 14) (Int32.toNatClampNeg x2)) ho0 hf))
def f_X11_behindTakes_34 (K4 : St → Nat → Int32 → Int32 → Option (St × Int32)) (z : St) (o0 : Nat) (x2 : Int32) (s0 : Int32) : Option (St × Int32) :=
  f_X11_behindTakes_35 K4 z o0 x2 s0 0
theorem b_X11_behindTakes_34 {p : Program} {l : Launch} {e : Env} {s : State} {m : MethodId} {args : Array Value} {below : List Frame} {meth : Method} {c : Code} {g : Ga} {A : Nat → Prop} (C : Cx l g A p s m args c cX11_behindTakes 3 RX11 (rm_X11_behindTakes) (0, 0)) (hr : meth.sig.returnType = (some .int)) (hk : meth.locks = false) {K4 : St → Nat → Int32 → Int32 → Option (St × Int32)} (hK4 : ∀ (z : St) (o0 : Nat) (x1 : Int32) (x2 : Int32) (_ : kd o0 = 11) {res : St × Int32}, K4 z o0 x1 x2 = some res → Zj p l e (rm_X11_behindTakes) s m args below meth c g A 3 (0, 0) (QI g A below args s res) z 4 [(0, .ref (g.1 o0)), (1, .int x1), (2, .int x2)] []) (z : St) (o0 : Nat) (x2 : Int32) (s0 : Int32) (ho0 : kd o0 = 11) {res : St × Int32} (hf : f_X11_behindTakes_34 K4 z o0 x2 s0 = some res) : Zj p l e (rm_X11_behindTakes) s m args below meth c g A 3 (0, 0) (QI g A below args s res) z 34 [(0, .ref (g.1 o0)), (2, .int x2)] [.int s0] := by
  unfold f_X11_behindTakes_34 at hf
  refine z_iconst C dX11_behindTakes_34 (v := 0) (by decide) ?_
  exact z_sub [0, 1] rfl (b_X11_behindTakes_35 C hr hk hK4 z o0 x2 s0 0 ho0 hf)
def f_X11_behindTakes_12 (K4 : St → Nat → Int32 → Int32 → Option (St × Int32)) (z : St) (o0 : Nat) (x1 : Int32) (x2 : Int32) : Option (St × Int32) :=
  if (((z.1 o0 25) >>> (x2 &&& 31)) &&& 1) = 1 then f_X11_behindTakes_25 K4 z o0 x2 x1 else f_X11_behindTakes_34 K4 z o0 x2 x1
theorem b_X11_behindTakes_12 {p : Program} {l : Launch} {e : Env} {s : State} {m : MethodId} {args : Array Value} {below : List Frame} {meth : Method} {c : Code} {g : Ga} {A : Nat → Prop} (C : Cx l g A p s m args c cX11_behindTakes 3 RX11 (rm_X11_behindTakes) (0, 0)) (hr : meth.sig.returnType = (some .int)) (hk : meth.locks = false) {K4 : St → Nat → Int32 → Int32 → Option (St × Int32)} (hK4 : ∀ (z : St) (o0 : Nat) (x1 : Int32) (x2 : Int32) (_ : kd o0 = 11) {res : St × Int32}, K4 z o0 x1 x2 = some res → Zj p l e (rm_X11_behindTakes) s m args below meth c g A 3 (0, 0) (QI g A below args s res) z 4 [(0, .ref (g.1 o0)), (1, .int x1), (2, .int x2)] []) (z : St) (o0 : Nat) (x1 : Int32) (x2 : Int32) (ho0 : kd o0 = 11) {res : St × Int32} (hf : f_X11_behindTakes_12 K4 z o0 x1 x2 = some res) : Zj p l e (rm_X11_behindTakes) s m args below meth c g A 3 (0, 0) (QI g A below args s res) z 12 [(0, .ref (g.1 o0)), (1, .int x1), (2, .int x2)] [] := by
  unfold f_X11_behindTakes_12 at hf
  refine z_iload_n C dX11_behindTakes_12 rfl 1 rfl ?_
  refine z_aload_n C dX11_behindTakes_13 rfl 0 rfl ?_
  refine gf_X11_235 C dX11_behindTakes_14 ho0 ?_
  refine z_iload_n C dX11_behindTakes_17 rfl 2 rfl ?_
  refine z_ishr C dX11_behindTakes_18 ?_
  refine z_iconst C dX11_behindTakes_19 (v := 1) (by decide) ?_
  refine z_iand C dX11_behindTakes_20 ?_
  refine z_iconst C dX11_behindTakes_21 (v := 1) (by decide) ?_
  exact z_icmp_ne C dX11_behindTakes_22 (by decide) (fun h => z_sub [0, 2] rfl (b_X11_behindTakes_34 C hr hk hK4 z o0 x2 x1 ho0 (q_f hf h))) (fun h => z_sub [0, 2] rfl (b_X11_behindTakes_25 C hr hk hK4 z o0 x2 x1 ho0 (q_t hf h)))
def f_X11_behindTakes_43  (z : St) (x1 : Int32) : Option (St × Int32) :=
  some (z, x1)
theorem b_X11_behindTakes_43 {p : Program} {l : Launch} {e : Env} {s : State} {m : MethodId} {args : Array Value} {below : List Frame} {meth : Method} {c : Code} {g : Ga} {A : Nat → Prop} (C : Cx l g A p s m args c cX11_behindTakes 3 RX11 (rm_X11_behindTakes) (0, 0)) (hr : meth.sig.returnType = (some .int)) (hk : meth.locks = false)   (z : St) (x1 : Int32)  {res : St × Int32} (hf : f_X11_behindTakes_43  z x1 = some res) : Zj p l e (rm_X11_behindTakes) s m args below meth c g A 3 (0, 0) (QI g A below args s res) z 43 [(1, .int x1)] [] := by
  unfold f_X11_behindTakes_43 at hf
  refine z_iload_n C dX11_behindTakes_43 rfl 0 rfl ?_
  cases hf
  exact z_iret C hr hk dX11_behindTakes_44
def f_X11_behindTakes_4  : Nat → St → Nat → Int32 → Int32 → Option (St × Int32)
  | 0, _, _, _, _ => none
  | n + 1, z, o0, x1, x2 => if (z.1 o0 5) ≤ x2 then f_X11_behindTakes_43 z x1 else f_X11_behindTakes_12 (f_X11_behindTakes_4 n) z o0 x1 x2
theorem b_X11_behindTakes_4 {p : Program} {l : Launch} {e : Env} {s : State} {m : MethodId} {args : Array Value} {below : List Frame} {meth : Method} {c : Code} {g : Ga} {A : Nat → Prop} (C : Cx l g A p s m args c cX11_behindTakes 3 RX11 (rm_X11_behindTakes) (0, 0)) (hr : meth.sig.returnType = (some .int)) (hk : meth.locks = false)   : ∀ (n : Nat) (z : St) (o0 : Nat) (x1 : Int32) (x2 : Int32) (_ : kd o0 = 11) {res : St × Int32} (_ : f_X11_behindTakes_4  n z o0 x1 x2 = some res), Zj p l e (rm_X11_behindTakes) s m args below meth c g A 3 (0, 0) (QI g A below args s res) z 4 [(0, .ref (g.1 o0)), (1, .int x1), (2, .int x2)] [] := by
  intro n
  induction n with
  | zero =>
    intro z o0 x1 x2 ho0 res hf
    cases hf
  | succ n ih =>
    intro z o0 x1 x2 ho0 res hf
    rw [f_X11_behindTakes_4] at hf
    refine z_iload_n C dX11_behindTakes_4 rfl 2 rfl ?_
    refine z_aload_n C dX11_behindTakes_5 rfl 0 rfl ?_
    refine gf_X11_111 C dX11_behindTakes_6 ho0 ?_
    exact z_icmp_ge C dX11_behindTakes_9 (by decide) (fun h => z_sub [1] rfl (b_X11_behindTakes_43 C hr hk z x1 (q_t hf h))) (fun h => z_sub [0, 1, 2] rfl (b_X11_behindTakes_12 C hr hk ih z o0 x1 x2 ho0 (q_f hf h)))
def f_X11_behindTakes_0  (z : St) (o0 : Nat) : Option (St × Int32) :=
  f_X11_behindTakes_4 FU z o0 0 0
theorem b_X11_behindTakes_0 {p : Program} {l : Launch} {e : Env} {s : State} {m : MethodId} {args : Array Value} {below : List Frame} {meth : Method} {c : Code} {g : Ga} {A : Nat → Prop} (C : Cx l g A p s m args c cX11_behindTakes 3 RX11 (rm_X11_behindTakes) (0, 0)) (hr : meth.sig.returnType = (some .int)) (hk : meth.locks = false)   (z : St) (o0 : Nat) (ho0 : kd o0 = 11) {res : St × Int32} (hf : f_X11_behindTakes_0  z o0 = some res) : Zj p l e (rm_X11_behindTakes) s m args below meth c g A 3 (0, 0) (QI g A below args s res) z 0 [(0, .ref (g.1 o0))] [] := by
  unfold f_X11_behindTakes_0 at hf
  refine z_iconst C dX11_behindTakes_0 (v := 0) (by decide) ?_
  refine z_istore_n C (lv2 := [(1, .int 0), (0, .ref (g.1 o0))]) dX11_behindTakes_1 rfl (by decide) rfl ?_
  refine z_iconst C dX11_behindTakes_2 (v := 0) (by decide) ?_
  refine z_istore_n C (lv2 := [(2, .int 0), (1, .int 0), (0, .ref (g.1 o0))]) dX11_behindTakes_3 rfl (by decide) rfl ?_
  exact z_sub [2, 1, 0] rfl (b_X11_behindTakes_4 C hr hk FU z o0 0 0 ho0 hf)
def f_X11_behindTakes (z : St) (o0 : Nat) : Option (St × Int32) := f_X11_behindTakes_0 z o0
theorem c_X11_behindTakes {l : Launch} {g : Ga} {A : Nat → Prop} {z : St} {o0 : Nat} (ho0 : kd o0 = 11) {res : St × Int32} (hf : f_X11_behindTakes z o0 = some res) : CI l g A yX11_behindTakes cX11_behindTakes 3 (some .int) rm_X11_behindTakes [.ref (g.1 o0)] z res :=
  e_CI (by decide) (Nat.le_of_ble_eq_true rfl) rfl (fun p e s m args below meth c C hr hk => z_sub [0] rfl (b_X11_behindTakes_0 C hr hk z o0 ho0 hf))
abbrev rm_X11_behindComes : Room := { frames := 1, cells := 0, slots := 0, locals := 21 }
def f_X11_behindComes_40 (K6 : St → Nat → Int32 → Int32 → Option (St × Int32)) (z : St) (o0 : Nat) (x2 : Int32) (s0 : Int32) : Option (St × Int32) :=
  K6 z o0 s0 (x2 + 1)
theorem b_X11_behindComes_40 {p : Program} {l : Launch} {e : Env} {s : State} {m : MethodId} {args : Array Value} {below : List Frame} {meth : Method} {c : Code} {g : Ga} {A : Nat → Prop} (C : Cx l g A p s m args c cX11_behindComes 3 RX11 (rm_X11_behindComes) (0, 0)) (hr : meth.sig.returnType = (some .int)) (hk : meth.locks = false) {K6 : St → Nat → Int32 → Int32 → Option (St × Int32)} (hK6 : ∀ (z : St) (o0 : Nat) (x1 : Int32) (x2 : Int32) (_ : kd o0 = 11) {res : St × Int32}, K6 z o0 x1 x2 = some res → Zj p l e (rm_X11_behindComes) s m args below meth c g A 3 (0, 0) (QI g A below args s res) z 6 [(0, .ref (g.1 o0)), (1, .int x1), (2, .int x2)] []) (z : St) (o0 : Nat) (x2 : Int32) (s0 : Int32) (ho0 : kd o0 = 11) {res : St × Int32} (hf : f_X11_behindComes_40 K6 z o0 x2 s0 = some res) : Zj p l e (rm_X11_behindComes) s m args below meth c g A 3 (0, 0) (QI g A below args s res) z 40 [(0, .ref (g.1 o0)), (2, .int x2)] [.int s0] := by
  unfold f_X11_behindComes_40 at hf
  refine z_istore_n C (lv2 := [(1, .int s0), (0, .ref (g.1 o0)), (2, .int x2)]) dX11_behindComes_40 rfl (by decide) rfl ?_
  refine z_iinc C (k := 2) (v := x2 + 1) (lv2 := [(2, .int (x2 + 1)), (1, .int s0), (0, .ref (g.1 o0))]) dX11_behindComes_41 rfl rfl (by decide) rfl ?_
  exact z_goto C dX11_behindComes_44 (by decide) (z_sub [2, 1, 0] rfl (hK6 z o0 s0 (x2 + 1) ho0 hf))
def f_X11_behindComes_26 (K6 : St → Nat → Int32 → Int32 → Option (St × Int32)) (z : St) (o0 : Nat) (x1 : Int32) (x2 : Int32) : Option (St × Int32) :=
  if inb x2 8 = true then (f_X11_behindComes_40 K6 z o0 x2 (imin x1 (z.1 (rf o0 13) (Int32.toNatClampNeg x2)))) else none
theorem b_X11_behindComes_26 {p : Program} {l : Launch} {e : Env} {s : State} {m : MethodId} {args : Array Value} {below : List Frame} {meth : Method} {c : Code} {g : Ga} {A : Nat → Prop} (C : Cx l g A p s m args c cX11_behindComes 3 RX11 (rm_X11_behindComes) (0, 0)) (hr : meth.sig.returnType = (some .int)) (hk : meth.locks = false) {K6 : St → Nat → Int32 → Int32 → Option (St × Int32)} (hK6 : ∀ (z : St) (o0 : Nat) (x1 : Int32) (x2 : Int32) (_ : kd o0 = 11) {res : St × Int32}, K6 z o0 x1 x2 = some res → Zj p l e (rm_X11_behindComes) s m args below meth c g A 3 (0, 0) (QI g A below args s res) z 6 [(0, .ref (g.1 o0)), (1, .int x1), (2, .int x2)] []) (z : St) (o0 : Nat) (x1 : Int32) (x2 : Int32) (ho0 : kd o0 = 11) {res : St × Int32} (hf : f_X11_behindComes_26 K6 z o0 x1 x2 = some res) : Zj p l e (rm_X11_behindComes) s m args below meth c g A 3 (0, 0) (QI g A below args s res) z 26 [(0, .ref (g.1 o0)), (1, .int x1), (2, .int x2)] [] := by
  unfold f_X11_behindComes_26 at hf
  refine z_iload_n C dX11_behindComes_26 rfl 1 rfl ?_
  refine z_aload_n C dX11_behindComes_27 rfl 0 rfl ?_
  refine gf_X11_28 C dX11_behindComes_28 ho0 ?_
  refine z_iload_n C dX11_behindComes_31 rfl 2 rfl ?_
  obtain ⟨h1, hf⟩ := q_ck hf
  refine z_iald C (n := 8) dX11_behindComes_32 (rt_11_13 _ (kd_lt ho0 (by decide)) ho0) (by decide) h1 ?_
  refine z_mmin C (st := []) dX11_behindComes_33 ml_X11_193 mm_min.1 mm_i mm_min.2 ⟨Nat.le_of_ble_eq_true rfl, Nat.le_of_ble_eq_true rfl⟩ (Nat.le_of_ble_eq_true rfl) ?_
  exact z_goto C dX11_behindComes_36 (by decide) (z_sub [0, 2] rfl (b_X11_behindComes_40 C hr hk hK6 z o0 x2 (imin x1 (z.1 (rf o0 13) (Int32.toNatClampNeg x2))) ho0 hf))
def f_X11_behindComes_39 (K6 : St → Nat → Int32 → Int32 → Option (St × Int32)) (z : St) (o0 : Nat) (x1 : Int32) (x2 : Int32) : Option (St × Int32) :=
  f_X11_behindComes_40 K6 z o0 x2 x1
theorem b_X11_behindComes_39 {p : Program} {l : Launch} {e : Env} {s : State} {m : MethodId} {args : Array Value} {below : List Frame} {meth : Method} {c : Code} {g : Ga} {A : Nat → Prop} (C : Cx l g A p s m args c cX11_behindComes 3 RX11 (rm_X11_behindComes) (0, 0)) (hr : meth.sig.returnType = (some .int)) (hk : meth.locks = false) {K6 : St → Nat → Int32 → Int32 → Option (St × Int32)} (hK6 : ∀ (z : St) (o0 : Nat) (x1 : Int32) (x2 : Int32) (_ : kd o0 = 11) {res : St × Int32}, K6 z o0 x1 x2 = some res → Zj p l e (rm_X11_behindComes) s m args below meth c g A 3 (0, 0) (QI g A below args s res) z 6 [(0, .ref (g.1 o0)), (1, .int x1), (2, .int x2)] []) (z : St) (o0 : Nat) (x1 : Int32) (x2 : Int32) (ho0 : kd o0 = 11) {res : St × Int32} (hf : f_X11_behindComes_39 K6 z o0 x1 x2 = some res) : Zj p l e (rm_X11_behindComes) s m args below meth c g A 3 (0, 0) (QI g A below args s res) z 39 [(0, .ref (g.1 o0)), (1, .int x1), (2, .int x2)] [] := by
  unfold f_X11_behindComes_39 at hf
  refine z_iload_n C dX11_behindComes_39 rfl 1 rfl ?_
  exact z_sub [0, 2] rfl (b_X11_behindComes_40 C hr hk hK6 z o0 x2 x1 ho0 hf)
def f_X11_behindComes_14 (K6 : St → Nat → Int32 → Int32 → Option (St × Int32)) (z : St) (o0 : Nat) (x1 : Int32) (x2 : Int32) : Option (St × Int32) :=
  if (((z.1 o0 25) >>> (x2 &&& 31)) &&& 1) = 1 then f_X11_behindComes_26 K6 z o0 x1 x2 else f_X11_behindComes_39 K6 z o0 x1 x2
theorem b_X11_behindComes_14 {p : Program} {l : Launch} {e : Env} {s : State} {m : MethodId} {args : Array Value} {below : List Frame} {meth : Method} {c : Code} {g : Ga} {A : Nat → Prop} (C : Cx l g A p s m args c cX11_behindComes 3 RX11 (rm_X11_behindComes) (0, 0)) (hr : meth.sig.returnType = (some .int)) (hk : meth.locks = false) {K6 : St → Nat → Int32 → Int32 → Option (St × Int32)} (hK6 : ∀ (z : St) (o0 : Nat) (x1 : Int32) (x2 : Int32) (_ : kd o0 = 11) {res : St × Int32}, K6 z o0 x1 x2 = some res → Zj p l e (rm_X11_behindComes) s m args below meth c g A 3 (0, 0) (QI g A below args s res) z 6 [(0, .ref (g.1 o0)), (1, .int x1), (2, .int x2)] []) (z : St) (o0 : Nat) (x1 : Int32) (x2 : Int32) (ho0 : kd o0 = 11) {res : St × Int32} (hf : f_X11_behindComes_14 K6 z o0 x1 x2 = some res) : Zj p l e (rm_X11_behindComes) s m args below meth c g A 3 (0, 0) (QI g A below args s res) z 14 [(0, .ref (g.1 o0)), (1, .int x1), (2, .int x2)] [] := by
  unfold f_X11_behindComes_14 at hf
  refine z_aload_n C dX11_behindComes_14 rfl 0 rfl ?_
  refine gf_X11_235 C dX11_behindComes_15 ho0 ?_
  refine z_iload_n C dX11_behindComes_18 rfl 2 rfl ?_
  refine z_ishr C dX11_behindComes_19 ?_
  refine z_iconst C dX11_behindComes_20 (v := 1) (by decide) ?_
  refine z_iand C dX11_behindComes_21 ?_
  refine z_iconst C dX11_behindComes_22 (v := 1) (by decide) ?_
  exact z_icmp_ne C dX11_behindComes_23 (by decide) (fun h => z_sub [0, 1, 2] rfl (b_X11_behindComes_39 C hr hk hK6 z o0 x1 x2 ho0 (q_f hf h))) (fun h => z_sub [0, 1, 2] rfl (b_X11_behindComes_26 C hr hk hK6 z o0 x1 x2 ho0 (q_t hf h)))
def f_X11_behindComes_47  (z : St) (x1 : Int32) : Option (St × Int32) :=
  some (z, x1)
theorem b_X11_behindComes_47 {p : Program} {l : Launch} {e : Env} {s : State} {m : MethodId} {args : Array Value} {below : List Frame} {meth : Method} {c : Code} {g : Ga} {A : Nat → Prop} (C : Cx l g A p s m args c cX11_behindComes 3 RX11 (rm_X11_behindComes) (0, 0)) (hr : meth.sig.returnType = (some .int)) (hk : meth.locks = false)   (z : St) (x1 : Int32)  {res : St × Int32} (hf : f_X11_behindComes_47  z x1 = some res) : Zj p l e (rm_X11_behindComes) s m args below meth c g A 3 (0, 0) (QI g A below args s res) z 47 [(1, .int x1)] [] := by
  unfold f_X11_behindComes_47 at hf
  refine z_iload_n C dX11_behindComes_47 rfl 0 rfl ?_
  cases hf
  exact z_iret C hr hk dX11_behindComes_48
def f_X11_behindComes_6  : Nat → St → Nat → Int32 → Int32 → Option (St × Int32)
  | 0, _, _, _, _ => none
  | n + 1, z, o0, x1, x2 => if (z.1 o0 5) ≤ x2 then f_X11_behindComes_47 z x1 else f_X11_behindComes_14 (f_X11_behindComes_6 n) z o0 x1 x2
theorem b_X11_behindComes_6 {p : Program} {l : Launch} {e : Env} {s : State} {m : MethodId} {args : Array Value} {below : List Frame} {meth : Method} {c : Code} {g : Ga} {A : Nat → Prop} (C : Cx l g A p s m args c cX11_behindComes 3 RX11 (rm_X11_behindComes) (0, 0)) (hr : meth.sig.returnType = (some .int)) (hk : meth.locks = false)   : ∀ (n : Nat) (z : St) (o0 : Nat) (x1 : Int32) (x2 : Int32) (_ : kd o0 = 11) {res : St × Int32} (_ : f_X11_behindComes_6  n z o0 x1 x2 = some res), Zj p l e (rm_X11_behindComes) s m args below meth c g A 3 (0, 0) (QI g A below args s res) z 6 [(0, .ref (g.1 o0)), (1, .int x1), (2, .int x2)] [] := by
  intro n
  induction n with
  | zero =>
    intro z o0 x1 x2 ho0 res hf
    cases hf
  | succ n ih =>
    intro z o0 x1 x2 ho0 res hf
    rw [f_X11_behindComes_6] at hf
    refine z_iload_n C dX11_behindComes_6 rfl 2 rfl ?_
    refine z_aload_n C dX11_behindComes_7 rfl 0 rfl ?_
    refine gf_X11_111 C dX11_behindComes_8 ho0 ?_
    exact z_icmp_ge C dX11_behindComes_11 (by decide) (fun h => z_sub [1] rfl (b_X11_behindComes_47 C hr hk z x1 (q_t hf h))) (fun h => z_sub [0, 1, 2] rfl (b_X11_behindComes_14 C hr hk ih z o0 x1 x2 ho0 (q_f hf h)))
def f_X11_behindComes_0  (z : St) (o0 : Nat) : Option (St × Int32) :=
  f_X11_behindComes_6 FU z o0 999 0
theorem b_X11_behindComes_0 {p : Program} {l : Launch} {e : Env} {s : State} {m : MethodId} {args : Array Value} {below : List Frame} {meth : Method} {c : Code} {g : Ga} {A : Nat → Prop} (C : Cx l g A p s m args c cX11_behindComes 3 RX11 (rm_X11_behindComes) (0, 0)) (hr : meth.sig.returnType = (some .int)) (hk : meth.locks = false)   (z : St) (o0 : Nat) (ho0 : kd o0 = 11) {res : St × Int32} (hf : f_X11_behindComes_0  z o0 = some res) : Zj p l e (rm_X11_behindComes) s m args below meth c g A 3 (0, 0) (QI g A below args s res) z 0 [(0, .ref (g.1 o0))] [] := by
  unfold f_X11_behindComes_0 at hf
  refine z_sipush C dX11_behindComes_0 (v := 999) (by decide) ?_
  refine z_istore_n C (lv2 := [(1, .int 999), (0, .ref (g.1 o0))]) dX11_behindComes_3 rfl (by decide) rfl ?_
  refine z_iconst C dX11_behindComes_4 (v := 0) (by decide) ?_
  refine z_istore_n C (lv2 := [(2, .int 0), (1, .int 999), (0, .ref (g.1 o0))]) dX11_behindComes_5 rfl (by decide) rfl ?_
  exact z_sub [2, 1, 0] rfl (b_X11_behindComes_6 C hr hk FU z o0 999 0 ho0 hf)
def f_X11_behindComes (z : St) (o0 : Nat) : Option (St × Int32) := f_X11_behindComes_0 z o0
theorem c_X11_behindComes {l : Launch} {g : Ga} {A : Nat → Prop} {z : St} {o0 : Nat} (ho0 : kd o0 = 11) {res : St × Int32} (hf : f_X11_behindComes z o0 = some res) : CI l g A yX11_behindComes cX11_behindComes 3 (some .int) rm_X11_behindComes [.ref (g.1 o0)] z res :=
  e_CI (by decide) (Nat.le_of_ble_eq_true rfl) rfl (fun p e s m args below meth c C hr hk => z_sub [0] rfl (b_X11_behindComes_0 C hr hk z o0 ho0 hf))
abbrev rm_X11_branched : Room := { frames := 2, cells := 0, slots := 0, locals := 43 }
def f_X11_branched_54  (z : St) (s0 : Int32) : Option (St × Int32) :=
  some (z, s0)
theorem b_X11_branched_54 {p : Program} {l : Launch} {e : Env} {s : State} {m : MethodId} {args : Array Value} {below : List Frame} {meth : Method} {c : Code} {g : Ga} {A : Nat → Prop} (C : Cx l g A p s m args c cX11_branched 2 RX11 (rm_X11_branched) (0, 0)) (hr : meth.sig.returnType = (some .int)) (hk : meth.locks = false)   (z : St) (s0 : Int32)  {res : St × Int32} (hf : f_X11_branched_54  z s0 = some res) : Zj p l e (rm_X11_branched) s m args below meth c g A 2 (0, 0) (QI g A below args s res) z 54 [] [.int s0] := by
  unfold f_X11_branched_54 at hf
  cases hf
  exact z_iret C hr hk dX11_branched_54
def f_X11_branched_4  (z : St) (o0 : Nat) : Option (St × Int32) :=
  if inb (z.1 o0 24) 8 = true then (((f_X11_behindTakes z o0).bind fun r2 => if inb (r2.1.1 o0 22) 8 = true then (f_X11_branched_54 r2.1 (imax (z.1 (rf o0 15) (Int32.toNatClampNeg (z.1 o0 24))) (r2.2 + (r2.1.1 (rf o0 15) (Int32.toNatClampNeg (r2.1.1 o0 22)))))) else none)) else none
theorem b_X11_branched_4 {p : Program} {l : Launch} {e : Env} {s : State} {m : MethodId} {args : Array Value} {below : List Frame} {meth : Method} {c : Code} {g : Ga} {A : Nat → Prop} (C : Cx l g A p s m args c cX11_branched 2 RX11 (rm_X11_branched) (0, 0)) (hr : meth.sig.returnType = (some .int)) (hk : meth.locks = false)   (z : St) (o0 : Nat) (ho0 : kd o0 = 11) {res : St × Int32} (hf : f_X11_branched_4  z o0 = some res) : Zj p l e (rm_X11_branched) s m args below meth c g A 2 (0, 0) (QI g A below args s res) z 4 [(0, .ref (g.1 o0))] [] := by
  unfold f_X11_branched_4 at hf
  refine z_aload_n C dX11_branched_4 rfl 0 rfl ?_
  refine gf_X11_34 C dX11_branched_5 ho0 ?_
  refine z_aload_n C dX11_branched_8 rfl 0 rfl ?_
  refine gf_X11_232 C dX11_branched_9 ho0 ?_
  obtain ⟨h1, hf⟩ := q_ck hf
  refine z_iald C (n := 8) dX11_branched_12 (rt_11_15 _ (kd_lt ho0 (by decide)) ho0) (by decide) h1 ?_
  refine z_aload_n C dX11_branched_13 rfl 0 rfl ?_
  obtain ⟨r2, hc3, hf⟩ := q_bd hf
  refine z_cVi C (st := [.int (z.1 (rf o0 15) (Int32.toNatClampNeg (z.1 o0 24)))]) (c_X11_behindTakes ho0 hc3) mw_X11_behindTakes ml_X11_241 ho0 (by decide) rfl dX11_branched_14 rfl rfl rfl ⟨Nat.le_of_ble_eq_true rfl, Nat.le_of_ble_eq_true rfl⟩ rfl (Nat.le_of_ble_eq_true rfl) ?_
  refine z_aload_n C dX11_branched_17 rfl 0 rfl ?_
  refine gf_X11_34 C dX11_branched_18 ho0 ?_
  refine z_aload_n C dX11_branched_21 rfl 0 rfl ?_
  refine gf_X11_223 C dX11_branched_22 ho0 ?_
  obtain ⟨h4, hf⟩ := q_ck hf
  refine z_iald C (n := 8) dX11_branched_25 (rt_11_15 _ (kd_lt ho0 (by decide)) ho0) (by decide) h4 ?_
  refine z_iadd C dX11_branched_26 ?_
  refine z_mmax C (st := []) dX11_branched_27 ml_X11_126 mm_max.1 mm_i mm_max.2 ⟨Nat.le_of_ble_eq_true rfl, Nat.le_of_ble_eq_true rfl⟩ (Nat.le_of_ble_eq_true rfl) ?_
  exact z_goto C dX11_branched_30 (by decide) (z_sub [] rfl (b_X11_branched_54 C hr hk r2.1 (imax (z.1 (rf o0 15) (Int32.toNatClampNeg (z.1 o0 24))) (r2.2 + (r2.1.1 (rf o0 15) (Int32.toNatClampNeg (r2.1.1 o0 22))))) hf))
def f_X11_branched_33  (z : St) (o0 : Nat) : Option (St × Int32) :=
  if inb (z.1 o0 24) 8 = true then (((f_X11_behindComes z o0).bind fun r2 => ((f_X11_behindTakes r2.1 o0).bind fun r4 => f_X11_branched_54 r4.1 (imax (z.1 (rf o0 13) (Int32.toNatClampNeg (z.1 o0 24))) (r2.2 + r4.2))))) else none
theorem b_X11_branched_33 {p : Program} {l : Launch} {e : Env} {s : State} {m : MethodId} {args : Array Value} {below : List Frame} {meth : Method} {c : Code} {g : Ga} {A : Nat → Prop} (C : Cx l g A p s m args c cX11_branched 2 RX11 (rm_X11_branched) (0, 0)) (hr : meth.sig.returnType = (some .int)) (hk : meth.locks = false)   (z : St) (o0 : Nat) (ho0 : kd o0 = 11) {res : St × Int32} (hf : f_X11_branched_33  z o0 = some res) : Zj p l e (rm_X11_branched) s m args below meth c g A 2 (0, 0) (QI g A below args s res) z 33 [(0, .ref (g.1 o0))] [] := by
  unfold f_X11_branched_33 at hf
  refine z_aload_n C dX11_branched_33 rfl 0 rfl ?_
  refine gf_X11_28 C dX11_branched_34 ho0 ?_
  refine z_aload_n C dX11_branched_37 rfl 0 rfl ?_
  refine gf_X11_232 C dX11_branched_38 ho0 ?_
  obtain ⟨h1, hf⟩ := q_ck hf
  refine z_iald C (n := 8) dX11_branched_41 (rt_11_13 _ (kd_lt ho0 (by decide)) ho0) (by decide) h1 ?_
  refine z_aload_n C dX11_branched_42 rfl 0 rfl ?_
  obtain ⟨r2, hc3, hf⟩ := q_bd hf
  refine z_cVi C (st := [.int (z.1 (rf o0 13) (Int32.toNatClampNeg (z.1 o0 24)))]) (c_X11_behindComes ho0 hc3) mw_X11_behindComes ml_X11_244 ho0 (by decide) rfl dX11_branched_43 rfl rfl rfl ⟨Nat.le_of_ble_eq_true rfl, Nat.le_of_ble_eq_true rfl⟩ rfl (Nat.le_of_ble_eq_true rfl) ?_
  refine z_aload_n C dX11_branched_46 rfl 0 rfl ?_
  obtain ⟨r4, hc5, hf⟩ := q_bd hf
  refine z_cVi C (st := [.int r2.2, .int (z.1 (rf o0 13) (Int32.toNatClampNeg (z.1 o0 24)))]) (c_X11_behindTakes ho0 hc5) mw_X11_behindTakes ml_X11_241 ho0 (by decide) rfl dX11_branched_47 rfl rfl rfl ⟨Nat.le_of_ble_eq_true rfl, Nat.le_of_ble_eq_true rfl⟩ rfl (Nat.le_of_ble_eq_true rfl) ?_
  refine z_iadd C dX11_branched_50 ?_
  refine z_mmax C (st := []) dX11_branched_51 ml_X11_126 mm_max.1 mm_i mm_max.2 ⟨Nat.le_of_ble_eq_true rfl, Nat.le_of_ble_eq_true rfl⟩ (Nat.le_of_ble_eq_true rfl) ?_
  exact z_sub [] rfl (b_X11_branched_54 C hr hk r4.1 (imax (z.1 (rf o0 13) (Int32.toNatClampNeg (z.1 o0 24))) (r2.2 + r4.2)) hf)
def f_X11_branched_0  (z : St) (o0 : Nat) (x1 : Int32) : Option (St × Int32) :=
  if x1 = 0 then f_X11_branched_4 z o0 else f_X11_branched_33 z o0
theorem b_X11_branched_0 {p : Program} {l : Launch} {e : Env} {s : State} {m : MethodId} {args : Array Value} {below : List Frame} {meth : Method} {c : Code} {g : Ga} {A : Nat → Prop} (C : Cx l g A p s m args c cX11_branched 2 RX11 (rm_X11_branched) (0, 0)) (hr : meth.sig.returnType = (some .int)) (hk : meth.locks = false)   (z : St) (o0 : Nat) (x1 : Int32) (ho0 : kd o0 = 11) {res : St × Int32} (hf : f_X11_branched_0  z o0 x1 = some res) : Zj p l e (rm_X11_branched) s m args below meth c g A 2 (0, 0) (QI g A below args s res) z 0 [(0, .ref (g.1 o0)), (1, .int x1)] [] := by
  unfold f_X11_branched_0 at hf
  refine z_iload_n C dX11_branched_0 rfl 1 rfl ?_
  exact z_if_ne C dX11_branched_1 (by decide) (fun h => z_sub [0] rfl (b_X11_branched_33 C hr hk z o0 ho0 (q_f hf h))) (fun h => z_sub [0] rfl (b_X11_branched_4 C hr hk z o0 ho0 (q_t hf h)))
def f_X11_branched (z : St) (o0 : Nat) (x1 : Int32) : Option (St × Int32) := f_X11_branched_0 z o0 x1
theorem c_X11_branched {l : Launch} {g : Ga} {A : Nat → Prop} {z : St} {o0 : Nat} {x1 : Int32} (ho0 : kd o0 = 11) {res : St × Int32} (hf : f_X11_branched z o0 x1 = some res) : CI l g A yX11_branched cX11_branched 2 (some .int) rm_X11_branched [.ref (g.1 o0), .int x1] z res :=
  e_CI (by decide) (Nat.le_of_ble_eq_true rfl) rfl (fun p e s m args below meth c C hr hk => z_sub [0, 1] rfl (b_X11_branched_0 C hr hk z o0 x1 ho0 hf))
abbrev rm_X11_branch : Room := { frames := 4, cells := 0, slots := 0, locals := 85 }
def f_X11_branch_18  (z : St)  : Option (St × Int32) :=
  some (z, (-2))
theorem b_X11_branch_18 {p : Program} {l : Launch} {e : Env} {s : State} {m : MethodId} {args : Array Value} {below : List Frame} {meth : Method} {c : Code} {g : Ga} {A : Nat → Prop} (C : Cx l g A p s m args c cX11_branch 4 RX11 (rm_X11_branch) (0, 0)) (hr : meth.sig.returnType = (some .int)) (hk : meth.locks = false)   (z : St)   {res : St × Int32} (hf : f_X11_branch_18  z  = some res) : Zj p l e (rm_X11_branch) s m args below meth c g A 4 (0, 0) (QI g A below args s res) z 18 [] [] := by
  unfold f_X11_branch_18 at hf
  refine z_bipush C dX11_branch_18 (v := (-2)) (by decide) ?_
  cases hf
  exact z_iret C hr hk dX11_branch_20
def f_X11_branch_28  (z : St)  : Option (St × Int32) :=
  some (z, (-3))
theorem b_X11_branch_28 {p : Program} {l : Launch} {e : Env} {s : State} {m : MethodId} {args : Array Value} {below : List Frame} {meth : Method} {c : Code} {g : Ga} {A : Nat → Prop} (C : Cx l g A p s m args c cX11_branch 4 RX11 (rm_X11_branch) (0, 0)) (hr : meth.sig.returnType = (some .int)) (hk : meth.locks = false)   (z : St)   {res : St × Int32} (hf : f_X11_branch_28  z  = some res) : Zj p l e (rm_X11_branch) s m args below meth c g A 4 (0, 0) (QI g A below args s res) z 28 [] [] := by
  unfold f_X11_branch_28 at hf
  refine z_bipush C dX11_branch_28 (v := (-3)) (by decide) ?_
  cases hf
  exact z_iret C hr hk dX11_branch_30
def f_X11_branch_50  (z : St)  : Option (St × Int32) :=
  some (z, (-3))
theorem b_X11_branch_50 {p : Program} {l : Launch} {e : Env} {s : State} {m : MethodId} {args : Array Value} {below : List Frame} {meth : Method} {c : Code} {g : Ga} {A : Nat → Prop} (C : Cx l g A p s m args c cX11_branch 4 RX11 (rm_X11_branch) (0, 0)) (hr : meth.sig.returnType = (some .int)) (hk : meth.locks = false)   (z : St)   {res : St × Int32} (hf : f_X11_branch_50  z  = some res) : Zj p l e (rm_X11_branch) s m args below meth c g A 4 (0, 0) (QI g A below args s res) z 50 [] [] := by
  unfold f_X11_branch_50 at hf
  refine z_bipush C dX11_branch_50 (v := (-3)) (by decide) ?_
  cases hf
  exact z_iret C hr hk dX11_branch_52
def f_X11_branch_110  (z : St) (s0 : Int32) : Option (St × Int32) :=
  some (z, s0)
theorem b_X11_branch_110 {p : Program} {l : Launch} {e : Env} {s : State} {m : MethodId} {args : Array Value} {below : List Frame} {meth : Method} {c : Code} {g : Ga} {A : Nat → Prop} (C : Cx l g A p s m args c cX11_branch 4 RX11 (rm_X11_branch) (0, 0)) (hr : meth.sig.returnType = (some .int)) (hk : meth.locks = false)   (z : St) (s0 : Int32)  {res : St × Int32} (hf : f_X11_branch_110  z s0 = some res) : Zj p l e (rm_X11_branch) s m args below meth c g A 4 (0, 0) (QI g A below args s res) z 110 [] [.int s0] := by
  unfold f_X11_branch_110 at hf
  cases hf
  exact z_iret C hr hk dX11_branch_110
def f_X11_branch_91  (z : St) (x3 : Int32) : Option (St × Int32) :=
  f_X11_branch_110 z x3
theorem b_X11_branch_91 {p : Program} {l : Launch} {e : Env} {s : State} {m : MethodId} {args : Array Value} {below : List Frame} {meth : Method} {c : Code} {g : Ga} {A : Nat → Prop} (C : Cx l g A p s m args c cX11_branch 4 RX11 (rm_X11_branch) (0, 0)) (hr : meth.sig.returnType = (some .int)) (hk : meth.locks = false)   (z : St) (x3 : Int32)  {res : St × Int32} (hf : f_X11_branch_91  z x3 = some res) : Zj p l e (rm_X11_branch) s m args below meth c g A 4 (0, 0) (QI g A below args s res) z 91 [(3, .int x3)] [] := by
  unfold f_X11_branch_91 at hf
  refine z_iload_n C dX11_branch_91 rfl 0 rfl ?_
  exact z_goto C dX11_branch_92 (by decide) (z_sub [] rfl (b_X11_branch_110 C hr hk z x3 hf))
def f_X11_branch_99  (z : St) (o0 : Nat) : Option (St × Int32) :=
  ((f_X11_greedily z o0).bind fun r1 => f_X11_branch_110 r1.1 r1.2)
theorem b_X11_branch_99 {p : Program} {l : Launch} {e : Env} {s : State} {m : MethodId} {args : Array Value} {below : List Frame} {meth : Method} {c : Code} {g : Ga} {A : Nat → Prop} (C : Cx l g A p s m args c cX11_branch 4 RX11 (rm_X11_branch) (0, 0)) (hr : meth.sig.returnType = (some .int)) (hk : meth.locks = false)   (z : St) (o0 : Nat) (ho0 : kd o0 = 11) {res : St × Int32} (hf : f_X11_branch_99  z o0 = some res) : Zj p l e (rm_X11_branch) s m args below meth c g A 4 (0, 0) (QI g A below args s res) z 99 [(0, .ref (g.1 o0))] [] := by
  unfold f_X11_branch_99 at hf
  refine z_aload_n C dX11_branch_99 rfl 0 rfl ?_
  obtain ⟨r1, hc2, hf⟩ := q_bd hf
  refine z_cVi C (st := []) (c_X11_greedily ho0 hc2) mw_X11_greedily ml_X11_208 ho0 (by decide) rfl dX11_branch_100 rfl rfl rfl ⟨Nat.le_of_ble_eq_true rfl, Nat.le_of_ble_eq_true rfl⟩ rfl (Nat.le_of_ble_eq_true rfl) ?_
  exact z_goto C dX11_branch_103 (by decide) (z_sub [] rfl (b_X11_branch_110 C hr hk r1.1 r1.2 hf))
def f_X11_branch_106  (z : St) (o0 : Nat) : Option (St × Int32) :=
  ((f_X11_breakingly z o0).bind fun r1 => f_X11_branch_110 r1.1 r1.2)
theorem b_X11_branch_106 {p : Program} {l : Launch} {e : Env} {s : State} {m : MethodId} {args : Array Value} {below : List Frame} {meth : Method} {c : Code} {g : Ga} {A : Nat → Prop} (C : Cx l g A p s m args c cX11_branch 4 RX11 (rm_X11_branch) (0, 0)) (hr : meth.sig.returnType = (some .int)) (hk : meth.locks = false)   (z : St) (o0 : Nat) (ho0 : kd o0 = 11) {res : St × Int32} (hf : f_X11_branch_106  z o0 = some res) : Zj p l e (rm_X11_branch) s m args below meth c g A 4 (0, 0) (QI g A below args s res) z 106 [(0, .ref (g.1 o0))] [] := by
  unfold f_X11_branch_106 at hf
  refine z_aload_n C dX11_branch_106 rfl 0 rfl ?_
  obtain ⟨r1, hc2, hf⟩ := q_bd hf
  refine z_cVi C (st := []) (c_X11_breakingly ho0 hc2) mw_X11_breakingly ml_X11_220 ho0 (by decide) rfl dX11_branch_107 rfl rfl rfl ⟨Nat.le_of_ble_eq_true rfl, Nat.le_of_ble_eq_true rfl⟩ rfl (Nat.le_of_ble_eq_true rfl) ?_
  exact z_sub [] rfl (b_X11_branch_110 C hr hk r1.1 r1.2 hf)
def f_X11_branch_95  (z : St) (o0 : Nat) (x2 : Int32) : Option (St × Int32) :=
  if x2 = 0 then f_X11_branch_99 z o0 else f_X11_branch_106 z o0
theorem b_X11_branch_95 {p : Program} {l : Launch} {e : Env} {s : State} {m : MethodId} {args : Array Value} {below : List Frame} {meth : Method} {c : Code} {g : Ga} {A : Nat → Prop} (C : Cx l g A p s m args c cX11_branch 4 RX11 (rm_X11_branch) (0, 0)) (hr : meth.sig.returnType = (some .int)) (hk : meth.locks = false)   (z : St) (o0 : Nat) (x2 : Int32) (ho0 : kd o0 = 11) {res : St × Int32} (hf : f_X11_branch_95  z o0 x2 = some res) : Zj p l e (rm_X11_branch) s m args below meth c g A 4 (0, 0) (QI g A below args s res) z 95 [(0, .ref (g.1 o0)), (2, .int x2)] [] := by
  unfold f_X11_branch_95 at hf
  refine z_iload_n C dX11_branch_95 rfl 1 rfl ?_
  exact z_if_ne C dX11_branch_96 (by decide) (fun h => z_sub [0] rfl (b_X11_branch_106 C hr hk z o0 ho0 (q_f hf h))) (fun h => z_sub [0] rfl (b_X11_branch_99 C hr hk z o0 ho0 (q_t hf h)))
def f_X11_branch_86  (z : St) (o0 : Nat) (x2 : Int32) (x3 : Int32) : Option (St × Int32) :=
  if x2 = 2 then f_X11_branch_91 z x3 else f_X11_branch_95 z o0 x2
theorem b_X11_branch_86 {p : Program} {l : Launch} {e : Env} {s : State} {m : MethodId} {args : Array Value} {below : List Frame} {meth : Method} {c : Code} {g : Ga} {A : Nat → Prop} (C : Cx l g A p s m args c cX11_branch 4 RX11 (rm_X11_branch) (0, 0)) (hr : meth.sig.returnType = (some .int)) (hk : meth.locks = false)   (z : St) (o0 : Nat) (x2 : Int32) (x3 : Int32) (ho0 : kd o0 = 11) {res : St × Int32} (hf : f_X11_branch_86  z o0 x2 x3 = some res) : Zj p l e (rm_X11_branch) s m args below meth c g A 4 (0, 0) (QI g A below args s res) z 86 [(0, .ref (g.1 o0)), (2, .int x2), (3, .int x3)] [] := by
  unfold f_X11_branch_86 at hf
  refine z_iload_n C dX11_branch_86 rfl 1 rfl ?_
  refine z_iconst C dX11_branch_87 (v := 2) (by decide) ?_
  exact z_icmp_ne C dX11_branch_88 (by decide) (fun h => z_sub [0, 1] rfl (b_X11_branch_95 C hr hk z o0 x2 ho0 (q_f hf h))) (fun h => z_sub [2] rfl (b_X11_branch_91 C hr hk z x3 (q_t hf h)))
def f_X11_branch_63  (z : St) (o0 : Nat) (x2 : Int32) (x3 : Int32) : Option (St × Int32) :=
  if inb (z.1 o0 24) 8 = true then (f_X11_branch_86 (zI z (rf o0 15) (Int32.toNatClampNeg (z.1 o0 24)) x3) o0 x2 x3) else none
theorem b_X11_branch_63 {p : Program} {l : Launch} {e : Env} {s : State} {m : MethodId} {args : Array Value} {below : List Frame} {meth : Method} {c : Code} {g : Ga} {A : Nat → Prop} (C : Cx l g A p s m args c cX11_branch 4 RX11 (rm_X11_branch) (0, 0)) (hr : meth.sig.returnType = (some .int)) (hk : meth.locks = false)   (z : St) (o0 : Nat) (x2 : Int32) (x3 : Int32) (ho0 : kd o0 = 11) {res : St × Int32} (hf : f_X11_branch_63  z o0 x2 x3 = some res) : Zj p l e (rm_X11_branch) s m args below meth c g A 4 (0, 0) (QI g A below args s res) z 63 [(0, .ref (g.1 o0)), (2, .int x2), (3, .int x3)] [] := by
  unfold f_X11_branch_63 at hf
  refine z_aload_n C dX11_branch_63 rfl 0 rfl ?_
  refine gf_X11_34 C dX11_branch_64 ho0 ?_
  refine z_aload_n C dX11_branch_67 rfl 0 rfl ?_
  refine gf_X11_232 C dX11_branch_68 ho0 ?_
  refine z_iload_n C dX11_branch_71 rfl 2 rfl ?_
  obtain ⟨h1, hf⟩ := q_ck hf
  refine z_iast C (n := 8) dX11_branch_72 (rt_11_15 _ (kd_lt ho0 (by decide)) ho0) (by decide) h1 ?_
  exact z_goto C dX11_branch_73 (by decide) (z_sub [0, 1, 2] rfl (b_X11_branch_86 C hr hk (zI z (rf o0 15) (Int32.toNatClampNeg (z.1 o0 24)) x3) o0 x2 x3 ho0 hf))
def f_X11_branch_76  (z : St) (o0 : Nat) (x2 : Int32) (x3 : Int32) : Option (St × Int32) :=
  if inb (z.1 o0 24) 8 = true then (f_X11_branch_86 (zI z (rf o0 13) (Int32.toNatClampNeg (z.1 o0 24)) x3) o0 x2 x3) else none
theorem b_X11_branch_76 {p : Program} {l : Launch} {e : Env} {s : State} {m : MethodId} {args : Array Value} {below : List Frame} {meth : Method} {c : Code} {g : Ga} {A : Nat → Prop} (C : Cx l g A p s m args c cX11_branch 4 RX11 (rm_X11_branch) (0, 0)) (hr : meth.sig.returnType = (some .int)) (hk : meth.locks = false)   (z : St) (o0 : Nat) (x2 : Int32) (x3 : Int32) (ho0 : kd o0 = 11) {res : St × Int32} (hf : f_X11_branch_76  z o0 x2 x3 = some res) : Zj p l e (rm_X11_branch) s m args below meth c g A 4 (0, 0) (QI g A below args s res) z 76 [(0, .ref (g.1 o0)), (2, .int x2), (3, .int x3)] [] := by
  unfold f_X11_branch_76 at hf
  refine z_aload_n C dX11_branch_76 rfl 0 rfl ?_
  refine gf_X11_28 C dX11_branch_77 ho0 ?_
  refine z_aload_n C dX11_branch_80 rfl 0 rfl ?_
  refine gf_X11_232 C dX11_branch_81 ho0 ?_
  refine z_iload_n C dX11_branch_84 rfl 2 rfl ?_
  obtain ⟨h1, hf⟩ := q_ck hf
  refine z_iast C (n := 8) dX11_branch_85 (rt_11_13 _ (kd_lt ho0 (by decide)) ho0) (by decide) h1 ?_
  exact z_sub [0, 1, 2] rfl (b_X11_branch_86 C hr hk (zI z (rf o0 13) (Int32.toNatClampNeg (z.1 o0 24)) x3) o0 x2 x3 ho0 hf)
def f_X11_branch_53  (z : St) (o0 : Nat) (x1 : Int32) (x2 : Int32) : Option (St × Int32) :=
  ((f_X11_branched z o0 x1).bind fun r1 => if x1 = 0 then f_X11_branch_63 r1.1 o0 x2 r1.2 else f_X11_branch_76 r1.1 o0 x2 r1.2)
theorem b_X11_branch_53 {p : Program} {l : Launch} {e : Env} {s : State} {m : MethodId} {args : Array Value} {below : List Frame} {meth : Method} {c : Code} {g : Ga} {A : Nat → Prop} (C : Cx l g A p s m args c cX11_branch 4 RX11 (rm_X11_branch) (0, 0)) (hr : meth.sig.returnType = (some .int)) (hk : meth.locks = false)   (z : St) (o0 : Nat) (x1 : Int32) (x2 : Int32) (ho0 : kd o0 = 11) {res : St × Int32} (hf : f_X11_branch_53  z o0 x1 x2 = some res) : Zj p l e (rm_X11_branch) s m args below meth c g A 4 (0, 0) (QI g A below args s res) z 53 [(0, .ref (g.1 o0)), (1, .int x1), (2, .int x2)] [] := by
  unfold f_X11_branch_53 at hf
  refine z_aload_n C dX11_branch_53 rfl 0 rfl ?_
  refine z_iload_n C dX11_branch_54 rfl 1 rfl ?_
  obtain ⟨r1, hc2, hf⟩ := q_bd hf
  refine z_cVi C (st := []) (c_X11_branched ho0 hc2) mw_X11_branched ml_X11_247 ho0 (by decide) rfl dX11_branch_55 rfl rfl rfl ⟨Nat.le_of_ble_eq_true rfl, Nat.le_of_ble_eq_true rfl⟩ rfl (Nat.le_of_ble_eq_true rfl) ?_
  refine z_istore_n C (lv2 := [(3, .int r1.2), (0, .ref (g.1 o0)), (1, .int x1), (2, .int x2)]) dX11_branch_58 rfl (by decide) rfl ?_
  refine z_iload_n C dX11_branch_59 rfl 2 rfl ?_
  exact z_if_ne C dX11_branch_60 (by decide) (fun h => z_sub [1, 3, 0] rfl (b_X11_branch_76 C hr hk r1.1 o0 x2 r1.2 ho0 (q_f hf h))) (fun h => z_sub [1, 3, 0] rfl (b_X11_branch_63 C hr hk r1.1 o0 x2 r1.2 ho0 (q_t hf h)))
def f_X11_branch_31  (z : St) (o0 : Nat) (x1 : Int32) (x2 : Int32) : Option (St × Int32) :=
  ((f_X11_thinks z o0).bind fun r1 => ((f_X11_greedily r1 o0).bind fun r3 => ((f_X11_looks r3.1 o0 r3.2).bind fun r5 => if 0 ≤ (r5.1 o0 24) then f_X11_branch_53 r5 o0 x1 x2 else f_X11_branch_50 r5)))
theorem b_X11_branch_31 {p : Program} {l : Launch} {e : Env} {s : State} {m : MethodId} {args : Array Value} {below : List Frame} {meth : Method} {c : Code} {g : Ga} {A : Nat → Prop} (C : Cx l g A p s m args c cX11_branch 4 RX11 (rm_X11_branch) (0, 0)) (hr : meth.sig.returnType = (some .int)) (hk : meth.locks = false)   (z : St) (o0 : Nat) (x1 : Int32) (x2 : Int32) (ho0 : kd o0 = 11) {res : St × Int32} (hf : f_X11_branch_31  z o0 x1 x2 = some res) : Zj p l e (rm_X11_branch) s m args below meth c g A 4 (0, 0) (QI g A below args s res) z 31 [(0, .ref (g.1 o0)), (1, .int x1), (2, .int x2)] [] := by
  unfold f_X11_branch_31 at hf
  refine z_aload_n C dX11_branch_31 rfl 0 rfl ?_
  obtain ⟨r1, hc2, hf⟩ := q_bd hf
  refine z_cVv C (st := []) (c_X11_thinks ho0 hc2) mw_X11_thinks ml_X11_205 ho0 (by decide) rfl dX11_branch_32 rfl rfl rfl ⟨Nat.le_of_ble_eq_true rfl, Nat.le_of_ble_eq_true rfl⟩ rfl (Nat.le_of_ble_eq_true rfl) ?_
  refine z_aload_n C dX11_branch_35 rfl 0 rfl ?_
  refine z_aload_n C dX11_branch_36 rfl 0 rfl ?_
  obtain ⟨r3, hc4, hf⟩ := q_bd hf
  refine z_cVi C (st := [.ref (g.1 o0)]) (c_X11_greedily ho0 hc4) mw_X11_greedily ml_X11_208 ho0 (by decide) rfl dX11_branch_37 rfl rfl rfl ⟨Nat.le_of_ble_eq_true rfl, Nat.le_of_ble_eq_true rfl⟩ rfl (Nat.le_of_ble_eq_true rfl) ?_
  obtain ⟨r5, hc6, hf⟩ := q_bd hf
  refine z_cVv C (st := []) (c_X11_looks ho0 hc6) mw_X11_looks ml_X11_238 ho0 (by decide) rfl dX11_branch_40 rfl rfl rfl ⟨Nat.le_of_ble_eq_true rfl, Nat.le_of_ble_eq_true rfl⟩ rfl (Nat.le_of_ble_eq_true rfl) ?_
  refine z_aload_n C dX11_branch_43 rfl 0 rfl ?_
  refine gf_X11_232 C dX11_branch_44 ho0 ?_
  exact z_if_ge C dX11_branch_47 (by decide) (fun h => z_sub [0, 1, 2] rfl (b_X11_branch_53 C hr hk r5 o0 x1 x2 ho0 (q_t hf h))) (fun h => z_sub [] rfl (b_X11_branch_50 C hr hk r5 (q_f hf h)))
def f_X11_branch_21  (z : St) (o0 : Nat) (x1 : Int32) (x2 : Int32) : Option (St × Int32) :=
  if (z.1 o0 5) = 0 then f_X11_branch_28 z else f_X11_branch_31 z o0 x1 x2
theorem b_X11_branch_21 {p : Program} {l : Launch} {e : Env} {s : State} {m : MethodId} {args : Array Value} {below : List Frame} {meth : Method} {c : Code} {g : Ga} {A : Nat → Prop} (C : Cx l g A p s m args c cX11_branch 4 RX11 (rm_X11_branch) (0, 0)) (hr : meth.sig.returnType = (some .int)) (hk : meth.locks = false)   (z : St) (o0 : Nat) (x1 : Int32) (x2 : Int32) (ho0 : kd o0 = 11) {res : St × Int32} (hf : f_X11_branch_21  z o0 x1 x2 = some res) : Zj p l e (rm_X11_branch) s m args below meth c g A 4 (0, 0) (QI g A below args s res) z 21 [(0, .ref (g.1 o0)), (1, .int x1), (2, .int x2)] [] := by
  unfold f_X11_branch_21 at hf
  refine z_aload_n C dX11_branch_21 rfl 0 rfl ?_
  refine gf_X11_111 C dX11_branch_22 ho0 ?_
  exact z_if_ne C dX11_branch_25 (by decide) (fun h => z_sub [0, 1, 2] rfl (b_X11_branch_31 C hr hk z o0 x1 x2 ho0 (q_f hf h))) (fun h => z_sub [] rfl (b_X11_branch_28 C hr hk z (q_t hf h)))
def f_X11_branch_9  (z : St) (o0 : Nat) (x1 : Int32) (x2 : Int32) : Option (St × Int32) :=
  ((f_X11_in z x2 0 2).bind fun r1 => if r1.2 = 0 then f_X11_branch_18 r1.1 else f_X11_branch_21 r1.1 o0 x1 x2)
theorem b_X11_branch_9 {p : Program} {l : Launch} {e : Env} {s : State} {m : MethodId} {args : Array Value} {below : List Frame} {meth : Method} {c : Code} {g : Ga} {A : Nat → Prop} (C : Cx l g A p s m args c cX11_branch 4 RX11 (rm_X11_branch) (0, 0)) (hr : meth.sig.returnType = (some .int)) (hk : meth.locks = false)   (z : St) (o0 : Nat) (x1 : Int32) (x2 : Int32) (ho0 : kd o0 = 11) {res : St × Int32} (hf : f_X11_branch_9  z o0 x1 x2 = some res) : Zj p l e (rm_X11_branch) s m args below meth c g A 4 (0, 0) (QI g A below args s res) z 9 [(0, .ref (g.1 o0)), (1, .int x1), (2, .int x2)] [] := by
  unfold f_X11_branch_9 at hf
  refine z_iload_n C dX11_branch_9 rfl 2 rfl ?_
  refine z_iconst C dX11_branch_10 (v := 0) (by decide) ?_
  refine z_iconst C dX11_branch_11 (v := 2) (by decide) ?_
  obtain ⟨r1, hc2, hf⟩ := q_bd hf
  refine z_cSi C (st := []) (c_X11_in  hc2) mw_X11_in ml_X11_114 dX11_branch_12 rfl rfl rfl ⟨Nat.le_of_ble_eq_true rfl, Nat.le_of_ble_eq_true rfl⟩ rfl (Nat.le_of_ble_eq_true rfl) ?_
  exact z_if_ne C dX11_branch_15 (by decide) (fun h => z_sub [0, 1, 2] rfl (b_X11_branch_21 C hr hk r1.1 o0 x1 x2 ho0 (q_f hf h))) (fun h => z_sub [] rfl (b_X11_branch_18 C hr hk r1.1 (q_t hf h)))
def f_X11_branch_0  (z : St) (o0 : Nat) (x1 : Int32) (x2 : Int32) : Option (St × Int32) :=
  ((f_X11_in z x1 0 1).bind fun r1 => if r1.2 = 0 then f_X11_branch_18 r1.1 else f_X11_branch_9 r1.1 o0 x1 x2)
theorem b_X11_branch_0 {p : Program} {l : Launch} {e : Env} {s : State} {m : MethodId} {args : Array Value} {below : List Frame} {meth : Method} {c : Code} {g : Ga} {A : Nat → Prop} (C : Cx l g A p s m args c cX11_branch 4 RX11 (rm_X11_branch) (0, 0)) (hr : meth.sig.returnType = (some .int)) (hk : meth.locks = false)   (z : St) (o0 : Nat) (x1 : Int32) (x2 : Int32) (ho0 : kd o0 = 11) {res : St × Int32} (hf : f_X11_branch_0  z o0 x1 x2 = some res) : Zj p l e (rm_X11_branch) s m args below meth c g A 4 (0, 0) (QI g A below args s res) z 0 [(0, .ref (g.1 o0)), (1, .int x1), (2, .int x2)] [] := by
  unfold f_X11_branch_0 at hf
  refine z_iload_n C dX11_branch_0 rfl 1 rfl ?_
  refine z_iconst C dX11_branch_1 (v := 0) (by decide) ?_
  refine z_iconst C dX11_branch_2 (v := 1) (by decide) ?_
  obtain ⟨r1, hc2, hf⟩ := q_bd hf
  refine z_cSi C (st := []) (c_X11_in  hc2) mw_X11_in ml_X11_114 dX11_branch_3 rfl rfl rfl ⟨Nat.le_of_ble_eq_true rfl, Nat.le_of_ble_eq_true rfl⟩ rfl (Nat.le_of_ble_eq_true rfl) ?_
  exact z_if_eq C dX11_branch_6 (by decide) (fun h => z_sub [] rfl (b_X11_branch_18 C hr hk r1.1 (q_t hf h))) (fun h => z_sub [0, 1, 2] rfl (b_X11_branch_9 C hr hk r1.1 o0 x1 x2 ho0 (q_f hf h)))
def f_X11_branch (z : St) (o0 : Nat) (x1 : Int32) (x2 : Int32) : Option (St × Int32) := f_X11_branch_0 z o0 x1 x2
theorem c_X11_branch {l : Launch} {g : Ga} {A : Nat → Prop} {z : St} {o0 : Nat} {x1 : Int32} {x2 : Int32} (ho0 : kd o0 = 11) {res : St × Int32} (hf : f_X11_branch z o0 x1 x2 = some res) : CI l g A yX11_branch cX11_branch 4 (some .int) rm_X11_branch [.ref (g.1 o0), .int x1, .int x2] z res :=
  e_CI (by decide) (Nat.le_of_ble_eq_true rfl) rfl (fun p e s m args below meth c C hr hk => z_sub [0, 1, 2] rfl (b_X11_branch_0 C hr hk z o0 x1 x2 ho0 hf))
abbrev rm_X11_boundOf : Room := { frames := 1, cells := 0, slots := 0, locals := 21 }
def f_X11_boundOf_71 (K14 : St → Nat → Int32 → Int32 → Int32 → Int32 → Int32 → Option (St × Int32)) (z : St) (o0 : Nat) (x1 : Int32) (x2 : Int32) (x3 : Int32) (x4 : Int32) (x5 : Int32) : Option (St × Int32) :=
  K14 z o0 x1 x2 x3 x4 (x5 + 1)
theorem b_X11_boundOf_71 {p : Program} {l : Launch} {e : Env} {s : State} {m : MethodId} {args : Array Value} {below : List Frame} {meth : Method} {c : Code} {g : Ga} {A : Nat → Prop} (C : Cx l g A p s m args c cX11_boundOf 6 RX11 (rm_X11_boundOf) (0, 0)) (hr : meth.sig.returnType = (some .int)) (hk : meth.locks = false) {K14 : St → Nat → Int32 → Int32 → Int32 → Int32 → Int32 → Option (St × Int32)} (hK14 : ∀ (z : St) (o0 : Nat) (x1 : Int32) (x2 : Int32) (x3 : Int32) (x4 : Int32) (x5 : Int32) (_ : kd o0 = 11) {res : St × Int32}, K14 z o0 x1 x2 x3 x4 x5 = some res → Zj p l e (rm_X11_boundOf) s m args below meth c g A 6 (0, 0) (QI g A below args s res) z 14 [(0, .ref (g.1 o0)), (1, .int x1), (2, .int x2), (3, .int x3), (4, .int x4), (5, .int x5)] []) (z : St) (o0 : Nat) (x1 : Int32) (x2 : Int32) (x3 : Int32) (x4 : Int32) (x5 : Int32) (ho0 : kd o0 = 11) {res : St × Int32} (hf : f_X11_boundOf_71 K14 z o0 x1 x2 x3 x4 x5 = some res) : Zj p l e (rm_X11_boundOf) s m args below meth c g A 6 (0, 0) (QI g A below args s res) z 71 [(0, .ref (g.1 o0)), (1, .int x1), (2, .int x2), (3, .int x3), (4, .int x4), (5, .int x5)] [] := by
  unfold f_X11_boundOf_71 at hf
  refine z_iinc C (k := 5) (v := x5 + 1) (lv2 := [(5, .int (x5 + 1)), (0, .ref (g.1 o0)), (1, .int x1), (2, .int x2), (3, .int x3), (4, .int x4)]) dX11_boundOf_71 rfl rfl (by decide) rfl ?_
  exact z_goto C dX11_boundOf_74 (by decide) (z_sub [1, 2, 3, 4, 5, 0] rfl (hK14 z o0 x1 x2 x3 x4 (x5 + 1) ho0 hf))
def f_X11_boundOf_32 (K14 : St → Nat → Int32 → Int32 → Int32 → Int32 → Int32 → Option (St × Int32)) (z : St) (o0 : Nat) (x1 : Int32) (x2 : Int32) (x3 : Int32) (x4 : Int32) (x5 : Int32) : Option (St × Int32) :=
  f_X11_boundOf_71 K14 z o0 x1 x2 x3 x4 x5
theorem b_X11_boundOf_32 {p : Program} {l : Launch} {e : Env} {s : State} {m : MethodId} {args : Array Value} {below : List Frame} {meth : Method} {c : Code} {g : Ga} {A : Nat → Prop} (C : Cx l g A p s m args c cX11_boundOf 6 RX11 (rm_X11_boundOf) (0, 0)) (hr : meth.sig.returnType = (some .int)) (hk : meth.locks = false) {K14 : St → Nat → Int32 → Int32 → Int32 → Int32 → Int32 → Option (St × Int32)} (hK14 : ∀ (z : St) (o0 : Nat) (x1 : Int32) (x2 : Int32) (x3 : Int32) (x4 : Int32) (x5 : Int32) (_ : kd o0 = 11) {res : St × Int32}, K14 z o0 x1 x2 x3 x4 x5 = some res → Zj p l e (rm_X11_boundOf) s m args below meth c g A 6 (0, 0) (QI g A below args s res) z 14 [(0, .ref (g.1 o0)), (1, .int x1), (2, .int x2), (3, .int x3), (4, .int x4), (5, .int x5)] []) (z : St) (o0 : Nat) (x1 : Int32) (x2 : Int32) (x3 : Int32) (x4 : Int32) (x5 : Int32) (ho0 : kd o0 = 11) {res : St × Int32} (hf : f_X11_boundOf_32 K14 z o0 x1 x2 x3 x4 x5 = some res) : Zj p l e (rm_X11_boundOf) s m args below meth c g A 6 (0, 0) (QI g A below args s res) z 32 [(0, .ref (g.1 o0)), (1, .int x1), (2, .int x2), (3, .int x3), (4, .int x4), (5, .int x5)] [] := by
  unfold f_X11_boundOf_32 at hf
  exact z_goto C dX11_boundOf_32 (by decide) (z_sub [0, 1, 2, 3, 4, 5] rfl (b_X11_boundOf_71 C hr hk hK14 z o0 x1 x2 x3 x4 x5 ho0 hf))
def f_X11_boundOf_35 (K14 : St → Nat → Int32 → Int32 → Int32 → Int32 → Int32 → Option (St × Int32)) (z : St) (o0 : Nat) (x1 : Int32) (x2 : Int32) (x3 : Int32) (x4 : Int32) (x5 : Int32) : Option (St × Int32) :=
  if inb x5 8 = true then (if inb x5 8 = true then (if inb x5 8 = true then (f_X11_boundOf_71 K14 z o0 x1 (imin x2 (z.1 (rf o0 13) (Int32.toNatClampNeg x5))) (x3 + (z.1 (rf o0 14) (Int32.toNatClampNeg x5))) (imin x4 (z.1 (rf o0 15) (Int32.toNatClampNeg x5))) x5) else none) else none) else none
theorem b_X11_boundOf_35 {p : Program} {l : Launch} {e : Env} {s : State} {m : MethodId} {args : Array Value} {below : List Frame} {meth : Method} {c : Code} {g : Ga} {A : Nat → Prop} (C : Cx l g A p s m args c cX11_boundOf 6 RX11 (rm_X11_boundOf) (0, 0)) (hr : meth.sig.returnType = (some .int)) (hk : meth.locks = false) {K14 : St → Nat → Int32 → Int32 → Int32 → Int32 → Int32 → Option (St × Int32)} (hK14 : ∀ (z : St) (o0 : Nat) (x1 : Int32) (x2 : Int32) (x3 : Int32) (x4 : Int32) (x5 : Int32) (_ : kd o0 = 11) {res : St × Int32}, K14 z o0 x1 x2 x3 x4 x5 = some res → Zj p l e (rm_X11_boundOf) s m args below meth c g A 6 (0, 0) (QI g A below args s res) z 14 [(0, .ref (g.1 o0)), (1, .int x1), (2, .int x2), (3, .int x3), (4, .int x4), (5, .int x5)] []) (z : St) (o0 : Nat) (x1 : Int32) (x2 : Int32) (x3 : Int32) (x4 : Int32) (x5 : Int32) (ho0 : kd o0 = 11) {res : St × Int32} (hf : f_X11_boundOf_35 K14 z o0 x1 x2 x3 x4 x5 = some res) : Zj p l e (rm_X11_boundOf) s m args below meth c g A 6 (0, 0) (QI g A below args s res) z 35 [(0, .ref (g.1 o0)), (1, .int x1), (2, .int x2), (3, .int x3), (4, .int x4), (5, .int x5)] [] := by
  unfold f_X11_boundOf_35 at hf
  refine z_iload_n C dX11_boundOf_35 rfl 2 rfl ?_
  refine z_aload_n C dX11_boundOf_36 rfl 0 rfl ?_
  refine gf_X11_28 C dX11_boundOf_37 ho0 ?_
  refine z_iload C dX11_boundOf_40 5 rfl ?_
  obtain ⟨h1, hf⟩ := q_ck hf
  refine z_iald C (n := 8) dX11_boundOf_42 (rt_11_13 _ (kd_lt ho0 (by decide)) ho0) (by decide) h1 ?_
  refine z_mmin C (st := []) dX11_boundOf_43 ml_X11_193 mm_min.1 mm_i mm_min.2 ⟨Nat.le_of_ble_eq_true rfl, Nat.le_of_ble_eq_true rfl⟩ (Nat.le_of_ble_eq_true rfl) ?_
  refine z_istore_n C (lv2 := [(2, .int (imin x2 (z.1 (rf o0 13) (Int32.toNatClampNeg x5)))), (0, .ref (g.1 o0)), (1, .int x1), (3, .int x3), (4, .int x4), (5, .int x5)]) dX11_boundOf_46 rfl (by decide) rfl ?_
  refine z_iload_n C dX11_boundOf_47 rfl 3 rfl ?_
  refine z_aload_n C dX11_boundOf_48 rfl 1 rfl ?_
  refine gf_X11_31 C dX11_boundOf_49 ho0 ?_
  refine z_iload C dX11_boundOf_52 5 rfl ?_
  obtain ⟨h2, hf⟩ := q_ck hf
  refine z_iald C (n := 8) dX11_boundOf_54 (rt_11_14 _ (kd_lt ho0 (by decide)) ho0) (by decide) h2 ?_
  refine z_iadd C dX11_boundOf_55 ?_
  refine z_istore_n C (lv2 := [(3, .int (x3 + (z.1 (rf o0 14) (Int32.toNatClampNeg x5)))), (2, .int (imin x2 (z.1 (rf o0 13) (Int32.toNatClampNeg x5)))), (0, .ref (g.1 o0)), (1, .int x1), (4, .int x4), (5, .int x5)]) dX11_boundOf_56 rfl (by decide) rfl ?_
  refine z_iload C dX11_boundOf_57 4 rfl ?_
  refine z_aload_n C dX11_boundOf_59 rfl 2 rfl ?_
  refine gf_X11_34 C dX11_boundOf_60 ho0 ?_
  refine z_iload C dX11_boundOf_63 5 rfl ?_
  obtain ⟨h3, hf⟩ := q_ck hf
  refine z_iald C (n := 8) dX11_boundOf_65 (rt_11_15 _ (kd_lt ho0 (by decide)) ho0) (by decide) h3 ?_
  refine z_mmin C (st := []) dX11_boundOf_66 ml_X11_193 mm_min.1 mm_i mm_min.2 ⟨Nat.le_of_ble_eq_true rfl, Nat.le_of_ble_eq_true rfl⟩ (Nat.le_of_ble_eq_true rfl) ?_
  refine z_istore C (lv2 := [(4, .int (imin x4 (z.1 (rf o0 15) (Int32.toNatClampNeg x5)))), (3, .int (x3 + (z.1 (rf o0 14) (Int32.toNatClampNeg x5)))), (2, .int (imin x2 (z.1 (rf o0 13) (Int32.toNatClampNeg x5)))), (0, .ref (g.1 o0)), (1, .int x1), (5, .int x5)]) dX11_boundOf_69 (by decide) rfl ?_
  exact z_sub [3, 4, 2, 1, 0, 5] rfl (b_X11_boundOf_71 C hr hk hK14 z o0 x1 (imin x2 (z.1 (rf o0 13) (Int32.toNatClampNeg x5))) (x3 + (z.1 (rf o0 14) (Int32.toNatClampNeg x5))) (imin x4 (z.1 (rf o0 15) (Int32.toNatClampNeg x5))) x5 ho0 hf)
def f_X11_boundOf_23 (K14 : St → Nat → Int32 → Int32 → Int32 → Int32 → Int32 → Option (St × Int32)) (z : St) (o0 : Nat) (x1 : Int32) (x2 : Int32) (x3 : Int32) (x4 : Int32) (x5 : Int32) : Option (St × Int32) :=
  if ((x1 >>> (x5 &&& 31)) &&& 1) = 0 then f_X11_boundOf_32 K14 z o0 x1 x2 x3 x4 x5 else f_X11_boundOf_35 K14 z o0 x1 x2 x3 x4 x5
theorem b_X11_boundOf_23 {p : Program} {l : Launch} {e : Env} {s : State} {m : MethodId} {args : Array Value} {below : List Frame} {meth : Method} {c : Code} {g : Ga} {A : Nat → Prop} (C : Cx l g A p s m args c cX11_boundOf 6 RX11 (rm_X11_boundOf) (0, 0)) (hr : meth.sig.returnType = (some .int)) (hk : meth.locks = false) {K14 : St → Nat → Int32 → Int32 → Int32 → Int32 → Int32 → Option (St × Int32)} (hK14 : ∀ (z : St) (o0 : Nat) (x1 : Int32) (x2 : Int32) (x3 : Int32) (x4 : Int32) (x5 : Int32) (_ : kd o0 = 11) {res : St × Int32}, K14 z o0 x1 x2 x3 x4 x5 = some res → Zj p l e (rm_X11_boundOf) s m args below meth c g A 6 (0, 0) (QI g A below args s res) z 14 [(0, .ref (g.1 o0)), (1, .int x1), (2, .int x2), (3, .int x3), (4, .int x4), (5, .int x5)] []) (z : St) (o0 : Nat) (x1 : Int32) (x2 : Int32) (x3 : Int32) (x4 : Int32) (x5 : Int32) (ho0 : kd o0 = 11) {res : St × Int32} (hf : f_X11_boundOf_23 K14 z o0 x1 x2 x3 x4 x5 = some res) : Zj p l e (rm_X11_boundOf) s m args below meth c g A 6 (0, 0) (QI g A below args s res) z 23 [(0, .ref (g.1 o0)), (1, .int x1), (2, .int x2), (3, .int x3), (4, .int x4), (5, .int x5)] [] := by
  unfold f_X11_boundOf_23 at hf
  refine z_iload_n C dX11_boundOf_23 rfl 1 rfl ?_
  refine z_iload C dX11_boundOf_24 5 rfl ?_
  refine z_ishr C dX11_boundOf_26 ?_
  refine z_iconst C dX11_boundOf_27 (v := 1) (by decide) ?_
  refine z_iand C dX11_boundOf_28 ?_
  exact z_if_ne C dX11_boundOf_29 (by decide) (fun h => z_sub [0, 1, 2, 3, 4, 5] rfl (b_X11_boundOf_35 C hr hk hK14 z o0 x1 x2 x3 x4 x5 ho0 (q_f hf h))) (fun h => z_sub [0, 1, 2, 3, 4, 5] rfl (b_X11_boundOf_32 C hr hk hK14 z o0 x1 x2 x3 x4 x5 ho0 (q_t hf h)))
def f_X11_boundOf_77  (z : St) (x2 : Int32) (x3 : Int32) (x4 : Int32) : Option (St × Int32) :=
  some (z, (x2 + x3) + x4)
theorem b_X11_boundOf_77 {p : Program} {l : Launch} {e : Env} {s : State} {m : MethodId} {args : Array Value} {below : List Frame} {meth : Method} {c : Code} {g : Ga} {A : Nat → Prop} (C : Cx l g A p s m args c cX11_boundOf 6 RX11 (rm_X11_boundOf) (0, 0)) (hr : meth.sig.returnType = (some .int)) (hk : meth.locks = false)   (z : St) (x2 : Int32) (x3 : Int32) (x4 : Int32)  {res : St × Int32} (hf : f_X11_boundOf_77  z x2 x3 x4 = some res) : Zj p l e (rm_X11_boundOf) s m args below meth c g A 6 (0, 0) (QI g A below args s res) z 77 [(2, .int x2), (3, .int x3), (4, .int x4)] [] := by
  unfold f_X11_boundOf_77 at hf
  refine z_iload_n C dX11_boundOf_77 rfl 0 rfl ?_
  refine z_iload_n C dX11_boundOf_78 rfl 1 rfl ?_
  refine z_iadd C dX11_boundOf_79 ?_
  refine z_iload C dX11_boundOf_80 2 rfl ?_
  refine z_iadd C dX11_boundOf_82 ?_
  cases hf
  exact z_iret C hr hk dX11_boundOf_83
def f_X11_boundOf_14  : Nat → St → Nat → Int32 → Int32 → Int32 → Int32 → Int32 → Option (St × Int32)
  | 0, _, _, _, _, _, _, _ => none
  | n + 1, z, o0, x1, x2, x3, x4, x5 => if (z.1 o0 5) ≤ x5 then f_X11_boundOf_77 z x2 x3 x4 else f_X11_boundOf_23 (f_X11_boundOf_14 n) z o0 x1 x2 x3 x4 x5
theorem b_X11_boundOf_14 {p : Program} {l : Launch} {e : Env} {s : State} {m : MethodId} {args : Array Value} {below : List Frame} {meth : Method} {c : Code} {g : Ga} {A : Nat → Prop} (C : Cx l g A p s m args c cX11_boundOf 6 RX11 (rm_X11_boundOf) (0, 0)) (hr : meth.sig.returnType = (some .int)) (hk : meth.locks = false)   : ∀ (n : Nat) (z : St) (o0 : Nat) (x1 : Int32) (x2 : Int32) (x3 : Int32) (x4 : Int32) (x5 : Int32) (_ : kd o0 = 11) {res : St × Int32} (_ : f_X11_boundOf_14  n z o0 x1 x2 x3 x4 x5 = some res), Zj p l e (rm_X11_boundOf) s m args below meth c g A 6 (0, 0) (QI g A below args s res) z 14 [(0, .ref (g.1 o0)), (1, .int x1), (2, .int x2), (3, .int x3), (4, .int x4), (5, .int x5)] [] := by
  intro n
  induction n with
  | zero =>
    intro z o0 x1 x2 x3 x4 x5 ho0 res hf
    cases hf
  | succ n ih =>
    intro z o0 x1 x2 x3 x4 x5 ho0 res hf
    rw [f_X11_boundOf_14] at hf
    refine z_iload C dX11_boundOf_14 5 rfl ?_
    refine z_aload_n C dX11_boundOf_16 rfl 0 rfl ?_
    refine gf_X11_111 C dX11_boundOf_17 ho0 ?_
    exact z_icmp_ge C dX11_boundOf_20 (by decide) (fun h => z_sub [2, 3, 4] rfl (b_X11_boundOf_77 C hr hk z x2 x3 x4 (q_t hf h))) (fun h => z_sub [0, 1, 2, 3, 4, 5] rfl (b_X11_boundOf_23 C hr hk ih z o0 x1 x2 x3 x4 x5 ho0 (q_f hf h)))
def f_X11_boundOf_0  (z : St) (o0 : Nat) (x1 : Int32) : Option (St × Int32) :=
  f_X11_boundOf_14 FU z o0 x1 999 0 999 0
theorem b_X11_boundOf_0 {p : Program} {l : Launch} {e : Env} {s : State} {m : MethodId} {args : Array Value} {below : List Frame} {meth : Method} {c : Code} {g : Ga} {A : Nat → Prop} (C : Cx l g A p s m args c cX11_boundOf 6 RX11 (rm_X11_boundOf) (0, 0)) (hr : meth.sig.returnType = (some .int)) (hk : meth.locks = false)   (z : St) (o0 : Nat) (x1 : Int32) (ho0 : kd o0 = 11) {res : St × Int32} (hf : f_X11_boundOf_0  z o0 x1 = some res) : Zj p l e (rm_X11_boundOf) s m args below meth c g A 6 (0, 0) (QI g A below args s res) z 0 [(0, .ref (g.1 o0)), (1, .int x1)] [] := by
  unfold f_X11_boundOf_0 at hf
  refine z_sipush C dX11_boundOf_0 (v := 999) (by decide) ?_
  refine z_istore_n C (lv2 := [(2, .int 999), (0, .ref (g.1 o0)), (1, .int x1)]) dX11_boundOf_3 rfl (by decide) rfl ?_
  refine z_iconst C dX11_boundOf_4 (v := 0) (by decide) ?_
  refine z_istore_n C (lv2 := [(3, .int 0), (2, .int 999), (0, .ref (g.1 o0)), (1, .int x1)]) dX11_boundOf_5 rfl (by decide) rfl ?_
  refine z_sipush C dX11_boundOf_6 (v := 999) (by decide) ?_
  refine z_istore C (lv2 := [(4, .int 999), (3, .int 0), (2, .int 999), (0, .ref (g.1 o0)), (1, .int x1)]) dX11_boundOf_9 (by decide) rfl ?_
  refine z_iconst C dX11_boundOf_11 (v := 0) (by decide) ?_
  refine z_istore C (lv2 := [(5, .int 0), (4, .int 999), (3, .int 0), (2, .int 999), (0, .ref (g.1 o0)), (1, .int x1)]) dX11_boundOf_12 (by decide) rfl ?_
  exact z_sub [4, 5, 3, 2, 1, 0] rfl (b_X11_boundOf_14 C hr hk FU z o0 x1 999 0 999 0 ho0 hf)
def f_X11_boundOf (z : St) (o0 : Nat) (x1 : Int32) : Option (St × Int32) := f_X11_boundOf_0 z o0 x1
theorem c_X11_boundOf {l : Launch} {g : Ga} {A : Nat → Prop} {z : St} {o0 : Nat} {x1 : Int32} (ho0 : kd o0 = 11) {res : St × Int32} (hf : f_X11_boundOf z o0 x1 = some res) : CI l g A yX11_boundOf cX11_boundOf 6 (some .int) rm_X11_boundOf [.ref (g.1 o0), .int x1] z res :=
  e_CI (by decide) (Nat.le_of_ble_eq_true rfl) rfl (fun p e s m args below meth c C hr hk => z_sub [0, 1] rfl (b_X11_boundOf_0 C hr hk z o0 x1 ho0 hf))
abbrev rm_X11_bound : Room := { frames := 4, cells := 0, slots := 0, locals := 85 }
def f_X11_bound_16  (z : St)  : Option (St × Int32) :=
  some (z, (-2))
theorem b_X11_bound_16 {p : Program} {l : Launch} {e : Env} {s : State} {m : MethodId} {args : Array Value} {below : List Frame} {meth : Method} {c : Code} {g : Ga} {A : Nat → Prop} (C : Cx l g A p s m args c cX11_bound 2 RX11 (rm_X11_bound) (0, 0)) (hr : meth.sig.returnType = (some .int)) (hk : meth.locks = false)   (z : St)   {res : St × Int32} (hf : f_X11_bound_16  z  = some res) : Zj p l e (rm_X11_bound) s m args below meth c g A 2 (0, 0) (QI g A below args s res) z 16 [] [] := by
  unfold f_X11_bound_16 at hf
  refine z_bipush C dX11_bound_16 (v := (-2)) (by decide) ?_
  cases hf
  exact z_iret C hr hk dX11_bound_18
def f_X11_bound_19  (z : St) (o0 : Nat) (x1 : Int32) : Option (St × Int32) :=
  ((f_X11_thinks z o0).bind fun r1 => ((f_X11_boundOf r1 o0 x1).bind fun r3 => some (r3.1, r3.2)))
theorem b_X11_bound_19 {p : Program} {l : Launch} {e : Env} {s : State} {m : MethodId} {args : Array Value} {below : List Frame} {meth : Method} {c : Code} {g : Ga} {A : Nat → Prop} (C : Cx l g A p s m args c cX11_bound 2 RX11 (rm_X11_bound) (0, 0)) (hr : meth.sig.returnType = (some .int)) (hk : meth.locks = false)   (z : St) (o0 : Nat) (x1 : Int32) (ho0 : kd o0 = 11) {res : St × Int32} (hf : f_X11_bound_19  z o0 x1 = some res) : Zj p l e (rm_X11_bound) s m args below meth c g A 2 (0, 0) (QI g A below args s res) z 19 [(0, .ref (g.1 o0)), (1, .int x1)] [] := by
  unfold f_X11_bound_19 at hf
  refine z_aload_n C dX11_bound_19 rfl 0 rfl ?_
  obtain ⟨r1, hc2, hf⟩ := q_bd hf
  refine z_cVv C (st := []) (c_X11_thinks ho0 hc2) mw_X11_thinks ml_X11_205 ho0 (by decide) rfl dX11_bound_20 rfl rfl rfl ⟨Nat.le_of_ble_eq_true rfl, Nat.le_of_ble_eq_true rfl⟩ rfl (Nat.le_of_ble_eq_true rfl) ?_
  refine z_aload_n C dX11_bound_23 rfl 0 rfl ?_
  refine z_iload_n C dX11_bound_24 rfl 1 rfl ?_
  obtain ⟨r3, hc4, hf⟩ := q_bd hf
  refine z_cVi C (st := []) (c_X11_boundOf ho0 hc4) mw_X11_boundOf ml_X11_250 ho0 (by decide) rfl dX11_bound_25 rfl rfl rfl ⟨Nat.le_of_ble_eq_true rfl, Nat.le_of_ble_eq_true rfl⟩ rfl (Nat.le_of_ble_eq_true rfl) ?_
  cases hf
  exact z_iret C hr hk dX11_bound_28
def f_X11_bound_0  (z : St) (o0 : Nat) (x1 : Int32) : Option (St × Int32) :=
  ((f_X11_in z x1 1 (((1 : Int32) <<< ((z.1 o0 5) &&& 31)) - 1)).bind fun r1 => if r1.2 = 0 then f_X11_bound_16 r1.1 else f_X11_bound_19 r1.1 o0 x1)
theorem b_X11_bound_0 {p : Program} {l : Launch} {e : Env} {s : State} {m : MethodId} {args : Array Value} {below : List Frame} {meth : Method} {c : Code} {g : Ga} {A : Nat → Prop} (C : Cx l g A p s m args c cX11_bound 2 RX11 (rm_X11_bound) (0, 0)) (hr : meth.sig.returnType = (some .int)) (hk : meth.locks = false)   (z : St) (o0 : Nat) (x1 : Int32) (ho0 : kd o0 = 11) {res : St × Int32} (hf : f_X11_bound_0  z o0 x1 = some res) : Zj p l e (rm_X11_bound) s m args below meth c g A 2 (0, 0) (QI g A below args s res) z 0 [(0, .ref (g.1 o0)), (1, .int x1)] [] := by
  unfold f_X11_bound_0 at hf
  refine z_iload_n C dX11_bound_0 rfl 1 rfl ?_
  refine z_iconst C dX11_bound_1 (v := 1) (by decide) ?_
  refine z_iconst C dX11_bound_2 (v := 1) (by decide) ?_
  refine z_aload_n C dX11_bound_3 rfl 0 rfl ?_
  refine gf_X11_111 C dX11_bound_4 ho0 ?_
  refine z_ishl C dX11_bound_7 ?_
  refine z_iconst C dX11_bound_8 (v := 1) (by decide) ?_
  refine z_isub C dX11_bound_9 ?_
  obtain ⟨r1, hc2, hf⟩ := q_bd hf
  refine z_cSi C (st := []) (c_X11_in  hc2) mw_X11_in ml_X11_114 dX11_bound_10 rfl rfl rfl ⟨Nat.le_of_ble_eq_true rfl, Nat.le_of_ble_eq_true rfl⟩ rfl (Nat.le_of_ble_eq_true rfl) ?_
  exact z_if_ne C dX11_bound_13 (by decide) (fun h => z_sub [0, 1] rfl (b_X11_bound_19 C hr hk r1.1 o0 x1 ho0 (q_f hf h))) (fun h => z_sub [] rfl (b_X11_bound_16 C hr hk r1.1 (q_t hf h)))
def f_X11_bound (z : St) (o0 : Nat) (x1 : Int32) : Option (St × Int32) := f_X11_bound_0 z o0 x1
theorem c_X11_bound {l : Launch} {g : Ga} {A : Nat → Prop} {z : St} {o0 : Nat} {x1 : Int32} (ho0 : kd o0 = 11) {res : St × Int32} (hf : f_X11_bound z o0 x1 = some res) : CI l g A yX11_bound cX11_bound 2 (some .int) rm_X11_bound [.ref (g.1 o0), .int x1] z res :=
  e_CI (by decide) (Nat.le_of_ble_eq_true rfl) rfl (fun p e s m args below meth c C hr hk => z_sub [0, 1] rfl (b_X11_bound_0 C hr hk z o0 x1 ho0 hf))
abbrev rm_X11_many : Room := { frames := 0, cells := 0, slots := 0, locals := 0 }
def f_X11_many_8 (K4 : St → Int32 → Int32 → Option (St × Int32)) (z : St) (x1 : Int32) (x2 : Int32) : Option (St × Int32) :=
  K4 z (x1 + 1) (x2 &&& (x2 - 1))
theorem b_X11_many_8 {p : Program} {l : Launch} {e : Env} {s : State} {m : MethodId} {args : Array Value} {below : List Frame} {meth : Method} {c : Code} {g : Ga} {A : Nat → Prop} (C : Cx l g A p s m args c cX11_many 3 RX11 (rm_X11_many) (0, 0)) (hr : meth.sig.returnType = (some .int)) (hk : meth.locks = false) {K4 : St → Int32 → Int32 → Option (St × Int32)} (hK4 : ∀ (z : St) (x1 : Int32) (x2 : Int32)  {res : St × Int32}, K4 z x1 x2 = some res → Zj p l e (rm_X11_many) s m args below meth c g A 3 (0, 0) (QI g A below args s res) z 4 [(1, .int x1), (2, .int x2)] []) (z : St) (x1 : Int32) (x2 : Int32)  {res : St × Int32} (hf : f_X11_many_8 K4 z x1 x2 = some res) : Zj p l e (rm_X11_many) s m args below meth c g A 3 (0, 0) (QI g A below args s res) z 8 [(1, .int x1), (2, .int x2)] [] := by
  unfold f_X11_many_8 at hf
  refine z_iinc C (k := 0) (v := x1 + 1) (lv2 := [(1, .int (x1 + 1)), (2, .int x2)]) dX11_many_8 rfl rfl (by decide) rfl ?_
  refine z_iload_n C dX11_many_11 rfl 1 rfl ?_
  refine z_iload_n C dX11_many_12 rfl 1 rfl ?_
  refine z_iconst C dX11_many_13 (v := 1) (by decide) ?_
  refine z_isub C dX11_many_14 ?_
  refine z_iand C dX11_many_15 ?_
  refine z_istore_n C (lv2 := [(2, .int (x2 &&& (x2 - 1))), (1, .int (x1 + 1))]) dX11_many_16 rfl (by decide) rfl ?_
  exact z_goto C dX11_many_17 (by decide) (z_sub [1, 0] rfl (hK4 z (x1 + 1) (x2 &&& (x2 - 1)) hf))
def f_X11_many_20  (z : St) (x1 : Int32) : Option (St × Int32) :=
  some (z, x1)
theorem b_X11_many_20 {p : Program} {l : Launch} {e : Env} {s : State} {m : MethodId} {args : Array Value} {below : List Frame} {meth : Method} {c : Code} {g : Ga} {A : Nat → Prop} (C : Cx l g A p s m args c cX11_many 3 RX11 (rm_X11_many) (0, 0)) (hr : meth.sig.returnType = (some .int)) (hk : meth.locks = false)   (z : St) (x1 : Int32)  {res : St × Int32} (hf : f_X11_many_20  z x1 = some res) : Zj p l e (rm_X11_many) s m args below meth c g A 3 (0, 0) (QI g A below args s res) z 20 [(1, .int x1)] [] := by
  unfold f_X11_many_20 at hf
  refine z_iload_n C dX11_many_20 rfl 0 rfl ?_
  cases hf
  exact z_iret C hr hk dX11_many_21
def f_X11_many_4  : Nat → St → Int32 → Int32 → Option (St × Int32)
  | 0, _, _, _ => none
  | n + 1, z, x1, x2 => if x2 = 0 then f_X11_many_20 z x1 else f_X11_many_8 (f_X11_many_4 n) z x1 x2
theorem b_X11_many_4 {p : Program} {l : Launch} {e : Env} {s : State} {m : MethodId} {args : Array Value} {below : List Frame} {meth : Method} {c : Code} {g : Ga} {A : Nat → Prop} (C : Cx l g A p s m args c cX11_many 3 RX11 (rm_X11_many) (0, 0)) (hr : meth.sig.returnType = (some .int)) (hk : meth.locks = false)   : ∀ (n : Nat) (z : St) (x1 : Int32) (x2 : Int32)  {res : St × Int32} (_ : f_X11_many_4  n z x1 x2 = some res), Zj p l e (rm_X11_many) s m args below meth c g A 3 (0, 0) (QI g A below args s res) z 4 [(1, .int x1), (2, .int x2)] [] := by
  intro n
  induction n with
  | zero =>
    intro z x1 x2  res hf
    cases hf
  | succ n ih =>
    intro z x1 x2  res hf
    rw [f_X11_many_4] at hf
    refine z_iload_n C dX11_many_4 rfl 1 rfl ?_
    exact z_if_eq C dX11_many_5 (by decide) (fun h => z_sub [0] rfl (b_X11_many_20 C hr hk z x1 (q_t hf h))) (fun h => z_sub [0, 1] rfl (b_X11_many_8 C hr hk ih z x1 x2 (q_f hf h)))
def f_X11_many_0  (z : St) (x0 : Int32) : Option (St × Int32) :=
  f_X11_many_4 FU z 0 x0
theorem b_X11_many_0 {p : Program} {l : Launch} {e : Env} {s : State} {m : MethodId} {args : Array Value} {below : List Frame} {meth : Method} {c : Code} {g : Ga} {A : Nat → Prop} (C : Cx l g A p s m args c cX11_many 3 RX11 (rm_X11_many) (0, 0)) (hr : meth.sig.returnType = (some .int)) (hk : meth.locks = false)   (z : St) (x0 : Int32)  {res : St × Int32} (hf : f_X11_many_0  z x0 = some res) : Zj p l e (rm_X11_many) s m args below meth c g A 3 (0, 0) (QI g A below args s res) z 0 [(0, .int x0)] [] := by
  unfold f_X11_many_0 at hf
  refine z_iconst C dX11_many_0 (v := 0) (by decide) ?_
  refine z_istore_n C (lv2 := [(1, .int 0), (0, .int x0)]) dX11_many_1 rfl (by decide) rfl ?_
  refine z_iload_n C dX11_many_2 rfl 1 rfl ?_
  refine z_istore_n C (lv2 := [(2, .int x0), (1, .int 0), (0, .int x0)]) dX11_many_3 rfl (by decide) rfl ?_
  exact z_sub [1, 0] rfl (b_X11_many_4 C hr hk FU z 0 x0 hf)
def f_X11_many (z : St) (x0 : Int32) : Option (St × Int32) := f_X11_many_0 z x0
theorem c_X11_many {l : Launch} {g : Ga} {A : Nat → Prop} {z : St} {x0 : Int32}  {res : St × Int32} (hf : f_X11_many z x0 = some res) : CI l g A yX11_many cX11_many 3 (some .int) rm_X11_many [.int x0] z res :=
  e_CI (by decide) (Nat.le_of_ble_eq_true rfl) rfl (fun p e s m args below meth c C hr hk => z_sub [0] rfl (b_X11_many_0 C hr hk z x0  hf))
abbrev rm_X11_strongest : Room := { frames := 4, cells := 0, slots := 0, locals := 85 }
def f_X11_strongest_9  (z : St)  : Option (St × Int32) :=
  some (z, (-2))
theorem b_X11_strongest_9 {p : Program} {l : Launch} {e : Env} {s : State} {m : MethodId} {args : Array Value} {below : List Frame} {meth : Method} {c : Code} {g : Ga} {A : Nat → Prop} (C : Cx l g A p s m args c cX11_strongest 6 RX11 (rm_X11_strongest) (0, 0)) (hr : meth.sig.returnType = (some .int)) (hk : meth.locks = false)   (z : St)   {res : St × Int32} (hf : f_X11_strongest_9  z  = some res) : Zj p l e (rm_X11_strongest) s m args below meth c g A 6 (0, 0) (QI g A below args s res) z 9 [] [] := by
  unfold f_X11_strongest_9 at hf
  refine z_bipush C dX11_strongest_9 (v := (-2)) (by decide) ?_
  cases hf
  exact z_iret C hr hk dX11_strongest_11
def f_X11_strongest_19  (z : St)  : Option (St × Int32) :=
  some (z, (-3))
theorem b_X11_strongest_19 {p : Program} {l : Launch} {e : Env} {s : State} {m : MethodId} {args : Array Value} {below : List Frame} {meth : Method} {c : Code} {g : Ga} {A : Nat → Prop} (C : Cx l g A p s m args c cX11_strongest 6 RX11 (rm_X11_strongest) (0, 0)) (hr : meth.sig.returnType = (some .int)) (hk : meth.locks = false)   (z : St)   {res : St × Int32} (hf : f_X11_strongest_19  z  = some res) : Zj p l e (rm_X11_strongest) s m args below meth c g A 6 (0, 0) (QI g A below args s res) z 19 [] [] := by
  unfold f_X11_strongest_19 at hf
  refine z_bipush C dX11_strongest_19 (v := (-3)) (by decide) ?_
  cases hf
  exact z_iret C hr hk dX11_strongest_21
def f_X11_strongest_86 (K37 : St → Nat → Int32 → Int32 → Int32 → Int32 → Option (St × Int32)) (z : St) (o0 : Nat) (x1 : Int32) (x2 : Int32) (x3 : Int32) (x4 : Int32) : Option (St × Int32) :=
  K37 z o0 x1 x2 x3 (x4 + 1)
theorem b_X11_strongest_86 {p : Program} {l : Launch} {e : Env} {s : State} {m : MethodId} {args : Array Value} {below : List Frame} {meth : Method} {c : Code} {g : Ga} {A : Nat → Prop} (C : Cx l g A p s m args c cX11_strongest 6 RX11 (rm_X11_strongest) (0, 0)) (hr : meth.sig.returnType = (some .int)) (hk : meth.locks = false) {K37 : St → Nat → Int32 → Int32 → Int32 → Int32 → Option (St × Int32)} (hK37 : ∀ (z : St) (o0 : Nat) (x1 : Int32) (x2 : Int32) (x3 : Int32) (x4 : Int32) (_ : kd o0 = 11) {res : St × Int32}, K37 z o0 x1 x2 x3 x4 = some res → Zj p l e (rm_X11_strongest) s m args below meth c g A 6 (0, 0) (QI g A below args s res) z 37 [(0, .ref (g.1 o0)), (1, .int x1), (2, .int x2), (3, .int x3), (4, .int x4)] []) (z : St) (o0 : Nat) (x1 : Int32) (x2 : Int32) (x3 : Int32) (x4 : Int32) (ho0 : kd o0 = 11) {res : St × Int32} (hf : f_X11_strongest_86 K37 z o0 x1 x2 x3 x4 = some res) : Zj p l e (rm_X11_strongest) s m args below meth c g A 6 (0, 0) (QI g A below args s res) z 86 [(0, .ref (g.1 o0)), (1, .int x1), (2, .int x2), (3, .int x3), (4, .int x4)] [] := by
  unfold f_X11_strongest_86 at hf
  refine z_iinc C (k := 4) (v := x4 + 1) (lv2 := [(4, .int (x4 + 1)), (0, .ref (g.1 o0)), (1, .int x1), (2, .int x2), (3, .int x3)]) dX11_strongest_86 rfl rfl (by decide) rfl ?_
  exact z_goto C dX11_strongest_89 (by decide) (z_sub [1, 2, 3, 4, 0] rfl (hK37 z o0 x1 x2 x3 (x4 + 1) ho0 hf))
def f_X11_strongest_80 (K37 : St → Nat → Int32 → Int32 → Int32 → Int32 → Option (St × Int32)) (z : St) (o0 : Nat) (x1 : Int32) (x4 : Int32) (x5 : Int32) : Option (St × Int32) :=
  f_X11_strongest_86 K37 z o0 x1 x4 x5 x4
theorem b_X11_strongest_80 {p : Program} {l : Launch} {e : Env} {s : State} {m : MethodId} {args : Array Value} {below : List Frame} {meth : Method} {c : Code} {g : Ga} {A : Nat → Prop} (C : Cx l g A p s m args c cX11_strongest 6 RX11 (rm_X11_strongest) (0, 0)) (hr : meth.sig.returnType = (some .int)) (hk : meth.locks = false) {K37 : St → Nat → Int32 → Int32 → Int32 → Int32 → Option (St × Int32)} (hK37 : ∀ (z : St) (o0 : Nat) (x1 : Int32) (x2 : Int32) (x3 : Int32) (x4 : Int32) (_ : kd o0 = 11) {res : St × Int32}, K37 z o0 x1 x2 x3 x4 = some res → Zj p l e (rm_X11_strongest) s m args below meth c g A 6 (0, 0) (QI g A below args s res) z 37 [(0, .ref (g.1 o0)), (1, .int x1), (2, .int x2), (3, .int x3), (4, .int x4)] []) (z : St) (o0 : Nat) (x1 : Int32) (x4 : Int32) (x5 : Int32) (ho0 : kd o0 = 11) {res : St × Int32} (hf : f_X11_strongest_80 K37 z o0 x1 x4 x5 = some res) : Zj p l e (rm_X11_strongest) s m args below meth c g A 6 (0, 0) (QI g A below args s res) z 80 [(0, .ref (g.1 o0)), (1, .int x1), (4, .int x4), (5, .int x5)] [] := by
  unfold f_X11_strongest_80 at hf
  refine z_iload C dX11_strongest_80 2 rfl ?_
  refine z_istore_n C (lv2 := [(2, .int x4), (0, .ref (g.1 o0)), (1, .int x1), (4, .int x4), (5, .int x5)]) dX11_strongest_82 rfl (by decide) rfl ?_
  refine z_iload C dX11_strongest_83 4 rfl ?_
  refine z_istore_n C (lv2 := [(3, .int x5), (2, .int x4), (0, .ref (g.1 o0)), (1, .int x1), (4, .int x4), (5, .int x5)]) dX11_strongest_85 rfl (by decide) rfl ?_
  exact z_sub [2, 3, 1, 0, 4] rfl (b_X11_strongest_86 C hr hk hK37 z o0 x1 x4 x5 x4 ho0 hf)
def f_X11_strongest_68 (K37 : St → Nat → Int32 → Int32 → Int32 → Int32 → Option (St × Int32)) (z : St) (o0 : Nat) (x1 : Int32) (x2 : Int32) (x3 : Int32) (x4 : Int32) (x5 : Int32) : Option (St × Int32) :=
  ((f_X11_many z x4).bind fun r1 => ((f_X11_many r1.1 x2).bind fun r3 => if r3.2 ≤ r1.2 then f_X11_strongest_86 K37 r3.1 o0 x1 x2 x3 x4 else f_X11_strongest_80 K37 r3.1 o0 x1 x4 x5))
theorem b_X11_strongest_68 {p : Program} {l : Launch} {e : Env} {s : State} {m : MethodId} {args : Array Value} {below : List Frame} {meth : Method} {c : Code} {g : Ga} {A : Nat → Prop} (C : Cx l g A p s m args c cX11_strongest 6 RX11 (rm_X11_strongest) (0, 0)) (hr : meth.sig.returnType = (some .int)) (hk : meth.locks = false) {K37 : St → Nat → Int32 → Int32 → Int32 → Int32 → Option (St × Int32)} (hK37 : ∀ (z : St) (o0 : Nat) (x1 : Int32) (x2 : Int32) (x3 : Int32) (x4 : Int32) (_ : kd o0 = 11) {res : St × Int32}, K37 z o0 x1 x2 x3 x4 = some res → Zj p l e (rm_X11_strongest) s m args below meth c g A 6 (0, 0) (QI g A below args s res) z 37 [(0, .ref (g.1 o0)), (1, .int x1), (2, .int x2), (3, .int x3), (4, .int x4)] []) (z : St) (o0 : Nat) (x1 : Int32) (x2 : Int32) (x3 : Int32) (x4 : Int32) (x5 : Int32) (ho0 : kd o0 = 11) {res : St × Int32} (hf : f_X11_strongest_68 K37 z o0 x1 x2 x3 x4 x5 = some res) : Zj p l e (rm_X11_strongest) s m args below meth c g A 6 (0, 0) (QI g A below args s res) z 68 [(0, .ref (g.1 o0)), (1, .int x1), (2, .int x2), (3, .int x3), (4, .int x4), (5, .int x5)] [] := by
  unfold f_X11_strongest_68 at hf
  refine z_iload C dX11_strongest_68 4 rfl ?_
  obtain ⟨r1, hc2, hf⟩ := q_bd hf
  refine z_cSi C (st := []) (c_X11_many  hc2) mw_X11_many ml_X11_253 dX11_strongest_70 rfl rfl rfl ⟨Nat.le_of_ble_eq_true rfl, Nat.le_of_ble_eq_true rfl⟩ rfl (Nat.le_of_ble_eq_true rfl) ?_
  refine z_iload_n C dX11_strongest_73 rfl 2 rfl ?_
  obtain ⟨r3, hc4, hf⟩ := q_bd hf
  refine z_cSi C (st := [.int r1.2]) (c_X11_many  hc4) mw_X11_many ml_X11_253 dX11_strongest_74 rfl rfl rfl ⟨Nat.le_of_ble_eq_true rfl, Nat.le_of_ble_eq_true rfl⟩ rfl (Nat.le_of_ble_eq_true rfl) ?_
  exact z_icmp_ge C dX11_strongest_77 (by decide) (fun h => z_sub [0, 1, 2, 3, 4] rfl (b_X11_strongest_86 C hr hk hK37 r3.1 o0 x1 x2 x3 x4 ho0 (q_t hf h))) (fun h => z_sub [0, 1, 4, 5] rfl (b_X11_strongest_80 C hr hk hK37 r3.1 o0 x1 x4 x5 ho0 (q_f hf h)))
def f_X11_strongest_62 (K37 : St → Nat → Int32 → Int32 → Int32 → Int32 → Option (St × Int32)) (z : St) (o0 : Nat) (x1 : Int32) (x2 : Int32) (x3 : Int32) (x4 : Int32) (x5 : Int32) : Option (St × Int32) :=
  if x5 = x3 then f_X11_strongest_68 K37 z o0 x1 x2 x3 x4 x5 else f_X11_strongest_86 K37 z o0 x1 x2 x3 x4
theorem b_X11_strongest_62 {p : Program} {l : Launch} {e : Env} {s : State} {m : MethodId} {args : Array Value} {below : List Frame} {meth : Method} {c : Code} {g : Ga} {A : Nat → Prop} (C : Cx l g A p s m args c cX11_strongest 6 RX11 (rm_X11_strongest) (0, 0)) (hr : meth.sig.returnType = (some .int)) (hk : meth.locks = false) {K37 : St → Nat → Int32 → Int32 → Int32 → Int32 → Option (St × Int32)} (hK37 : ∀ (z : St) (o0 : Nat) (x1 : Int32) (x2 : Int32) (x3 : Int32) (x4 : Int32) (_ : kd o0 = 11) {res : St × Int32}, K37 z o0 x1 x2 x3 x4 = some res → Zj p l e (rm_X11_strongest) s m args below meth c g A 6 (0, 0) (QI g A below args s res) z 37 [(0, .ref (g.1 o0)), (1, .int x1), (2, .int x2), (3, .int x3), (4, .int x4)] []) (z : St) (o0 : Nat) (x1 : Int32) (x2 : Int32) (x3 : Int32) (x4 : Int32) (x5 : Int32) (ho0 : kd o0 = 11) {res : St × Int32} (hf : f_X11_strongest_62 K37 z o0 x1 x2 x3 x4 x5 = some res) : Zj p l e (rm_X11_strongest) s m args below meth c g A 6 (0, 0) (QI g A below args s res) z 62 [(0, .ref (g.1 o0)), (1, .int x1), (2, .int x2), (3, .int x3), (4, .int x4), (5, .int x5)] [] := by
  unfold f_X11_strongest_62 at hf
  refine z_iload C dX11_strongest_62 5 rfl ?_
  refine z_iload_n C dX11_strongest_64 rfl 3 rfl ?_
  exact z_icmp_ne C dX11_strongest_65 (by decide) (fun h => z_sub [0, 1, 2, 3, 4] rfl (b_X11_strongest_86 C hr hk hK37 z o0 x1 x2 x3 x4 ho0 (q_f hf h))) (fun h => z_sub [0, 1, 2, 3, 4, 5] rfl (b_X11_strongest_68 C hr hk hK37 z o0 x1 x2 x3 x4 x5 ho0 (q_t hf h)))
def f_X11_strongest_48 (K37 : St → Nat → Int32 → Int32 → Int32 → Int32 → Option (St × Int32)) (z : St) (o0 : Nat) (x1 : Int32) (x2 : Int32) (x3 : Int32) (x4 : Int32) : Option (St × Int32) :=
  ((f_X11_boundOf z o0 x4).bind fun r1 => if x3 < r1.2 then f_X11_strongest_80 K37 r1.1 o0 x1 x4 r1.2 else f_X11_strongest_62 K37 r1.1 o0 x1 x2 x3 x4 r1.2)
theorem b_X11_strongest_48 {p : Program} {l : Launch} {e : Env} {s : State} {m : MethodId} {args : Array Value} {below : List Frame} {meth : Method} {c : Code} {g : Ga} {A : Nat → Prop} (C : Cx l g A p s m args c cX11_strongest 6 RX11 (rm_X11_strongest) (0, 0)) (hr : meth.sig.returnType = (some .int)) (hk : meth.locks = false) {K37 : St → Nat → Int32 → Int32 → Int32 → Int32 → Option (St × Int32)} (hK37 : ∀ (z : St) (o0 : Nat) (x1 : Int32) (x2 : Int32) (x3 : Int32) (x4 : Int32) (_ : kd o0 = 11) {res : St × Int32}, K37 z o0 x1 x2 x3 x4 = some res → Zj p l e (rm_X11_strongest) s m args below meth c g A 6 (0, 0) (QI g A below args s res) z 37 [(0, .ref (g.1 o0)), (1, .int x1), (2, .int x2), (3, .int x3), (4, .int x4)] []) (z : St) (o0 : Nat) (x1 : Int32) (x2 : Int32) (x3 : Int32) (x4 : Int32) (ho0 : kd o0 = 11) {res : St × Int32} (hf : f_X11_strongest_48 K37 z o0 x1 x2 x3 x4 = some res) : Zj p l e (rm_X11_strongest) s m args below meth c g A 6 (0, 0) (QI g A below args s res) z 48 [(0, .ref (g.1 o0)), (1, .int x1), (2, .int x2), (3, .int x3), (4, .int x4)] [] := by
  unfold f_X11_strongest_48 at hf
  refine z_aload_n C dX11_strongest_48 rfl 0 rfl ?_
  refine z_iload C dX11_strongest_49 4 rfl ?_
  obtain ⟨r1, hc2, hf⟩ := q_bd hf
  refine z_cVi C (st := []) (c_X11_boundOf ho0 hc2) mw_X11_boundOf ml_X11_250 ho0 (by decide) rfl dX11_strongest_51 rfl rfl rfl ⟨Nat.le_of_ble_eq_true rfl, Nat.le_of_ble_eq_true rfl⟩ rfl (Nat.le_of_ble_eq_true rfl) ?_
  refine z_istore C (lv2 := [(5, .int r1.2), (0, .ref (g.1 o0)), (1, .int x1), (2, .int x2), (3, .int x3), (4, .int x4)]) dX11_strongest_54 (by decide) rfl ?_
  refine z_iload C dX11_strongest_56 0 rfl ?_
  refine z_iload_n C dX11_strongest_58 rfl 4 rfl ?_
  exact z_icmp_gt C dX11_strongest_59 (by decide) (fun h => z_sub [1, 2, 5, 0] rfl (b_X11_strongest_80 C hr hk hK37 r1.1 o0 x1 x4 r1.2 ho0 (q_t hf h))) (fun h => z_sub [1, 2, 3, 4, 5, 0] rfl (b_X11_strongest_62 C hr hk hK37 r1.1 o0 x1 x2 x3 x4 r1.2 ho0 (q_f hf h)))
def f_X11_strongest_101  (z : St) (s0 : Int32) : Option (St × Int32) :=
  some (z, s0)
theorem b_X11_strongest_101 {p : Program} {l : Launch} {e : Env} {s : State} {m : MethodId} {args : Array Value} {below : List Frame} {meth : Method} {c : Code} {g : Ga} {A : Nat → Prop} (C : Cx l g A p s m args c cX11_strongest 6 RX11 (rm_X11_strongest) (0, 0)) (hr : meth.sig.returnType = (some .int)) (hk : meth.locks = false)   (z : St) (s0 : Int32)  {res : St × Int32} (hf : f_X11_strongest_101  z s0 = some res) : Zj p l e (rm_X11_strongest) s m args below meth c g A 6 (0, 0) (QI g A below args s res) z 101 [] [.int s0] := by
  unfold f_X11_strongest_101 at hf
  cases hf
  exact z_iret C hr hk dX11_strongest_101
def f_X11_strongest_96  (z : St) (x2 : Int32) : Option (St × Int32) :=
  f_X11_strongest_101 z x2
theorem b_X11_strongest_96 {p : Program} {l : Launch} {e : Env} {s : State} {m : MethodId} {args : Array Value} {below : List Frame} {meth : Method} {c : Code} {g : Ga} {A : Nat → Prop} (C : Cx l g A p s m args c cX11_strongest 6 RX11 (rm_X11_strongest) (0, 0)) (hr : meth.sig.returnType = (some .int)) (hk : meth.locks = false)   (z : St) (x2 : Int32)  {res : St × Int32} (hf : f_X11_strongest_96  z x2 = some res) : Zj p l e (rm_X11_strongest) s m args below meth c g A 6 (0, 0) (QI g A below args s res) z 96 [(2, .int x2)] [] := by
  unfold f_X11_strongest_96 at hf
  refine z_iload_n C dX11_strongest_96 rfl 0 rfl ?_
  exact z_goto C dX11_strongest_97 (by decide) (z_sub [] rfl (b_X11_strongest_101 C hr hk z x2 hf))
def f_X11_strongest_100  (z : St) (x3 : Int32) : Option (St × Int32) :=
  f_X11_strongest_101 z x3
theorem b_X11_strongest_100 {p : Program} {l : Launch} {e : Env} {s : State} {m : MethodId} {args : Array Value} {below : List Frame} {meth : Method} {c : Code} {g : Ga} {A : Nat → Prop} (C : Cx l g A p s m args c cX11_strongest 6 RX11 (rm_X11_strongest) (0, 0)) (hr : meth.sig.returnType = (some .int)) (hk : meth.locks = false)   (z : St) (x3 : Int32)  {res : St × Int32} (hf : f_X11_strongest_100  z x3 = some res) : Zj p l e (rm_X11_strongest) s m args below meth c g A 6 (0, 0) (QI g A below args s res) z 100 [(3, .int x3)] [] := by
  unfold f_X11_strongest_100 at hf
  refine z_iload_n C dX11_strongest_100 rfl 0 rfl ?_
  exact z_sub [] rfl (b_X11_strongest_101 C hr hk z x3 hf)
def f_X11_strongest_92  (z : St) (x1 : Int32) (x2 : Int32) (x3 : Int32) : Option (St × Int32) :=
  if x1 = 0 then f_X11_strongest_96 z x2 else f_X11_strongest_100 z x3
theorem b_X11_strongest_92 {p : Program} {l : Launch} {e : Env} {s : State} {m : MethodId} {args : Array Value} {below : List Frame} {meth : Method} {c : Code} {g : Ga} {A : Nat → Prop} (C : Cx l g A p s m args c cX11_strongest 6 RX11 (rm_X11_strongest) (0, 0)) (hr : meth.sig.returnType = (some .int)) (hk : meth.locks = false)   (z : St) (x1 : Int32) (x2 : Int32) (x3 : Int32)  {res : St × Int32} (hf : f_X11_strongest_92  z x1 x2 x3 = some res) : Zj p l e (rm_X11_strongest) s m args below meth c g A 6 (0, 0) (QI g A below args s res) z 92 [(1, .int x1), (2, .int x2), (3, .int x3)] [] := by
  unfold f_X11_strongest_92 at hf
  refine z_iload_n C dX11_strongest_92 rfl 0 rfl ?_
  exact z_if_ne C dX11_strongest_93 (by decide) (fun h => z_sub [2] rfl (b_X11_strongest_100 C hr hk z x3 (q_f hf h))) (fun h => z_sub [1] rfl (b_X11_strongest_96 C hr hk z x2 (q_t hf h)))
def f_X11_strongest_37  : Nat → St → Nat → Int32 → Int32 → Int32 → Int32 → Option (St × Int32)
  | 0, _, _, _, _, _, _ => none
  | n + 1, z, o0, x1, x2, x3, x4 => if ((1 : Int32) <<< ((z.1 o0 5) &&& 31)) ≤ x4 then f_X11_strongest_92 z x1 x2 x3 else f_X11_strongest_48 (f_X11_strongest_37 n) z o0 x1 x2 x3 x4
theorem b_X11_strongest_37 {p : Program} {l : Launch} {e : Env} {s : State} {m : MethodId} {args : Array Value} {below : List Frame} {meth : Method} {c : Code} {g : Ga} {A : Nat → Prop} (C : Cx l g A p s m args c cX11_strongest 6 RX11 (rm_X11_strongest) (0, 0)) (hr : meth.sig.returnType = (some .int)) (hk : meth.locks = false)   : ∀ (n : Nat) (z : St) (o0 : Nat) (x1 : Int32) (x2 : Int32) (x3 : Int32) (x4 : Int32) (_ : kd o0 = 11) {res : St × Int32} (_ : f_X11_strongest_37  n z o0 x1 x2 x3 x4 = some res), Zj p l e (rm_X11_strongest) s m args below meth c g A 6 (0, 0) (QI g A below args s res) z 37 [(0, .ref (g.1 o0)), (1, .int x1), (2, .int x2), (3, .int x3), (4, .int x4)] [] := by
  intro n
  induction n with
  | zero =>
    intro z o0 x1 x2 x3 x4 ho0 res hf
    cases hf
  | succ n ih =>
    intro z o0 x1 x2 x3 x4 ho0 res hf
    rw [f_X11_strongest_37] at hf
    refine z_iload C dX11_strongest_37 4 rfl ?_
    refine z_iconst C dX11_strongest_39 (v := 1) (by decide) ?_
    refine z_aload_n C dX11_strongest_40 rfl 0 rfl ?_
    refine gf_X11_111 C dX11_strongest_41 ho0 ?_
    refine z_ishl C dX11_strongest_44 ?_
    exact z_icmp_ge C dX11_strongest_45 (by decide) (fun h => z_sub [1, 2, 3] rfl (b_X11_strongest_92 C hr hk z x1 x2 x3 (q_t hf h))) (fun h => z_sub [0, 1, 2, 3, 4] rfl (b_X11_strongest_48 C hr hk ih z o0 x1 x2 x3 x4 ho0 (q_f hf h)))
def f_X11_strongest_22  (z : St) (o0 : Nat) (x1 : Int32) : Option (St × Int32) :=
  ((f_X11_thinks z o0).bind fun r1 => ((f_X11_boundOf r1 o0 1).bind fun r3 => f_X11_strongest_37 FU r3.1 o0 x1 1 r3.2 2))
theorem b_X11_strongest_22 {p : Program} {l : Launch} {e : Env} {s : State} {m : MethodId} {args : Array Value} {below : List Frame} {meth : Method} {c : Code} {g : Ga} {A : Nat → Prop} (C : Cx l g A p s m args c cX11_strongest 6 RX11 (rm_X11_strongest) (0, 0)) (hr : meth.sig.returnType = (some .int)) (hk : meth.locks = false)   (z : St) (o0 : Nat) (x1 : Int32) (ho0 : kd o0 = 11) {res : St × Int32} (hf : f_X11_strongest_22  z o0 x1 = some res) : Zj p l e (rm_X11_strongest) s m args below meth c g A 6 (0, 0) (QI g A below args s res) z 22 [(0, .ref (g.1 o0)), (1, .int x1)] [] := by
  unfold f_X11_strongest_22 at hf
  refine z_aload_n C dX11_strongest_22 rfl 0 rfl ?_
  obtain ⟨r1, hc2, hf⟩ := q_bd hf
  refine z_cVv C (st := []) (c_X11_thinks ho0 hc2) mw_X11_thinks ml_X11_205 ho0 (by decide) rfl dX11_strongest_23 rfl rfl rfl ⟨Nat.le_of_ble_eq_true rfl, Nat.le_of_ble_eq_true rfl⟩ rfl (Nat.le_of_ble_eq_true rfl) ?_
  refine z_iconst C dX11_strongest_26 (v := 1) (by decide) ?_
  refine z_istore_n C (lv2 := [(2, .int 1), (0, .ref (g.1 o0)), (1, .int x1)]) dX11_strongest_27 rfl (by decide) rfl ?_
  refine z_aload_n C dX11_strongest_28 rfl 1 rfl ?_
  refine z_iconst C dX11_strongest_29 (v := 1) (by decide) ?_
  obtain ⟨r3, hc4, hf⟩ := q_bd hf
  refine z_cVi C (st := []) (c_X11_boundOf ho0 hc4) mw_X11_boundOf ml_X11_250 ho0 (by decide) rfl dX11_strongest_30 rfl rfl rfl ⟨Nat.le_of_ble_eq_true rfl, Nat.le_of_ble_eq_true rfl⟩ rfl (Nat.le_of_ble_eq_true rfl) ?_
  refine z_istore_n C (lv2 := [(3, .int r3.2), (2, .int 1), (0, .ref (g.1 o0)), (1, .int x1)]) dX11_strongest_33 rfl (by decide) rfl ?_
  refine z_iconst C dX11_strongest_34 (v := 2) (by decide) ?_
  refine z_istore C (lv2 := [(4, .int 2), (3, .int r3.2), (2, .int 1), (0, .ref (g.1 o0)), (1, .int x1)]) dX11_strongest_35 (by decide) rfl ?_
  exact z_sub [3, 4, 2, 1, 0] rfl (b_X11_strongest_37 C hr hk FU r3.1 o0 x1 1 r3.2 2 ho0 hf)
def f_X11_strongest_12  (z : St) (o0 : Nat) (x1 : Int32) : Option (St × Int32) :=
  if (z.1 o0 5) = 0 then f_X11_strongest_19 z else f_X11_strongest_22 z o0 x1
theorem b_X11_strongest_12 {p : Program} {l : Launch} {e : Env} {s : State} {m : MethodId} {args : Array Value} {below : List Frame} {meth : Method} {c : Code} {g : Ga} {A : Nat → Prop} (C : Cx l g A p s m args c cX11_strongest 6 RX11 (rm_X11_strongest) (0, 0)) (hr : meth.sig.returnType = (some .int)) (hk : meth.locks = false)   (z : St) (o0 : Nat) (x1 : Int32) (ho0 : kd o0 = 11) {res : St × Int32} (hf : f_X11_strongest_12  z o0 x1 = some res) : Zj p l e (rm_X11_strongest) s m args below meth c g A 6 (0, 0) (QI g A below args s res) z 12 [(0, .ref (g.1 o0)), (1, .int x1)] [] := by
  unfold f_X11_strongest_12 at hf
  refine z_aload_n C dX11_strongest_12 rfl 0 rfl ?_
  refine gf_X11_111 C dX11_strongest_13 ho0 ?_
  exact z_if_ne C dX11_strongest_16 (by decide) (fun h => z_sub [0, 1] rfl (b_X11_strongest_22 C hr hk z o0 x1 ho0 (q_f hf h))) (fun h => z_sub [] rfl (b_X11_strongest_19 C hr hk z (q_t hf h)))
def f_X11_strongest_0  (z : St) (o0 : Nat) (x1 : Int32) : Option (St × Int32) :=
  ((f_X11_in z x1 0 1).bind fun r1 => if r1.2 = 0 then f_X11_strongest_9 r1.1 else f_X11_strongest_12 r1.1 o0 x1)
theorem b_X11_strongest_0 {p : Program} {l : Launch} {e : Env} {s : State} {m : MethodId} {args : Array Value} {below : List Frame} {meth : Method} {c : Code} {g : Ga} {A : Nat → Prop} (C : Cx l g A p s m args c cX11_strongest 6 RX11 (rm_X11_strongest) (0, 0)) (hr : meth.sig.returnType = (some .int)) (hk : meth.locks = false)   (z : St) (o0 : Nat) (x1 : Int32) (ho0 : kd o0 = 11) {res : St × Int32} (hf : f_X11_strongest_0  z o0 x1 = some res) : Zj p l e (rm_X11_strongest) s m args below meth c g A 6 (0, 0) (QI g A below args s res) z 0 [(0, .ref (g.1 o0)), (1, .int x1)] [] := by
  unfold f_X11_strongest_0 at hf
  refine z_iload_n C dX11_strongest_0 rfl 1 rfl ?_
  refine z_iconst C dX11_strongest_1 (v := 0) (by decide) ?_
  refine z_iconst C dX11_strongest_2 (v := 1) (by decide) ?_
  obtain ⟨r1, hc2, hf⟩ := q_bd hf
  refine z_cSi C (st := []) (c_X11_in  hc2) mw_X11_in ml_X11_114 dX11_strongest_3 rfl rfl rfl ⟨Nat.le_of_ble_eq_true rfl, Nat.le_of_ble_eq_true rfl⟩ rfl (Nat.le_of_ble_eq_true rfl) ?_
  exact z_if_ne C dX11_strongest_6 (by decide) (fun h => z_sub [0, 1] rfl (b_X11_strongest_12 C hr hk r1.1 o0 x1 ho0 (q_f hf h))) (fun h => z_sub [] rfl (b_X11_strongest_9 C hr hk r1.1 (q_t hf h)))
def f_X11_strongest (z : St) (o0 : Nat) (x1 : Int32) : Option (St × Int32) := f_X11_strongest_0 z o0 x1
theorem c_X11_strongest {l : Launch} {g : Ga} {A : Nat → Prop} {z : St} {o0 : Nat} {x1 : Int32} (ho0 : kd o0 = 11) {res : St × Int32} (hf : f_X11_strongest z o0 x1 = some res) : CI l g A yX11_strongest cX11_strongest 6 (some .int) rm_X11_strongest [.ref (g.1 o0), .int x1] z res :=
  e_CI (by decide) (Nat.le_of_ble_eq_true rfl) rfl (fun p e s m args below meth c C hr hk => z_sub [0, 1] rfl (b_X11_strongest_0 C hr hk z o0 x1 ho0 hf))
abbrev rm_X11_visits : Room := { frames := 3, cells := 0, slots := 0, locals := 71 }
def f_X11_visits_154  (z : St)  : Option (St) :=
  some z
theorem b_X11_visits_154 {p : Program} {l : Launch} {e : Env} {s : State} {m : MethodId} {args : Array Value} {below : List Frame} {meth : Method} {c : Code} {g : Ga} {A : Nat → Prop} (C : Cx l g A p s m args c cX11_visits 2 RX11 (rm_X11_visits) (0, 0)) (hr : meth.sig.returnType = none) (hk : meth.locks = false)   (z : St)   {res : St} (hf : f_X11_visits_154  z  = some res) : Zj p l e (rm_X11_visits) s m args below meth c g A 2 (0, 0) (QV g A below args s res) z 154 [] [] := by
  unfold f_X11_visits_154 at hf
  cases hf
  exact z_vret C hr hk dX11_visits_154
def f_X11_visits_90  (z : St) (o0 : Nat) : Option (St) :=
  if inb (z.1 o0 24) 8 = true then (if inb (z.1 o0 30) 400 = true then (if inb ((zI z (rf o0 33) (Int32.toNatClampNeg (z.1 o0 30)) (z.1 (rf o0 15) (Int32.toNatClampNeg (z.1 o0 24)))).1 o0 24) 8 = true then (if inb ((zI z (rf o0 33) (Int32.toNatClampNeg (z.1 o0 30)) (z.1 (rf o0 15) (Int32.toNatClampNeg (z.1 o0 24)))).1 o0 30) 400 = true then (((f_X11_branched (zI (zI z (rf o0 33) (Int32.toNatClampNeg (z.1 o0 30)) (z.1 (rf o0 15) (Int32.toNatClampNeg (z.1 o0 24)))) (rf o0 34) (Int32.toNatClampNeg ((zI z (rf o0 33) (Int32.toNatClampNeg (z.1 o0 30)) (z.1 (rf o0 15) (Int32.toNatClampNeg (z.1 o0 24)))).1 o0 30)) ((zI z (rf o0 33) (Int32.toNatClampNeg (z.1 o0 30)) (z.1 (rf o0 15) (Int32.toNatClampNeg (z.1 o0 24)))).1 (rf o0 13) (Int32.toNatClampNeg ((zI z (rf o0 33) (Int32.toNatClampNeg (z.1 o0 30)) (z.1 (rf o0 15) (Int32.toNatClampNeg (z.1 o0 24)))).1 o0 24)))) o0 0).bind fun r5 => if inb ((zI (zI z (rf o0 33) (Int32.toNatClampNeg (z.1 o0 30)) (z.1 (rf o0 15) (Int32.toNatClampNeg (z.1 o0 24)))) (rf o0 34) (Int32.toNatClampNeg ((zI z (rf o0 33) (Int32.toNatClampNeg (z.1 o0 30)) (z.1 (rf o0 15) (Int32.toNatClampNeg (z.1 o0 24)))).1 o0 30)) ((zI z (rf o0 33) (Int32.toNatClampNeg (z.1 o0 30)) (z.1 (rf o0 15) (Int32.toNatClampNeg (z.1 o0 24)))).1 (rf o0 13) (Int32.toNatClampNeg ((zI z (rf o0 33) (Int32.toNatClampNeg (z.1 o0 30)) (z.1 (rf o0 15) (Int32.toNatClampNeg (z.1 o0 24)))).1 o0 24)))).1 o0 30) 400 = true then (((f_X11_branched (zI r5.1 (rf o0 35) (Int32.toNatClampNeg ((zI (zI z (rf o0 33) (Int32.toNatClampNeg (z.1 o0 30)) (z.1 (rf o0 15) (Int32.toNatClampNeg (z.1 o0 24)))) (rf o0 34) (Int32.toNatClampNeg ((zI z (rf o0 33) (Int32.toNatClampNeg (z.1 o0 30)) (z.1 (rf o0 15) (Int32.toNatClampNeg (z.1 o0 24)))).1 o0 30)) ((zI z (rf o0 33) (Int32.toNatClampNeg (z.1 o0 30)) (z.1 (rf o0 15) (Int32.toNatClampNeg (z.1 o0 24)))).1 (rf o0 13) (Int32.toNatClampNeg ((zI z (rf o0 33) (Int32.toNatClampNeg (z.1 o0 30)) (z.1 (rf o0 15) (Int32.toNatClampNeg (z.1 o0 24)))).1 o0 24)))).1 o0 30)) r5.2) o0 1).bind fun r8 => if inb ((zI r5.1 (rf o0 35) (Int32.toNatClampNeg ((zI (zI z (rf o0 33) (Int32.toNatClampNeg (z.1 o0 30)) (z.1 (rf o0 15) (Int32.toNatClampNeg (z.1 o0 24)))) (rf o0 34) (Int32.toNatClampNeg ((zI z (rf o0 33) (Int32.toNatClampNeg (z.1 o0 30)) (z.1 (rf o0 15) (Int32.toNatClampNeg (z.1 o0 24)))).1 o0 30)) ((zI z (rf o0 33) (Int32.toNatClampNeg (z.1 o0 30)) (z.1 (rf o0 15) (Int32.toNatClampNeg (z.1 o0 24)))).1 (rf o0 13) (Int32.toNatClampNeg ((zI z (rf o0 33) (Int32.toNatClampNeg (z.1 o0 30)) (z.1 (rf o0 15) (Int32.toNatClampNeg (z.1 o0 24)))).1 o0 24)))).1 o0 30)) r5.2).1 o0 30) 400 = true then (f_X11_visits_154 (zI r8.1 (rf o0 36) (Int32.toNatClampNeg ((zI r5.1 (rf o0 35) (Int32.toNatClampNeg ((zI (zI z (rf o0 33) (Int32.toNatClampNeg (z.1 o0 30)) (z.1 (rf o0 15) (Int32.toNatClampNeg (z.1 o0 24)))) (rf o0 34) (Int32.toNatClampNeg ((zI z (rf o0 33) (Int32.toNatClampNeg (z.1 o0 30)) (z.1 (rf o0 15) (Int32.toNatClampNeg (z.1 o0 24)))).1 o0 30)) ((zI z (rf o0 33) (Int32.toNatClampNeg (z.1 o0 30)) (z.1 (rf o0 15) (Int32.toNatClampNeg (z.1 o0 24)))).1 (rf o0 13) (Int32.toNatClampNeg ((zI z (rf o0 33) (Int32.toNatClampNeg (z.1 o0 30)) (z.1 (rf o0 15) (Int32.toNatClampNeg (z.1 o0 24)))).1 o0 24)))).1 o0 30)) r5.2).1 o0 30)) r8.2)) else none)) else none)) else none) else none) else none) else none
theorem b_X11_visits_90 {p : Program} {l : Launch} {e : Env} {s : State} {m : MethodId} {args : Array Value} {below : List Frame} {meth : Method} {c : Code} {g : Ga} {A : Nat → Prop} (C : Cx l g A p s m args c cX11_visits 2 RX11 (rm_X11_visits) (0, 0)) (hr : meth.sig.returnType = none) (hk : meth.locks = false)   (z : St) (o0 : Nat) (ho0 : kd o0 = 11) {res : St} (hf : f_X11_visits_90  z o0 = some res) : Zj p l e (rm_X11_visits) s m args below meth c g A 2 (0, 0) (QV g A below args s res) z 90 [(0, .ref (g.1 o0))] [] := by
  unfold f_X11_visits_90 at hf
  refine z_aload_n C dX11_visits_90 rfl 0 rfl ?_
  refine gf_X11_55 C dX11_visits_91 ho0 ?_
  refine z_aload_n C dX11_visits_94 rfl 0 rfl ?_
  refine gf_X11_265 C dX11_visits_95 ho0 ?_
  refine z_aload_n C dX11_visits_98 rfl 0 rfl ?_
  refine gf_X11_34 C dX11_visits_99 ho0 ?_
  refine z_aload_n C dX11_visits_102 rfl 0 rfl ?_
  refine gf_X11_232 C dX11_visits_103 ho0 ?_
  obtain ⟨h1, hf⟩ := q_ck hf
  refine z_iald C (n := 8) dX11_visits_106 (rt_11_15 _ (kd_lt ho0 (by decide)) ho0) (by decide) h1 ?_
  obtain ⟨h2, hf⟩ := q_ck hf
  refine z_iast C (n := 400) dX11_visits_107 (rt_11_33 _ (kd_lt ho0 (by decide)) ho0) (by decide) h2 ?_
  refine z_aload_n C dX11_visits_108 rfl 0 rfl ?_
  refine gf_X11_58 C dX11_visits_109 ho0 ?_
  refine z_aload_n C dX11_visits_112 rfl 0 rfl ?_
  refine gf_X11_265 C dX11_visits_113 ho0 ?_
  refine z_aload_n C dX11_visits_116 rfl 0 rfl ?_
  refine gf_X11_28 C dX11_visits_117 ho0 ?_
  refine z_aload_n C dX11_visits_120 rfl 0 rfl ?_
  refine gf_X11_232 C dX11_visits_121 ho0 ?_
  obtain ⟨h3, hf⟩ := q_ck hf
  refine z_iald C (n := 8) dX11_visits_124 (rt_11_13 _ (kd_lt ho0 (by decide)) ho0) (by decide) h3 ?_
  obtain ⟨h4, hf⟩ := q_ck hf
  refine z_iast C (n := 400) dX11_visits_125 (rt_11_34 _ (kd_lt ho0 (by decide)) ho0) (by decide) h4 ?_
  refine z_aload_n C dX11_visits_126 rfl 0 rfl ?_
  refine gf_X11_61 C dX11_visits_127 ho0 ?_
  refine z_aload_n C dX11_visits_130 rfl 0 rfl ?_
  refine gf_X11_265 C dX11_visits_131 ho0 ?_
  refine z_aload_n C dX11_visits_134 rfl 0 rfl ?_
  refine z_iconst C dX11_visits_135 (v := 0) (by decide) ?_
  obtain ⟨r5, hc6, hf⟩ := q_bd hf
  refine z_cVi C (st := [.int ((zI (zI z (rf o0 33) (Int32.toNatClampNeg (z.1 o0 30)) (z.1 (rf o0 15) (Int32.toNatClampNeg (z.1 o0 24)))) (rf o0 34) (Int32.toNatClampNeg ((zI z (rf o0 33) (Int32.toNatClampNeg (z.1 o0 30)) (z.1 (rf o0 15) (Int32.toNatClampNeg (z.1 o0 24)))).1 o0 30)) ((zI z (rf o0 33) (Int32.toNatClampNeg (z.1 o0 30)) (z.1 (rf o0 15) (Int32.toNatClampNeg (z.1 o0 24)))).1 (rf o0 13) (Int32.toNatClampNeg ((zI z (rf o0 33) (Int32.toNatClampNeg (z.1 o0 30)) (z.1 (rf o0 15) (Int32.toNatClampNeg (z.1 o0 24)))).1 o0 24)))).1 o0 30), .ref (g.1 (rf o0 35))]) (c_X11_branched ho0 hc6) mw_X11_branched ml_X11_247 ho0 (by decide) rfl dX11_visits_136 rfl rfl rfl ⟨Nat.le_of_ble_eq_true rfl, Nat.le_of_ble_eq_true rfl⟩ rfl (Nat.le_of_ble_eq_true rfl) ?_
  obtain ⟨h7, hf⟩ := q_ck hf
  refine z_iast C (n := 400) dX11_visits_139 (rt_11_35 _ (kd_lt ho0 (by decide)) ho0) (by decide) h7 ?_
  refine z_aload_n C dX11_visits_140 rfl 0 rfl ?_
  refine gf_X11_64 C dX11_visits_141 ho0 ?_
  refine z_aload_n C dX11_visits_144 rfl 0 rfl ?_
  refine gf_X11_265 C dX11_visits_145 ho0 ?_
  refine z_aload_n C dX11_visits_148 rfl 0 rfl ?_
  refine z_iconst C dX11_visits_149 (v := 1) (by decide) ?_
  obtain ⟨r8, hc9, hf⟩ := q_bd hf
  refine z_cVi C (st := [.int ((zI r5.1 (rf o0 35) (Int32.toNatClampNeg ((zI (zI z (rf o0 33) (Int32.toNatClampNeg (z.1 o0 30)) (z.1 (rf o0 15) (Int32.toNatClampNeg (z.1 o0 24)))) (rf o0 34) (Int32.toNatClampNeg ((zI z (rf o0 33) (Int32.toNatClampNeg (z.1 o0 30)) (z.1 (rf o0 15) (Int32.toNatClampNeg (z.1 o0 24)))).1 o0 30)) ((zI z (rf o0 33) (Int32.toNatClampNeg (z.1 o0 30)) (z.1 (rf o0 15) (Int32.toNatClampNeg (z.1 o0 24)))).1 (rf o0 13) (Int32.toNatClampNeg ((zI z (rf o0 33) (Int32.toNatClampNeg (z.1 o0 30)) (z.1 (rf o0 15) (Int32.toNatClampNeg (z.1 o0 24)))).1 o0 24)))).1 o0 30)) r5.2).1 o0 30), .ref (g.1 (rf o0 36))]) (c_X11_branched ho0 hc9) mw_X11_branched ml_X11_247 ho0 (by decide) rfl dX11_visits_150 rfl rfl rfl ⟨Nat.le_of_ble_eq_true rfl, Nat.le_of_ble_eq_true rfl⟩ rfl (Nat.le_of_ble_eq_true rfl) ?_
  obtain ⟨h10, hf⟩ := q_ck hf
  refine z_iast C (n := 400) dX11_visits_153 (rt_11_36 _ (kd_lt ho0 (by decide)) ho0) (by decide) h10 ?_
  exact z_sub [] rfl (b_X11_visits_154 C hr hk (zI r8.1 (rf o0 36) (Int32.toNatClampNeg ((zI r5.1 (rf o0 35) (Int32.toNatClampNeg ((zI (zI z (rf o0 33) (Int32.toNatClampNeg (z.1 o0 30)) (z.1 (rf o0 15) (Int32.toNatClampNeg (z.1 o0 24)))) (rf o0 34) (Int32.toNatClampNeg ((zI z (rf o0 33) (Int32.toNatClampNeg (z.1 o0 30)) (z.1 (rf o0 15) (Int32.toNatClampNeg (z.1 o0 24)))).1 o0 30)) ((zI z (rf o0 33) (Int32.toNatClampNeg (z.1 o0 30)) (z.1 (rf o0 15) (Int32.toNatClampNeg (z.1 o0 24)))).1 (rf o0 13) (Int32.toNatClampNeg ((zI z (rf o0 33) (Int32.toNatClampNeg (z.1 o0 30)) (z.1 (rf o0 15) (Int32.toNatClampNeg (z.1 o0 24)))).1 o0 24)))).1 o0 30)) r5.2).1 o0 30)) r8.2) hf)
def f_X11_visits_60  (z : St) (o0 : Nat) : Option (St) :=
  if inb (z.1 o0 30) 400 = true then (if inb ((zI z (rf o0 31) (Int32.toNatClampNeg (z.1 o0 30)) (z.1 o0 24)).1 o0 30) 400 = true then (if ((zI (zI z (rf o0 31) (Int32.toNatClampNeg (z.1 o0 30)) (z.1 o0 24)) (rf o0 32) (Int32.toNatClampNeg ((zI z (rf o0 31) (Int32.toNatClampNeg (z.1 o0 30)) (z.1 o0 24)).1 o0 30)) 0).1 o0 24) < 0 then f_X11_visits_154 (zI (zI z (rf o0 31) (Int32.toNatClampNeg (z.1 o0 30)) (z.1 o0 24)) (rf o0 32) (Int32.toNatClampNeg ((zI z (rf o0 31) (Int32.toNatClampNeg (z.1 o0 30)) (z.1 o0 24)).1 o0 30)) 0) else f_X11_visits_90 (zI (zI z (rf o0 31) (Int32.toNatClampNeg (z.1 o0 30)) (z.1 o0 24)) (rf o0 32) (Int32.toNatClampNeg ((zI z (rf o0 31) (Int32.toNatClampNeg (z.1 o0 30)) (z.1 o0 24)).1 o0 30)) 0) o0) else none) else none
theorem b_X11_visits_60 {p : Program} {l : Launch} {e : Env} {s : State} {m : MethodId} {args : Array Value} {below : List Frame} {meth : Method} {c : Code} {g : Ga} {A : Nat → Prop} (C : Cx l g A p s m args c cX11_visits 2 RX11 (rm_X11_visits) (0, 0)) (hr : meth.sig.returnType = none) (hk : meth.locks = false)   (z : St) (o0 : Nat) (ho0 : kd o0 = 11) {res : St} (hf : f_X11_visits_60  z o0 = some res) : Zj p l e (rm_X11_visits) s m args below meth c g A 2 (0, 0) (QV g A below args s res) z 60 [(0, .ref (g.1 o0))] [] := by
  unfold f_X11_visits_60 at hf
  refine z_aload_n C dX11_visits_60 rfl 0 rfl ?_
  refine gf_X11_49 C dX11_visits_61 ho0 ?_
  refine z_aload_n C dX11_visits_64 rfl 0 rfl ?_
  refine gf_X11_265 C dX11_visits_65 ho0 ?_
  refine z_aload_n C dX11_visits_68 rfl 0 rfl ?_
  refine gf_X11_232 C dX11_visits_69 ho0 ?_
  obtain ⟨h1, hf⟩ := q_ck hf
  refine z_iast C (n := 400) dX11_visits_72 (rt_11_31 _ (kd_lt ho0 (by decide)) ho0) (by decide) h1 ?_
  refine z_aload_n C dX11_visits_73 rfl 0 rfl ?_
  refine gf_X11_52 C dX11_visits_74 ho0 ?_
  refine z_aload_n C dX11_visits_77 rfl 0 rfl ?_
  refine gf_X11_265 C dX11_visits_78 ho0 ?_
  refine z_iconst C dX11_visits_81 (v := 0) (by decide) ?_
  obtain ⟨h2, hf⟩ := q_ck hf
  refine z_iast C (n := 400) dX11_visits_82 (rt_11_32 _ (kd_lt ho0 (by decide)) ho0) (by decide) h2 ?_
  refine z_aload_n C dX11_visits_83 rfl 0 rfl ?_
  refine gf_X11_232 C dX11_visits_84 ho0 ?_
  exact z_if_lt C dX11_visits_87 (by decide) (fun h => z_sub [] rfl (b_X11_visits_154 C hr hk (zI (zI z (rf o0 31) (Int32.toNatClampNeg (z.1 o0 30)) (z.1 o0 24)) (rf o0 32) (Int32.toNatClampNeg ((zI z (rf o0 31) (Int32.toNatClampNeg (z.1 o0 30)) (z.1 o0 24)).1 o0 30)) 0) (q_t hf h))) (fun h => z_sub [0] rfl (b_X11_visits_90 C hr hk (zI (zI z (rf o0 31) (Int32.toNatClampNeg (z.1 o0 30)) (z.1 o0 24)) (rf o0 32) (Int32.toNatClampNeg ((zI z (rf o0 31) (Int32.toNatClampNeg (z.1 o0 30)) (z.1 o0 24)).1 o0 30)) 0) o0 ho0 (q_f hf h)))
def f_X11_visits_55  (z : St) (o0 : Nat) (x1 : Int32) : Option (St) :=
  ((f_X11_looks z o0 x1).bind fun r1 => f_X11_visits_60 r1 o0)
theorem b_X11_visits_55 {p : Program} {l : Launch} {e : Env} {s : State} {m : MethodId} {args : Array Value} {below : List Frame} {meth : Method} {c : Code} {g : Ga} {A : Nat → Prop} (C : Cx l g A p s m args c cX11_visits 2 RX11 (rm_X11_visits) (0, 0)) (hr : meth.sig.returnType = none) (hk : meth.locks = false)   (z : St) (o0 : Nat) (x1 : Int32) (ho0 : kd o0 = 11) {res : St} (hf : f_X11_visits_55  z o0 x1 = some res) : Zj p l e (rm_X11_visits) s m args below meth c g A 2 (0, 0) (QV g A below args s res) z 55 [(0, .ref (g.1 o0)), (1, .int x1)] [] := by
  unfold f_X11_visits_55 at hf
  refine z_aload_n C dX11_visits_55 rfl 0 rfl ?_
  refine z_iload_n C dX11_visits_56 rfl 1 rfl ?_
  obtain ⟨r1, hc2, hf⟩ := q_bd hf
  refine z_cVv C (st := []) (c_X11_looks ho0 hc2) mw_X11_looks ml_X11_238 ho0 (by decide) rfl dX11_visits_57 rfl rfl rfl ⟨Nat.le_of_ble_eq_true rfl, Nat.le_of_ble_eq_true rfl⟩ rfl (Nat.le_of_ble_eq_true rfl) ?_
  exact z_sub [0] rfl (b_X11_visits_60 C hr hk r1 o0 ho0 hf)
def f_X11_visits_43  (z : St) (o0 : Nat) (x1 : Int32) : Option (St) :=
  if ((zI z o0 24 ((-1))).1 o0 5) ≤ 0 then f_X11_visits_60 (zI z o0 24 ((-1))) o0 else f_X11_visits_55 (zI z o0 24 ((-1))) o0 x1
theorem b_X11_visits_43 {p : Program} {l : Launch} {e : Env} {s : State} {m : MethodId} {args : Array Value} {below : List Frame} {meth : Method} {c : Code} {g : Ga} {A : Nat → Prop} (C : Cx l g A p s m args c cX11_visits 2 RX11 (rm_X11_visits) (0, 0)) (hr : meth.sig.returnType = none) (hk : meth.locks = false)   (z : St) (o0 : Nat) (x1 : Int32) (ho0 : kd o0 = 11) {res : St} (hf : f_X11_visits_43  z o0 x1 = some res) : Zj p l e (rm_X11_visits) s m args below meth c g A 2 (0, 0) (QV g A below args s res) z 43 [(0, .ref (g.1 o0)), (1, .int x1)] [] := by
  unfold f_X11_visits_43 at hf
  refine z_aload_n C dX11_visits_43 rfl 0 rfl ?_
  refine z_iconst C dX11_visits_44 (v := (-1)) (by decide) ?_
  refine pf_X11_232 C dX11_visits_45 ho0 ?_
  refine z_aload_n C dX11_visits_48 rfl 0 rfl ?_
  refine gf_X11_111 C dX11_visits_49 ho0 ?_
  exact z_if_le C dX11_visits_52 (by decide) (fun h => z_sub [0] rfl (b_X11_visits_60 C hr hk (zI z o0 24 ((-1))) o0 ho0 (q_t hf h))) (fun h => z_sub [0, 1] rfl (b_X11_visits_55 C hr hk (zI z o0 24 ((-1))) o0 x1 ho0 (q_f hf h)))
def f_X11_visits_30  (z : St) (o0 : Nat) (x1 : Int32) : Option (St) :=
  f_X11_visits_43 (zI (zI z o0 27 x1) o0 29 ((zI z o0 27 x1).1 o0 28)) o0 x1
theorem b_X11_visits_30 {p : Program} {l : Launch} {e : Env} {s : State} {m : MethodId} {args : Array Value} {below : List Frame} {meth : Method} {c : Code} {g : Ga} {A : Nat → Prop} (C : Cx l g A p s m args c cX11_visits 2 RX11 (rm_X11_visits) (0, 0)) (hr : meth.sig.returnType = none) (hk : meth.locks = false)   (z : St) (o0 : Nat) (x1 : Int32) (ho0 : kd o0 = 11) {res : St} (hf : f_X11_visits_30  z o0 x1 = some res) : Zj p l e (rm_X11_visits) s m args below meth c g A 2 (0, 0) (QV g A below args s res) z 30 [(0, .ref (g.1 o0)), (1, .int x1)] [] := by
  unfold f_X11_visits_30 at hf
  refine z_aload_n C dX11_visits_30 rfl 0 rfl ?_
  refine z_iload_n C dX11_visits_31 rfl 1 rfl ?_
  refine pf_X11_259 C dX11_visits_32 ho0 ?_
  refine z_aload_n C dX11_visits_35 rfl 0 rfl ?_
  refine z_aload_n C dX11_visits_36 rfl 0 rfl ?_
  refine gf_X11_256 C dX11_visits_37 ho0 ?_
  refine pf_X11_262 C dX11_visits_40 ho0 ?_
  exact z_sub [0, 1] rfl (b_X11_visits_43 C hr hk (zI (zI z o0 27 x1) o0 29 ((zI z o0 27 x1).1 o0 28)) o0 x1 ho0 hf)
def f_X11_visits_22  (z : St) (o0 : Nat) (x1 : Int32) : Option (St) :=
  if (z.1 o0 27) ≤ x1 then f_X11_visits_43 z o0 x1 else f_X11_visits_30 z o0 x1
theorem b_X11_visits_22 {p : Program} {l : Launch} {e : Env} {s : State} {m : MethodId} {args : Array Value} {below : List Frame} {meth : Method} {c : Code} {g : Ga} {A : Nat → Prop} (C : Cx l g A p s m args c cX11_visits 2 RX11 (rm_X11_visits) (0, 0)) (hr : meth.sig.returnType = none) (hk : meth.locks = false)   (z : St) (o0 : Nat) (x1 : Int32) (ho0 : kd o0 = 11) {res : St} (hf : f_X11_visits_22  z o0 x1 = some res) : Zj p l e (rm_X11_visits) s m args below meth c g A 2 (0, 0) (QV g A below args s res) z 22 [(0, .ref (g.1 o0)), (1, .int x1)] [] := by
  unfold f_X11_visits_22 at hf
  refine z_iload_n C dX11_visits_22 rfl 1 rfl ?_
  refine z_aload_n C dX11_visits_23 rfl 0 rfl ?_
  refine gf_X11_259 C dX11_visits_24 ho0 ?_
  exact z_icmp_ge C dX11_visits_27 (by decide) (fun h => z_sub [0, 1] rfl (b_X11_visits_43 C hr hk z o0 x1 ho0 (q_t hf h))) (fun h => z_sub [0, 1] rfl (b_X11_visits_30 C hr hk z o0 x1 ho0 (q_f hf h)))
def f_X11_visits_0  (z : St) (o0 : Nat) : Option (St) :=
  ((f_X11_greedily (zI z o0 28 ((z.1 o0 28) + 1)) o0).bind fun r1 => if (r1.1.1 o0 27) < 0 then f_X11_visits_30 r1.1 o0 r1.2 else f_X11_visits_22 r1.1 o0 r1.2)
theorem b_X11_visits_0 {p : Program} {l : Launch} {e : Env} {s : State} {m : MethodId} {args : Array Value} {below : List Frame} {meth : Method} {c : Code} {g : Ga} {A : Nat → Prop} (C : Cx l g A p s m args c cX11_visits 2 RX11 (rm_X11_visits) (0, 0)) (hr : meth.sig.returnType = none) (hk : meth.locks = false)   (z : St) (o0 : Nat) (ho0 : kd o0 = 11) {res : St} (hf : f_X11_visits_0  z o0 = some res) : Zj p l e (rm_X11_visits) s m args below meth c g A 2 (0, 0) (QV g A below args s res) z 0 [(0, .ref (g.1 o0))] [] := by
  unfold f_X11_visits_0 at hf
  refine z_aload_n C dX11_visits_0 rfl 0 rfl ?_
  refine z_dup C dX11_visits_1 rfl ?_
  refine gf_X11_256 C dX11_visits_2 ho0 ?_
  refine z_iconst C dX11_visits_5 (v := 1) (by decide) ?_
  refine z_iadd C dX11_visits_6 ?_
  refine pf_X11_256 C dX11_visits_7 ho0 ?_
  refine z_aload_n C dX11_visits_10 rfl 0 rfl ?_
  obtain ⟨r1, hc2, hf⟩ := q_bd hf
  refine z_cVi C (st := []) (c_X11_greedily ho0 hc2) mw_X11_greedily ml_X11_208 ho0 (by decide) rfl dX11_visits_11 rfl rfl rfl ⟨Nat.le_of_ble_eq_true rfl, Nat.le_of_ble_eq_true rfl⟩ rfl (Nat.le_of_ble_eq_true rfl) ?_
  refine z_istore_n C (lv2 := [(1, .int r1.2), (0, .ref (g.1 o0))]) dX11_visits_14 rfl (by decide) rfl ?_
  refine z_aload_n C dX11_visits_15 rfl 1 rfl ?_
  refine gf_X11_259 C dX11_visits_16 ho0 ?_
  exact z_if_lt C dX11_visits_19 (by decide) (fun h => z_sub [1, 0] rfl (b_X11_visits_30 C hr hk r1.1 o0 r1.2 ho0 (q_t hf h))) (fun h => z_sub [1, 0] rfl (b_X11_visits_22 C hr hk r1.1 o0 r1.2 ho0 (q_f hf h)))
def f_X11_visits (z : St) (o0 : Nat) : Option (St) := f_X11_visits_0 z o0
theorem c_X11_visits {l : Launch} {g : Ga} {A : Nat → Prop} {z : St} {o0 : Nat} (ho0 : kd o0 = 11) {res : St} (hf : f_X11_visits z o0 = some res) : CV l g A yX11_visits cX11_visits 2 none rm_X11_visits [.ref (g.1 o0)] z res :=
  e_CV (by decide) (Nat.le_of_ble_eq_true rfl) rfl (fun p e s m args below meth c C hr hk => z_sub [0] rfl (b_X11_visits_0 C hr hk z o0 ho0 hf))
