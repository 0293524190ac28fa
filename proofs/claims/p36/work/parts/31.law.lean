theorem kc_L_31 : Cond.constantLong RL 31 1000003 ∈ wAll := (wa 895 (by decide +kernel) (by decide +kernel))
theorem mw_X10_told : Mw yX10_told RX10 cX10_told 3 (some .int) 2 := ⟨(wa 504 (by decide +kernel) (by decide +kernel)), (wa 505 (by decide +kernel) (by decide +kernel)), (wa 21 (by decide +kernel) (by decide +kernel)), (wa 506 (by decide +kernel) (by decide +kernel)), rfl, by decide +kernel, by decide +kernel, by decide +kernel⟩
theorem ml_L_33 : Cond.methodLink RL 33 yX10_told ∈ wAll := (wa 503 (by decide +kernel) (by decide +kernel))
theorem mw_X10_began : Mw yX10_began RX10 cX10_began 2 (some .int) 1 := ⟨(wa 852 (by decide +kernel) (by decide +kernel)), (wa 853 (by decide +kernel) (by decide +kernel)), (wa 21 (by decide +kernel) (by decide +kernel)), (wa 854 (by decide +kernel) (by decide +kernel)), rfl, by decide +kernel, by decide +kernel, by decide +kernel⟩
theorem ml_L_36 : Cond.methodLink RL 36 yX10_began ∈ wAll := (wa 851 (by decide +kernel) (by decide +kernel))
theorem mw_X10_bench : Mw yX10_bench RX10 cX10_bench 2 (some .int) 1 := ⟨(wa 848 (by decide +kernel) (by decide +kernel)), (wa 849 (by decide +kernel) (by decide +kernel)), (wa 21 (by decide +kernel) (by decide +kernel)), (wa 850 (by decide +kernel) (by decide +kernel)), rfl, by decide +kernel, by decide +kernel, by decide +kernel⟩
theorem ml_L_39 : Cond.methodLink RL 39 yX10_bench ∈ wAll := (wa 847 (by decide +kernel) (by decide +kernel))
theorem mw_X10_count : Mw yX10_count RX10 cX10_count 2 (some .int) 1 := ⟨(wa 874 (by decide +kernel) (by decide +kernel)), (wa 875 (by decide +kernel) (by decide +kernel)), (wa 21 (by decide +kernel) (by decide +kernel)), (wa 876 (by decide +kernel) (by decide +kernel)), rfl, by decide +kernel, by decide +kernel, by decide +kernel⟩
theorem ml_L_27 : Cond.methodLink RL 27 yX10_count ∈ wAll := (wa 873 (by decide +kernel) (by decide +kernel))
theorem kc_L_25 : Cond.constantLong RL 25 7 ∈ wAll := (wa 894 (by decide +kernel) (by decide +kernel))
theorem kc_L_20 : Cond.constant RL 20 1103515245 ∈ wAll := (wa 890 (by decide +kernel) (by decide +kernel))
theorem mw_L_some : Ms yL_some cL_some 3 (some .int) 2 := ⟨(wa 885 (by decide +kernel) (by decide +kernel)), (wa 20 (by decide +kernel) (by decide +kernel)), (wa 886 (by decide +kernel) (by decide +kernel)), by decide +kernel, by decide +kernel, by decide +kernel⟩
theorem ml_L_16 : Cond.methodLink RL 16 yL_some ∈ wAll := (wa 884 (by decide +kernel) (by decide +kernel))
theorem mw_X10_job : Mw yX10_job RX10 cX10_job 5 (some .int) 4 := ⟨(wa 491 (by decide +kernel) (by decide +kernel)), (wa 492 (by decide +kernel) (by decide +kernel)), (wa 21 (by decide +kernel) (by decide +kernel)), (wa 493 (by decide +kernel) (by decide +kernel)), rfl, by decide +kernel, by decide +kernel, by decide +kernel⟩
theorem ml_L_21 : Cond.methodLink RL 21 yX10_job ∈ wAll := (wa 490 (by decide +kernel) (by decide +kernel))
theorem mw_L_at : Ms yL_at cL_at 2 (some .int) 2 := ⟨(wa 882 (by decide +kernel) (by decide +kernel)), (wa 20 (by decide +kernel) (by decide +kernel)), (wa 883 (by decide +kernel) (by decide +kernel)), by decide +kernel, by decide +kernel, by decide +kernel⟩
theorem ml_L_10 : Cond.methodLink RL 10 yL_at ∈ wAll := (wa 881 (by decide +kernel) (by decide +kernel))
theorem ml_L_62 : Cond.methodLink RL 62 Lib.Math.min.name ∈ wAll := (wa 897 (by decide +kernel) (by decide +kernel))
theorem ml_L_67 : Cond.methodLink RL 67 Lib.Math.max.name ∈ wAll := (wa 896 (by decide +kernel) (by decide +kernel))
theorem mw_X10_greedy : Mw yX10_greedy RX10 cX10_greedy 4 (some .int) 2 := ⟨(wa 524 (by decide +kernel) (by decide +kernel)), (wa 525 (by decide +kernel) (by decide +kernel)), (wa 21 (by decide +kernel) (by decide +kernel)), (wa 526 (by decide +kernel) (by decide +kernel)), rfl, by decide +kernel, by decide +kernel, by decide +kernel⟩
theorem ml_L_59 : Cond.methodLink RL 59 yX10_greedy ∈ wAll := (wa 523 (by decide +kernel) (by decide +kernel))
theorem mw_X10_go : Mw yX10_go RX10 cX10_go 3 (some .int) 1 := ⟨(wa 834 (by decide +kernel) (by decide +kernel)), (wa 835 (by decide +kernel) (by decide +kernel)), (wa 21 (by decide +kernel) (by decide +kernel)), (wa 836 (by decide +kernel) (by decide +kernel)), rfl, by decide +kernel, by decide +kernel, by decide +kernel⟩
theorem ml_L_56 : Cond.methodLink RL 56 yX10_go ∈ wAll := (wa 833 (by decide +kernel) (by decide +kernel))
theorem mw_L_state : Ms yL_state cL_state 5 (some .long) 1 := ⟨(wa 892 (by decide +kernel) (by decide +kernel)), (wa 20 (by decide +kernel) (by decide +kernel)), (wa 893 (by decide +kernel) (by decide +kernel)), by decide +kernel, by decide +kernel, by decide +kernel⟩
theorem ml_L_52 : Cond.methodLink RL 52 yL_state ∈ wAll := (wa 891 (by decide +kernel) (by decide +kernel))
theorem mw_X10_text : Mw yX10_text RX10 cX10_text 2 (some .int) 0 := ⟨(wa 386 (by decide +kernel) (by decide +kernel)), (wa 387 (by decide +kernel) (by decide +kernel)), (wa 21 (by decide +kernel) (by decide +kernel)), (wa 388 (by decide +kernel) (by decide +kernel)), rfl, by decide +kernel, by decide +kernel, by decide +kernel⟩
theorem ml_L_119 : Cond.methodLink RL 119 yX10_text ∈ wAll := (wa 385 (by decide +kernel) (by decide +kernel))
theorem mw_X10_back : Mw yX10_back RX10 cX10_back 1 (some .int) 0 := ⟨(wa 870 (by decide +kernel) (by decide +kernel)), (wa 871 (by decide +kernel) (by decide +kernel)), (wa 21 (by decide +kernel) (by decide +kernel)), (wa 872 (by decide +kernel) (by decide +kernel)), rfl, by decide +kernel, by decide +kernel, by decide +kernel⟩
theorem ml_L_42 : Cond.methodLink RL 42 yX10_back ∈ wAll := (wa 869 (by decide +kernel) (by decide +kernel))
theorem mw_X10_feed : Mw yX10_feed RX10 cX10_feed 7 (some .int) 6 := ⟨(wa 371 (by decide +kernel) (by decide +kernel)), (wa 372 (by decide +kernel) (by decide +kernel)), (wa 21 (by decide +kernel) (by decide +kernel)), (wa 373 (by decide +kernel) (by decide +kernel)), rfl, by decide +kernel, by decide +kernel, by decide +kernel⟩
theorem ml_L_89 : Cond.methodLink RL 89 yX10_feed ∈ wAll := (wa 370 (by decide +kernel) (by decide +kernel))
theorem mw_X10_taken : Mw yX10_taken RX10 cX10_taken 3 (some .int) 2 := ⟨(wa 519 (by decide +kernel) (by decide +kernel)), (wa 520 (by decide +kernel) (by decide +kernel)), (wa 21 (by decide +kernel) (by decide +kernel)), (wa 521 (by decide +kernel) (by decide +kernel)), rfl, by decide +kernel, by decide +kernel, by decide +kernel⟩
theorem ml_L_77 : Cond.methodLink RL 77 yX10_taken ∈ wAll := (wa 518 (by decide +kernel) (by decide +kernel))
theorem mw_X10_set : Mw yX10_set RX10 cX10_set 5 (some .int) 3 := ⟨(wa 497 (by decide +kernel) (by decide +kernel)), (wa 498 (by decide +kernel) (by decide +kernel)), (wa 21 (by decide +kernel) (by decide +kernel)), (wa 499 (by decide +kernel) (by decide +kernel)), rfl, by decide +kernel, by decide +kernel, by decide +kernel⟩
theorem ml_L_70 : Cond.methodLink RL 70 yX10_set ∈ wAll := (wa 496 (by decide +kernel) (by decide +kernel))
theorem mw_X10_breaking : Mw yX10_breaking RX10 cX10_breaking 2 (some .int) 1 := ⟨(wa 577 (by decide +kernel) (by decide +kernel)), (wa 578 (by decide +kernel) (by decide +kernel)), (wa 21 (by decide +kernel) (by decide +kernel)), (wa 579 (by decide +kernel) (by decide +kernel)), rfl, by decide +kernel, by decide +kernel, by decide +kernel⟩
theorem ml_L_102 : Cond.methodLink RL 102 yX10_breaking ∈ wAll := (wa 576 (by decide +kernel) (by decide +kernel))
theorem mw_X10_least : Mw yX10_least RX10 cX10_least 2 (some .int) 1 := ⟨(wa 621 (by decide +kernel) (by decide +kernel)), (wa 622 (by decide +kernel) (by decide +kernel)), (wa 21 (by decide +kernel) (by decide +kernel)), (wa 623 (by decide +kernel) (by decide +kernel)), rfl, by decide +kernel, by decide +kernel, by decide +kernel⟩
theorem ml_L_105 : Cond.methodLink RL 105 yX10_least ∈ wAll := (wa 620 (by decide +kernel) (by decide +kernel))
theorem mw_X10_many : Mw yX10_many RX10 cX10_many 1 (some .int) 0 := ⟨(wa 711 (by decide +kernel) (by decide +kernel)), (wa 712 (by decide +kernel) (by decide +kernel)), (wa 21 (by decide +kernel) (by decide +kernel)), (wa 713 (by decide +kernel) (by decide +kernel)), rfl, by decide +kernel, by decide +kernel, by decide +kernel⟩
theorem ml_L_108 : Cond.methodLink RL 108 yX10_many ∈ wAll := (wa 710 (by decide +kernel) (by decide +kernel))
theorem mw_X10_drawn : Mw yX10_drawn RX10 cX10_drawn 3 (some .int) 2 := ⟨(wa 824 (by decide +kernel) (by decide +kernel)), (wa 825 (by decide +kernel) (by decide +kernel)), (wa 21 (by decide +kernel) (by decide +kernel)), (wa 826 (by decide +kernel) (by decide +kernel)), rfl, by decide +kernel, by decide +kernel, by decide +kernel⟩
theorem ml_L_111 : Cond.methodLink RL 111 yX10_drawn ∈ wAll := (wa 823 (by decide +kernel) (by decide +kernel))
theorem mw_X10_strongest : Mw yX10_strongest RX10 cX10_strongest 3 (some .int) 1 := ⟨(wa 598 (by decide +kernel) (by decide +kernel)), (wa 599 (by decide +kernel) (by decide +kernel)), (wa 21 (by decide +kernel) (by decide +kernel)), (wa 600 (by decide +kernel) (by decide +kernel)), rfl, by decide +kernel, by decide +kernel, by decide +kernel⟩
theorem ml_L_114 : Cond.methodLink RL 114 yX10_strongest ∈ wAll := (wa 597 (by decide +kernel) (by decide +kernel))
theorem kc_L_117 : Cond.constantLong RL 117 123456789012345 ∈ wAll := (wa 899 (by decide +kernel) (by decide +kernel))
theorem mw_X10_film : Mw yX10_film RX10 cX10_film 4 (some .int) 1 := ⟨(wa 797 (by decide +kernel) (by decide +kernel)), (wa 798 (by decide +kernel) (by decide +kernel)), (wa 21 (by decide +kernel) (by decide +kernel)), (wa 799 (by decide +kernel) (by decide +kernel)), rfl, by decide +kernel, by decide +kernel, by decide +kernel⟩
theorem ml_L_99 : Cond.methodLink RL 99 yX10_film ∈ wAll := (wa 796 (by decide +kernel) (by decide +kernel))
theorem mw_X10_judge : Mw yX10_judge RX10 cX10_judge 3 (some .long) 2 := ⟨(wa 753 (by decide +kernel) (by decide +kernel)), (wa 754 (by decide +kernel) (by decide +kernel)), (wa 21 (by decide +kernel) (by decide +kernel)), (wa 755 (by decide +kernel) (by decide +kernel)), rfl, by decide +kernel, by decide +kernel, by decide +kernel⟩
theorem ml_L_93 : Cond.methodLink RL 93 yX10_judge ∈ wAll := (wa 752 (by decide +kernel) (by decide +kernel))
theorem kc_L_97 : Cond.constantLong RL 97 (-2) ∈ wAll := (wa 898 (by decide +kernel) (by decide +kernel))
theorem mw_X10_gain : Mw yX10_gain RX10 cX10_gain 2 (some .int) 1 := ⟨(wa 745 (by decide +kernel) (by decide +kernel)), (wa 746 (by decide +kernel) (by decide +kernel)), (wa 21 (by decide +kernel) (by decide +kernel)), (wa 747 (by decide +kernel) (by decide +kernel)), rfl, by decide +kernel, by decide +kernel, by decide +kernel⟩
theorem ml_L_86 : Cond.methodLink RL 86 yX10_gain ∈ wAll := (wa 744 (by decide +kernel) (by decide +kernel))
theorem mw_X10_room : Mw yX10_room RX10 cX10_room 2 (some .int) 1 := ⟨(wa 737 (by decide +kernel) (by decide +kernel)), (wa 738 (by decide +kernel) (by decide +kernel)), (wa 21 (by decide +kernel) (by decide +kernel)), (wa 739 (by decide +kernel) (by decide +kernel)), rfl, by decide +kernel, by decide +kernel, by decide +kernel⟩
theorem ml_L_83 : Cond.methodLink RL 83 yX10_room ∈ wAll := (wa 736 (by decide +kernel) (by decide +kernel))
theorem mw_X10_must : Mw yX10_must RX10 cX10_must 2 (some .int) 1 := ⟨(wa 725 (by decide +kernel) (by decide +kernel)), (wa 726 (by decide +kernel) (by decide +kernel)), (wa 21 (by decide +kernel) (by decide +kernel)), (wa 727 (by decide +kernel) (by decide +kernel)), rfl, by decide +kernel, by decide +kernel, by decide +kernel⟩
theorem ml_L_80 : Cond.methodLink RL 80 yX10_must ∈ wAll := (wa 724 (by decide +kernel) (by decide +kernel))
theorem mw_X10_drop : Mw yX10_drop RX10 cX10_drop 2 (some .int) 1 := ⟨(wa 511 (by decide +kernel) (by decide +kernel)), (wa 512 (by decide +kernel) (by decide +kernel)), (wa 21 (by decide +kernel) (by decide +kernel)), (wa 513 (by decide +kernel) (by decide +kernel)), rfl, by decide +kernel, by decide +kernel, by decide +kernel⟩
theorem ml_L_74 : Cond.methodLink RL 74 yX10_drop ∈ wAll := (wa 510 (by decide +kernel) (by decide +kernel))
theorem mw_X10_image : Mw yX10_image RX10 cX10_image 1 (some .int) 0 := ⟨(wa 860 (by decide +kernel) (by decide +kernel)), (wa 861 (by decide +kernel) (by decide +kernel)), (wa 21 (by decide +kernel) (by decide +kernel)), (wa 862 (by decide +kernel) (by decide +kernel)), rfl, by decide +kernel, by decide +kernel, by decide +kernel⟩
theorem ml_L_49 : Cond.methodLink RL 49 yX10_image ∈ wAll := (wa 859 (by decide +kernel) (by decide +kernel))
theorem mw_L_bench : Ms yL_bench cL_bench 6 (some (.object "BenchWithTails")) 1 := ⟨(wa 888 (by decide +kernel) (by decide +kernel)), (wa 20 (by decide +kernel) (by decide +kernel)), (wa 889 (by decide +kernel) (by decide +kernel)), by decide +kernel, by decide +kernel, by decide +kernel⟩
theorem cn_L_7 : Cond.classLink RL 7 RX10 ∈ wAll ∧ Cond.instantiable RX10 19 ∈ wAll ∧ Cond.initialized RX10 ∈ wAll := ⟨(wa 35 (by decide +kernel) (by decide +kernel)), (wa 36 (by decide +kernel) (by decide +kernel)), (wa 21 (by decide +kernel) (by decide +kernel))⟩
theorem mi_X10_init : Cond.instanceMethod yX10_init ∈ wAll ∧ Cond.initialized (yX10_init).cls ∈ wAll ∧ Cond.code yX10_init cX10_init 2 none ∈ wAll ∧ (yX10_init).name = "<init>" ∧ ((yX10_init).cls ≠ "java/lang/invoke/MethodHandle" ∧ (yX10_init).cls ≠ "java/lang/invoke/VarHandle" ∧ (parseMethodDescriptor (yX10_init).desc).map (fun d => d.parameters.length) = some 0) := ⟨(wa 38 (by decide +kernel) (by decide +kernel)), (wa 21 (by decide +kernel) (by decide +kernel)), (wa 39 (by decide +kernel) (by decide +kernel)), rfl, by decide +kernel, by decide +kernel, by decide +kernel⟩
theorem ml_Li_9 : Cond.methodLink RL 9 yX10_init ∈ wAll := (wa 37 (by decide +kernel) (by decide +kernel))
theorem ml_Li_46 : Cond.methodLink RL 46 yL_bench ∈ wAll := (wa 887 (by decide +kernel) (by decide +kernel))
abbrev rm_L_at : Room := { frames := 0, cells := 0, slots := 0, locals := 0 }
def f_L_at_13 (xs : Nat → Int32) (L : Nat)  (z : St) (s0 : Int32) : Option (St × Int32) :=
  some (z, s0)
theorem b_L_at_13 {p : Program} {l : Launch} {e : Env} {s : State} {m : MethodId} {args : Array Value} {below : List Frame} {meth : Method} {c : Code} {b L : Nat} {xs : Nat → Int32} {g : Ga} {A : Nat → Prop} (C : Cx l g A p s m args c cL_at 2 RL (rm_L_at) (0, 0)) (hr : meth.sig.returnType = (some .int)) (hk : meth.locks = false) (hX : va_X b L xs s s.heap) (hbl : b < s.heap.size) (hbA : ¬ A b)   (z : St) (s0 : Int32)  {res : St × Int32} (hf : f_L_at_13 xs L  z s0 = some res) : Zj p l e (rm_L_at) s m args below meth c g A 2 (0, 0) (QI g A below args s res) z 13 [] [.int s0] := by
  unfold f_L_at_13 at hf
  cases hf
  exact z_iret C hr hk dL_at_13
def f_L_at_6 (xs : Nat → Int32) (L : Nat)  (z : St) (x1 : Int32) : Option (St × Int32) :=
  if inb x1 L = true then (f_L_at_13 xs L z (xs (Int32.toNatClampNeg x1))) else none
theorem b_L_at_6 {p : Program} {l : Launch} {e : Env} {s : State} {m : MethodId} {args : Array Value} {below : List Frame} {meth : Method} {c : Code} {b L : Nat} {xs : Nat → Int32} {g : Ga} {A : Nat → Prop} (C : Cx l g A p s m args c cL_at 2 RL (rm_L_at) (0, 0)) (hr : meth.sig.returnType = (some .int)) (hk : meth.locks = false) (hX : va_X b L xs s s.heap) (hbl : b < s.heap.size) (hbA : ¬ A b)   (z : St) (x1 : Int32)  {res : St × Int32} (hf : f_L_at_6 xs L  z x1 = some res) : Zj p l e (rm_L_at) s m args below meth c g A 2 (0, 0) (QI g A below args s res) z 6 [(0, .ref b), (1, .int x1)] [] := by
  unfold f_L_at_6 at hf
  refine z_aload_n C dL_at_6 rfl 0 rfl ?_
  refine z_iload_n C dL_at_7 rfl 1 rfl ?_
  obtain ⟨h1, hf⟩ := q_ck hf
  refine z_sld C hX hbl hbA dL_at_8 h1 ?_
  exact z_goto C dL_at_9 (by decide) (z_sub [] rfl (b_L_at_13 C hr hk hX hbl hbA z (xs (Int32.toNatClampNeg x1)) hf))
def f_L_at_12 (xs : Nat → Int32) (L : Nat)  (z : St)  : Option (St × Int32) :=
  f_L_at_13 xs L z 0
theorem b_L_at_12 {p : Program} {l : Launch} {e : Env} {s : State} {m : MethodId} {args : Array Value} {below : List Frame} {meth : Method} {c : Code} {b L : Nat} {xs : Nat → Int32} {g : Ga} {A : Nat → Prop} (C : Cx l g A p s m args c cL_at 2 RL (rm_L_at) (0, 0)) (hr : meth.sig.returnType = (some .int)) (hk : meth.locks = false) (hX : va_X b L xs s s.heap) (hbl : b < s.heap.size) (hbA : ¬ A b)   (z : St)   {res : St × Int32} (hf : f_L_at_12 xs L  z  = some res) : Zj p l e (rm_L_at) s m args below meth c g A 2 (0, 0) (QI g A below args s res) z 12 [] [] := by
  unfold f_L_at_12 at hf
  refine z_iconst C dL_at_12 (v := 0) (by decide) ?_
  exact z_sub [] rfl (b_L_at_13 C hr hk hX hbl hbA z 0 hf)
def f_L_at_0 (xs : Nat → Int32) (L : Nat)  (z : St) (x1 : Int32) : Option (St × Int32) :=
  if (Int32.ofNat L) ≤ x1 then f_L_at_12 xs L z else f_L_at_6 xs L z x1
theorem b_L_at_0 {p : Program} {l : Launch} {e : Env} {s : State} {m : MethodId} {args : Array Value} {below : List Frame} {meth : Method} {c : Code} {b L : Nat} {xs : Nat → Int32} {g : Ga} {A : Nat → Prop} (C : Cx l g A p s m args c cL_at 2 RL (rm_L_at) (0, 0)) (hr : meth.sig.returnType = (some .int)) (hk : meth.locks = false) (hX : va_X b L xs s s.heap) (hbl : b < s.heap.size) (hbA : ¬ A b)   (z : St) (x1 : Int32)  {res : St × Int32} (hf : f_L_at_0 xs L  z x1 = some res) : Zj p l e (rm_L_at) s m args below meth c g A 2 (0, 0) (QI g A below args s res) z 0 [(0, .ref b), (1, .int x1)] [] := by
  unfold f_L_at_0 at hf
  refine z_iload_n C dL_at_0 rfl 1 rfl ?_
  refine z_aload_n C dL_at_1 rfl 0 rfl ?_
  refine z_slen C hX hbl hbA dL_at_2 ?_
  exact z_icmp_ge C dL_at_3 (by decide) (fun h => z_sub [] rfl (b_L_at_12 C hr hk hX hbl hbA z (q_t hf h))) (fun h => z_sub [0, 1] rfl (b_L_at_6 C hr hk hX hbl hbA z x1 (q_f hf h)))
def f_L_at (xs : Nat → Int32) (L : Nat) (z : St) (x1 : Int32) : Option (St × Int32) := f_L_at_0 xs L z x1
theorem c_L_at {l : Launch} {g : Ga} {A : Nat → Prop} {b L : Nat} {xs : Nat → Int32} {z : St} {x1 : Int32} {res : St × Int32} (hf : f_L_at xs L z x1 = some res) : CIx l g A b L xs yL_at cL_at 2 (some .int) rm_L_at [.ref b, .int x1] z res :=
  e_CIx (by decide) (Nat.le_of_ble_eq_true rfl) rfl (fun p e s m args below meth c C hr hk hX hbl hbA => z_sub [0, 1] rfl (b_L_at_0 C hr hk hX hbl hbA z x1 hf))
abbrev rm_L_some : Room := { frames := 0, cells := 0, slots := 0, locals := 0 }
def f_L_some_15  (z : St) (s0 : Int32) : Option (St × Int32) :=
  some (z, s0)
theorem b_L_some_15 {p : Program} {l : Launch} {e : Env} {s : State} {m : MethodId} {args : Array Value} {below : List Frame} {meth : Method} {c : Code} {g : Ga} {A : Nat → Prop} (C : Cx l g A p s m args c cL_some 3 RL (rm_L_some) (0, 0)) (hr : meth.sig.returnType = (some .int)) (hk : meth.locks = false)   (z : St) (s0 : Int32)  {res : St × Int32} (hf : f_L_some_15  z s0 = some res) : Zj p l e (rm_L_some) s m args below meth c g A 3 (0, 0) (QI g A below args s res) z 15 [] [.int s0] := by
  unfold f_L_some_15 at hf
  cases hf
  exact z_iret C hr hk dL_some_15
def f_L_some_8  (z : St) (x1 : Int32) (x2 : Int32) : Option (St × Int32) :=
  f_L_some_15 z (x2 + x1)
theorem b_L_some_8 {p : Program} {l : Launch} {e : Env} {s : State} {m : MethodId} {args : Array Value} {below : List Frame} {meth : Method} {c : Code} {g : Ga} {A : Nat → Prop} (C : Cx l g A p s m args c cL_some 3 RL (rm_L_some) (0, 0)) (hr : meth.sig.returnType = (some .int)) (hk : meth.locks = false)   (z : St) (x1 : Int32) (x2 : Int32)  {res : St × Int32} (hf : f_L_some_8  z x1 x2 = some res) : Zj p l e (rm_L_some) s m args below meth c g A 3 (0, 0) (QI g A below args s res) z 8 [(1, .int x1), (2, .int x2)] [] := by
  unfold f_L_some_8 at hf
  refine z_iload_n C dL_some_8 rfl 1 rfl ?_
  refine z_iload_n C dL_some_9 rfl 0 rfl ?_
  refine z_iadd C dL_some_10 ?_
  exact z_goto C dL_some_11 (by decide) (z_sub [] rfl (b_L_some_15 C hr hk z (x2 + x1) hf))
def f_L_some_14  (z : St) (x2 : Int32) : Option (St × Int32) :=
  f_L_some_15 z x2
theorem b_L_some_14 {p : Program} {l : Launch} {e : Env} {s : State} {m : MethodId} {args : Array Value} {below : List Frame} {meth : Method} {c : Code} {g : Ga} {A : Nat → Prop} (C : Cx l g A p s m args c cL_some 3 RL (rm_L_some) (0, 0)) (hr : meth.sig.returnType = (some .int)) (hk : meth.locks = false)   (z : St) (x2 : Int32)  {res : St × Int32} (hf : f_L_some_14  z x2 = some res) : Zj p l e (rm_L_some) s m args below meth c g A 3 (0, 0) (QI g A below args s res) z 14 [(2, .int x2)] [] := by
  unfold f_L_some_14 at hf
  refine z_iload_n C dL_some_14 rfl 0 rfl ?_
  exact z_sub [] rfl (b_L_some_15 C hr hk z x2 hf)
def f_L_some_0  (z : St) (x0 : Int32) (x1 : Int32) : Option (St × Int32) :=
  if decide (x1 ≠ 0) = true then (if 0 ≤ (x0 - x0 / x1 * x1) then f_L_some_14 z (x0 - x0 / x1 * x1) else f_L_some_8 z x1 (x0 - x0 / x1 * x1)) else none
theorem b_L_some_0 {p : Program} {l : Launch} {e : Env} {s : State} {m : MethodId} {args : Array Value} {below : List Frame} {meth : Method} {c : Code} {g : Ga} {A : Nat → Prop} (C : Cx l g A p s m args c cL_some 3 RL (rm_L_some) (0, 0)) (hr : meth.sig.returnType = (some .int)) (hk : meth.locks = false)   (z : St) (x0 : Int32) (x1 : Int32)  {res : St × Int32} (hf : f_L_some_0  z x0 x1 = some res) : Zj p l e (rm_L_some) s m args below meth c g A 3 (0, 0) (QI g A below args s res) z 0 [(0, .int x0), (1, .int x1)] [] := by
  unfold f_L_some_0 at hf
  refine z_iload_n C dL_some_0 rfl 0 rfl ?_
  refine z_iload_n C dL_some_1 rfl 1 rfl ?_
  obtain ⟨h1, hf⟩ := q_ck hf
  refine z_irem C dL_some_2 (q_nz h1) ?_
  refine z_istore_n C (lv2 := [(2, .int (x0 - x0 / x1 * x1)), (0, .int x0), (1, .int x1)]) dL_some_3 rfl (by decide) rfl ?_
  refine z_iload_n C dL_some_4 rfl 0 rfl ?_
  exact z_if_ge C dL_some_5 (by decide) (fun h => z_sub [0] rfl (b_L_some_14 C hr hk z (x0 - x0 / x1 * x1) (q_t hf h))) (fun h => z_sub [2, 0] rfl (b_L_some_8 C hr hk z x1 (x0 - x0 / x1 * x1) (q_f hf h)))
def f_L_some (z : St) (x0 : Int32) (x1 : Int32) : Option (St × Int32) := f_L_some_0 z x0 x1
theorem c_L_some {l : Launch} {g : Ga} {A : Nat → Prop} {z : St} {x0 : Int32} {x1 : Int32}  {res : St × Int32} (hf : f_L_some z x0 x1 = some res) : CI l g A yL_some cL_some 3 (some .int) rm_L_some [.int x0, .int x1] z res :=
  e_CI (by decide) (Nat.le_of_ble_eq_true rfl) rfl (fun p e s m args below meth c C hr hk => z_sub [0, 1] rfl (b_L_some_0 C hr hk z x0 x1  hf))
abbrev rm_L_state : Room := { frames := 5, cells := 0, slots := 0, locals := 112 }
def f_L_state_25 (K6 : St → Nat → Int64 → Int32 → Option (St × Int64)) (K18 : St → Nat → Int64 → Int32 → Int32 → Option (St × Int64)) (z : St) (o0 : Nat) (y1 : Int64) (x3 : Int32) (x4 : Int32) : Option (St × Int64) :=
  ((f_X10_told z o0 x3 x4).bind fun r1 => K18 r1.1 o0 ((1000003 * y1) + (Int32.toInt64 r1.2)) x3 (x4 + 1))
theorem b_L_state_25 {p : Program} {l : Launch} {e : Env} {s : State} {m : MethodId} {args : Array Value} {below : List Frame} {meth : Method} {c : Code} {g : Ga} {A : Nat → Prop} (C : Cx l g A p s m args c cL_state 5 RL (rm_L_state) (0, 0)) (hr : meth.sig.returnType = (some .long)) (hk : meth.locks = false) {K6 : St → Nat → Int64 → Int32 → Option (St × Int64)} {K18 : St → Nat → Int64 → Int32 → Int32 → Option (St × Int64)} (hK6 : ∀ (z : St) (o0 : Nat) (y1 : Int64) (x3 : Int32) (_ : kd o0 = 10) {res : St × Int64}, K6 z o0 y1 x3 = some res → Zj p l e (rm_L_state) s m args below meth c g A 5 (0, 0) (QJ g A below args s res) z 6 [(0, .ref (g.1 o0)), (1, .long y1), (3, .int x3)] []) (hK18 : ∀ (z : St) (o0 : Nat) (y1 : Int64) (x3 : Int32) (x4 : Int32) (_ : kd o0 = 10) {res : St × Int64}, K18 z o0 y1 x3 x4 = some res → Zj p l e (rm_L_state) s m args below meth c g A 5 (0, 0) (QJ g A below args s res) z 18 [(0, .ref (g.1 o0)), (1, .long y1), (3, .int x3), (4, .int x4)] []) (z : St) (o0 : Nat) (y1 : Int64) (x3 : Int32) (x4 : Int32) (ho0 : kd o0 = 10) {res : St × Int64} (hf : f_L_state_25 K6 K18 z o0 y1 x3 x4 = some res) : Zj p l e (rm_L_state) s m args below meth c g A 5 (0, 0) (QJ g A below args s res) z 25 [(0, .ref (g.1 o0)), (1, .long y1), (3, .int x3), (4, .int x4)] [] := by
  unfold f_L_state_25 at hf
  refine z_ldc2 C dL_state_25 kc_L_31 ?_
  refine z_lload_n C dL_state_28 rfl 1 rfl ?_
  refine z_lmul C dL_state_29 ?_
  refine z_aload_n C dL_state_30 rfl 0 rfl ?_
  refine z_iload_n C dL_state_31 rfl 2 rfl ?_
  refine z_iload C dL_state_32 3 rfl ?_
  obtain ⟨r1, hc2, hf⟩ := q_bd hf
  refine z_cVi C (st := [.long (1000003 * y1)]) (c_X10_told ho0 hc2) mw_X10_told ml_L_33 ho0 (by decide) rfl dL_state_34 rfl rfl rfl ⟨Nat.le_of_ble_eq_true rfl, Nat.le_of_ble_eq_true rfl⟩ rfl (Nat.le_of_ble_eq_true rfl) ?_
  refine z_i2l C dL_state_37 ?_
  refine z_ladd C dL_state_38 ?_
  refine z_lstore_n C (lv2 := [(1, .long ((1000003 * y1) + (Int32.toInt64 r1.2))), (0, .ref (g.1 o0)), (3, .int x3), (4, .int x4)]) dL_state_39 rfl (by decide) rfl ?_
  refine z_iinc C (k := 3) (v := x4 + 1) (lv2 := [(4, .int (x4 + 1)), (1, .long ((1000003 * y1) + (Int32.toInt64 r1.2))), (0, .ref (g.1 o0)), (3, .int x3)]) dL_state_40 rfl rfl (by decide) rfl ?_
  exact z_goto C dL_state_43 (by decide) (z_sub [2, 1, 3, 0] rfl (hK18 r1.1 o0 ((1000003 * y1) + (Int32.toInt64 r1.2)) x3 (x4 + 1) ho0 hf))
def f_L_state_46 (K6 : St → Nat → Int64 → Int32 → Option (St × Int64)) (z : St) (o0 : Nat) (y1 : Int64) (x3 : Int32) : Option (St × Int64) :=
  ((f_X10_began z o0 x3).bind fun r1 => K6 r1.1 o0 ((1000003 * y1) + (Int32.toInt64 r1.2)) (x3 + 1))
theorem b_L_state_46 {p : Program} {l : Launch} {e : Env} {s : State} {m : MethodId} {args : Array Value} {below : List Frame} {meth : Method} {c : Code} {g : Ga} {A : Nat → Prop} (C : Cx l g A p s m args c cL_state 5 RL (rm_L_state) (0, 0)) (hr : meth.sig.returnType = (some .long)) (hk : meth.locks = false) {K6 : St → Nat → Int64 → Int32 → Option (St × Int64)} (hK6 : ∀ (z : St) (o0 : Nat) (y1 : Int64) (x3 : Int32) (_ : kd o0 = 10) {res : St × Int64}, K6 z o0 y1 x3 = some res → Zj p l e (rm_L_state) s m args below meth c g A 5 (0, 0) (QJ g A below args s res) z 6 [(0, .ref (g.1 o0)), (1, .long y1), (3, .int x3)] []) (z : St) (o0 : Nat) (y1 : Int64) (x3 : Int32) (ho0 : kd o0 = 10) {res : St × Int64} (hf : f_L_state_46 K6 z o0 y1 x3 = some res) : Zj p l e (rm_L_state) s m args below meth c g A 5 (0, 0) (QJ g A below args s res) z 46 [(0, .ref (g.1 o0)), (1, .long y1), (3, .int x3)] [] := by
  unfold f_L_state_46 at hf
  refine z_ldc2 C dL_state_46 kc_L_31 ?_
  refine z_lload_n C dL_state_49 rfl 1 rfl ?_
  refine z_lmul C dL_state_50 ?_
  refine z_aload_n C dL_state_51 rfl 0 rfl ?_
  refine z_iload_n C dL_state_52 rfl 2 rfl ?_
  obtain ⟨r1, hc2, hf⟩ := q_bd hf
  refine z_cVi C (st := [.long (1000003 * y1)]) (c_X10_began ho0 hc2) mw_X10_began ml_L_36 ho0 (by decide) rfl dL_state_53 rfl rfl rfl ⟨Nat.le_of_ble_eq_true rfl, Nat.le_of_ble_eq_true rfl⟩ rfl (Nat.le_of_ble_eq_true rfl) ?_
  refine z_i2l C dL_state_56 ?_
  refine z_ladd C dL_state_57 ?_
  refine z_lstore_n C (lv2 := [(1, .long ((1000003 * y1) + (Int32.toInt64 r1.2))), (0, .ref (g.1 o0)), (3, .int x3)]) dL_state_58 rfl (by decide) rfl ?_
  refine z_iinc C (k := 2) (v := x3 + 1) (lv2 := [(3, .int (x3 + 1)), (1, .long ((1000003 * y1) + (Int32.toInt64 r1.2))), (0, .ref (g.1 o0))]) dL_state_59 rfl rfl (by decide) rfl ?_
  exact z_goto C dL_state_62 (by decide) (z_sub [2, 1, 0] rfl (hK6 r1.1 o0 ((1000003 * y1) + (Int32.toInt64 r1.2)) (x3 + 1) ho0 hf))
def f_L_state_18 (K6 : St → Nat → Int64 → Int32 → Option (St × Int64)) : Nat → St → Nat → Int64 → Int32 → Int32 → Option (St × Int64)
  | 0, _, _, _, _, _ => none
  | n + 1, z, o0, y1, x3, x4 => if 7 ≤ x4 then f_L_state_46 K6 z o0 y1 x3 else f_L_state_25 K6 (f_L_state_18 K6 n) z o0 y1 x3 x4
theorem b_L_state_18 {p : Program} {l : Launch} {e : Env} {s : State} {m : MethodId} {args : Array Value} {below : List Frame} {meth : Method} {c : Code} {g : Ga} {A : Nat → Prop} (C : Cx l g A p s m args c cL_state 5 RL (rm_L_state) (0, 0)) (hr : meth.sig.returnType = (some .long)) (hk : meth.locks = false) {K6 : St → Nat → Int64 → Int32 → Option (St × Int64)} (hK6 : ∀ (z : St) (o0 : Nat) (y1 : Int64) (x3 : Int32) (_ : kd o0 = 10) {res : St × Int64}, K6 z o0 y1 x3 = some res → Zj p l e (rm_L_state) s m args below meth c g A 5 (0, 0) (QJ g A below args s res) z 6 [(0, .ref (g.1 o0)), (1, .long y1), (3, .int x3)] []) : ∀ (n : Nat) (z : St) (o0 : Nat) (y1 : Int64) (x3 : Int32) (x4 : Int32) (_ : kd o0 = 10) {res : St × Int64} (_ : f_L_state_18 K6 n z o0 y1 x3 x4 = some res), Zj p l e (rm_L_state) s m args below meth c g A 5 (0, 0) (QJ g A below args s res) z 18 [(0, .ref (g.1 o0)), (1, .long y1), (3, .int x3), (4, .int x4)] [] := by
  intro n
  induction n with
  | zero =>
    intro z o0 y1 x3 x4 ho0 res hf
    cases hf
  | succ n ih =>
    intro z o0 y1 x3 x4 ho0 res hf
    rw [f_L_state_18] at hf
    refine z_iload C dL_state_18 3 rfl ?_
    refine z_bipush C dL_state_20 (v := 7) (by decide) ?_
    exact z_icmp_ge C dL_state_22 (by decide) (fun h => z_sub [0, 1, 2] rfl (b_L_state_46 C hr hk hK6 z o0 y1 x3 ho0 (q_t hf h))) (fun h => z_sub [0, 1, 2, 3] rfl (b_L_state_25 C hr hk hK6 ih z o0 y1 x3 x4 ho0 (q_f hf h)))
def f_L_state_15 (K6 : St → Nat → Int64 → Int32 → Option (St × Int64)) (z : St) (o0 : Nat) (y1 : Int64) (x3 : Int32) : Option (St × Int64) :=
  f_L_state_18 K6 FU z o0 y1 x3 0
theorem b_L_state_15 {p : Program} {l : Launch} {e : Env} {s : State} {m : MethodId} {args : Array Value} {below : List Frame} {meth : Method} {c : Code} {g : Ga} {A : Nat → Prop} (C : Cx l g A p s m args c cL_state 5 RL (rm_L_state) (0, 0)) (hr : meth.sig.returnType = (some .long)) (hk : meth.locks = false) {K6 : St → Nat → Int64 → Int32 → Option (St × Int64)} (hK6 : ∀ (z : St) (o0 : Nat) (y1 : Int64) (x3 : Int32) (_ : kd o0 = 10) {res : St × Int64}, K6 z o0 y1 x3 = some res → Zj p l e (rm_L_state) s m args below meth c g A 5 (0, 0) (QJ g A below args s res) z 6 [(0, .ref (g.1 o0)), (1, .long y1), (3, .int x3)] []) (z : St) (o0 : Nat) (y1 : Int64) (x3 : Int32) (ho0 : kd o0 = 10) {res : St × Int64} (hf : f_L_state_15 K6 z o0 y1 x3 = some res) : Zj p l e (rm_L_state) s m args below meth c g A 5 (0, 0) (QJ g A below args s res) z 15 [(0, .ref (g.1 o0)), (1, .long y1), (3, .int x3)] [] := by
  unfold f_L_state_15 at hf
  refine z_iconst C dL_state_15 (v := 0) (by decide) ?_
  refine z_istore C (lv2 := [(4, .int 0), (0, .ref (g.1 o0)), (1, .long y1), (3, .int x3)]) dL_state_16 (by decide) rfl ?_
  exact z_sub [1, 2, 3, 0] rfl (b_L_state_18 C hr hk hK6 FU z o0 y1 x3 0 ho0 hf)
def f_L_state_72 (K67 : St → Nat → Int64 → Int32 → Option (St × Int64)) (z : St) (o0 : Nat) (y1 : Int64) (x3 : Int32) : Option (St × Int64) :=
  ((f_X10_bench z o0 x3).bind fun r1 => K67 r1.1 o0 ((1000003 * y1) + (Int32.toInt64 r1.2)) (x3 + 1))
theorem b_L_state_72 {p : Program} {l : Launch} {e : Env} {s : State} {m : MethodId} {args : Array Value} {below : List Frame} {meth : Method} {c : Code} {g : Ga} {A : Nat → Prop} (C : Cx l g A p s m args c cL_state 5 RL (rm_L_state) (0, 0)) (hr : meth.sig.returnType = (some .long)) (hk : meth.locks = false) {K67 : St → Nat → Int64 → Int32 → Option (St × Int64)} (hK67 : ∀ (z : St) (o0 : Nat) (y1 : Int64) (x3 : Int32) (_ : kd o0 = 10) {res : St × Int64}, K67 z o0 y1 x3 = some res → Zj p l e (rm_L_state) s m args below meth c g A 5 (0, 0) (QJ g A below args s res) z 67 [(0, .ref (g.1 o0)), (1, .long y1), (3, .int x3)] []) (z : St) (o0 : Nat) (y1 : Int64) (x3 : Int32) (ho0 : kd o0 = 10) {res : St × Int64} (hf : f_L_state_72 K67 z o0 y1 x3 = some res) : Zj p l e (rm_L_state) s m args below meth c g A 5 (0, 0) (QJ g A below args s res) z 72 [(0, .ref (g.1 o0)), (1, .long y1), (3, .int x3)] [] := by
  unfold f_L_state_72 at hf
  refine z_ldc2 C dL_state_72 kc_L_31 ?_
  refine z_lload_n C dL_state_75 rfl 1 rfl ?_
  refine z_lmul C dL_state_76 ?_
  refine z_aload_n C dL_state_77 rfl 0 rfl ?_
  refine z_iload_n C dL_state_78 rfl 2 rfl ?_
  obtain ⟨r1, hc2, hf⟩ := q_bd hf
  refine z_cVi C (st := [.long (1000003 * y1)]) (c_X10_bench ho0 hc2) mw_X10_bench ml_L_39 ho0 (by decide) rfl dL_state_79 rfl rfl rfl ⟨Nat.le_of_ble_eq_true rfl, Nat.le_of_ble_eq_true rfl⟩ rfl (Nat.le_of_ble_eq_true rfl) ?_
  refine z_i2l C dL_state_82 ?_
  refine z_ladd C dL_state_83 ?_
  refine z_lstore_n C (lv2 := [(1, .long ((1000003 * y1) + (Int32.toInt64 r1.2))), (0, .ref (g.1 o0)), (3, .int x3)]) dL_state_84 rfl (by decide) rfl ?_
  refine z_iinc C (k := 2) (v := x3 + 1) (lv2 := [(3, .int (x3 + 1)), (1, .long ((1000003 * y1) + (Int32.toInt64 r1.2))), (0, .ref (g.1 o0))]) dL_state_85 rfl rfl (by decide) rfl ?_
  exact z_goto C dL_state_88 (by decide) (z_sub [2, 1, 0] rfl (hK67 r1.1 o0 ((1000003 * y1) + (Int32.toInt64 r1.2)) (x3 + 1) ho0 hf))
def f_L_state_91  (z : St) (o0 : Nat) (y1 : Int64) : Option (St × Int64) :=
  ((f_X10_count z o0 2).bind fun r1 => some (r1.1, (1000003 * y1) + (Int32.toInt64 r1.2)))
theorem b_L_state_91 {p : Program} {l : Launch} {e : Env} {s : State} {m : MethodId} {args : Array Value} {below : List Frame} {meth : Method} {c : Code} {g : Ga} {A : Nat → Prop} (C : Cx l g A p s m args c cL_state 5 RL (rm_L_state) (0, 0)) (hr : meth.sig.returnType = (some .long)) (hk : meth.locks = false)   (z : St) (o0 : Nat) (y1 : Int64) (ho0 : kd o0 = 10) {res : St × Int64} (hf : f_L_state_91  z o0 y1 = some res) : Zj p l e (rm_L_state) s m args below meth c g A 5 (0, 0) (QJ g A below args s res) z 91 [(0, .ref (g.1 o0)), (1, .long y1)] [] := by
  unfold f_L_state_91 at hf
  refine z_ldc2 C dL_state_91 kc_L_31 ?_
  refine z_lload_n C dL_state_94 rfl 1 rfl ?_
  refine z_lmul C dL_state_95 ?_
  refine z_aload_n C dL_state_96 rfl 0 rfl ?_
  refine z_iconst C dL_state_97 (v := 2) (by decide) ?_
  obtain ⟨r1, hc2, hf⟩ := q_bd hf
  refine z_cVi C (st := [.long (1000003 * y1)]) (c_X10_count ho0 hc2) mw_X10_count ml_L_27 ho0 (by decide) rfl dL_state_98 rfl rfl rfl ⟨Nat.le_of_ble_eq_true rfl, Nat.le_of_ble_eq_true rfl⟩ rfl (Nat.le_of_ble_eq_true rfl) ?_
  refine z_i2l C dL_state_101 ?_
  refine z_ladd C dL_state_102 ?_
  cases hf
  exact z_lret C hr hk dL_state_103
def f_L_state_67  : Nat → St → Nat → Int64 → Int32 → Option (St × Int64)
  | 0, _, _, _, _ => none
  | n + 1, z, o0, y1, x3 => if 4 ≤ x3 then f_L_state_91 z o0 y1 else f_L_state_72 (f_L_state_67 n) z o0 y1 x3
theorem b_L_state_67 {p : Program} {l : Launch} {e : Env} {s : State} {m : MethodId} {args : Array Value} {below : List Frame} {meth : Method} {c : Code} {g : Ga} {A : Nat → Prop} (C : Cx l g A p s m args c cL_state 5 RL (rm_L_state) (0, 0)) (hr : meth.sig.returnType = (some .long)) (hk : meth.locks = false)   : ∀ (n : Nat) (z : St) (o0 : Nat) (y1 : Int64) (x3 : Int32) (_ : kd o0 = 10) {res : St × Int64} (_ : f_L_state_67  n z o0 y1 x3 = some res), Zj p l e (rm_L_state) s m args below meth c g A 5 (0, 0) (QJ g A below args s res) z 67 [(0, .ref (g.1 o0)), (1, .long y1), (3, .int x3)] [] := by
  intro n
  induction n with
  | zero =>
    intro z o0 y1 x3 ho0 res hf
    cases hf
  | succ n ih =>
    intro z o0 y1 x3 ho0 res hf
    rw [f_L_state_67] at hf
    refine z_iload_n C dL_state_67 rfl 2 rfl ?_
    refine z_iconst C dL_state_68 (v := 4) (by decide) ?_
    exact z_icmp_ge C dL_state_69 (by decide) (fun h => z_sub [0, 1] rfl (b_L_state_91 C hr hk z o0 y1 ho0 (q_t hf h))) (fun h => z_sub [0, 1, 2] rfl (b_L_state_72 C hr hk ih z o0 y1 x3 ho0 (q_f hf h)))
def f_L_state_65  (z : St) (o0 : Nat) (y1 : Int64) : Option (St × Int64) :=
  f_L_state_67 FU z o0 y1 0
theorem b_L_state_65 {p : Program} {l : Launch} {e : Env} {s : State} {m : MethodId} {args : Array Value} {below : List Frame} {meth : Method} {c : Code} {g : Ga} {A : Nat → Prop} (C : Cx l g A p s m args c cL_state 5 RL (rm_L_state) (0, 0)) (hr : meth.sig.returnType = (some .long)) (hk : meth.locks = false)   (z : St) (o0 : Nat) (y1 : Int64) (ho0 : kd o0 = 10) {res : St × Int64} (hf : f_L_state_65  z o0 y1 = some res) : Zj p l e (rm_L_state) s m args below meth c g A 5 (0, 0) (QJ g A below args s res) z 65 [(0, .ref (g.1 o0)), (1, .long y1)] [] := by
  unfold f_L_state_65 at hf
  refine z_iconst C dL_state_65 (v := 0) (by decide) ?_
  refine z_istore_n C (lv2 := [(3, .int 0), (0, .ref (g.1 o0)), (1, .long y1)]) dL_state_66 rfl (by decide) rfl ?_
  exact z_sub [1, 2, 0] rfl (b_L_state_67 C hr hk FU z o0 y1 0 ho0 hf)
def f_L_state_6  : Nat → St → Nat → Int64 → Int32 → Option (St × Int64)
  | 0, _, _, _, _ => none
  | n + 1, z, o0, y1, x3 => ((f_X10_count z o0 0).bind fun r1 => if r1.2 ≤ x3 then f_L_state_65 r1.1 o0 y1 else f_L_state_15 (f_L_state_6 n) r1.1 o0 y1 x3)
theorem b_L_state_6 {p : Program} {l : Launch} {e : Env} {s : State} {m : MethodId} {args : Array Value} {below : List Frame} {meth : Method} {c : Code} {g : Ga} {A : Nat → Prop} (C : Cx l g A p s m args c cL_state 5 RL (rm_L_state) (0, 0)) (hr : meth.sig.returnType = (some .long)) (hk : meth.locks = false)   : ∀ (n : Nat) (z : St) (o0 : Nat) (y1 : Int64) (x3 : Int32) (_ : kd o0 = 10) {res : St × Int64} (_ : f_L_state_6  n z o0 y1 x3 = some res), Zj p l e (rm_L_state) s m args below meth c g A 5 (0, 0) (QJ g A below args s res) z 6 [(0, .ref (g.1 o0)), (1, .long y1), (3, .int x3)] [] := by
  intro n
  induction n with
  | zero =>
    intro z o0 y1 x3 ho0 res hf
    cases hf
  | succ n ih =>
    intro z o0 y1 x3 ho0 res hf
    rw [f_L_state_6] at hf
    refine z_iload_n C dL_state_6 rfl 2 rfl ?_
    refine z_aload_n C dL_state_7 rfl 0 rfl ?_
    refine z_iconst C dL_state_8 (v := 0) (by decide) ?_
    obtain ⟨r1, hc2, hf⟩ := q_bd hf
    refine z_cVi C (st := [.int x3]) (c_X10_count ho0 hc2) mw_X10_count ml_L_27 ho0 (by decide) rfl dL_state_9 rfl rfl rfl ⟨Nat.le_of_ble_eq_true rfl, Nat.le_of_ble_eq_true rfl⟩ rfl (Nat.le_of_ble_eq_true rfl) ?_
    exact z_icmp_ge C dL_state_12 (by decide) (fun h => z_sub [0, 1] rfl (b_L_state_65 C hr hk r1.1 o0 y1 ho0 (q_t hf h))) (fun h => z_sub [0, 1, 2] rfl (b_L_state_15 C hr hk ih r1.1 o0 y1 x3 ho0 (q_f hf h)))
def f_L_state_0  (z : St) (o0 : Nat) : Option (St × Int64) :=
  f_L_state_6 FU z o0 7 0
theorem b_L_state_0 {p : Program} {l : Launch} {e : Env} {s : State} {m : MethodId} {args : Array Value} {below : List Frame} {meth : Method} {c : Code} {g : Ga} {A : Nat → Prop} (C : Cx l g A p s m args c cL_state 5 RL (rm_L_state) (0, 0)) (hr : meth.sig.returnType = (some .long)) (hk : meth.locks = false)   (z : St) (o0 : Nat) (ho0 : kd o0 = 10) {res : St × Int64} (hf : f_L_state_0  z o0 = some res) : Zj p l e (rm_L_state) s m args below meth c g A 5 (0, 0) (QJ g A below args s res) z 0 [(0, .ref (g.1 o0))] [] := by
  unfold f_L_state_0 at hf
  refine z_ldc2 C dL_state_0 kc_L_25 ?_
  refine z_lstore_n C (lv2 := [(1, .long 7), (0, .ref (g.1 o0))]) dL_state_3 rfl (by decide) rfl ?_
  refine z_iconst C dL_state_4 (v := 0) (by decide) ?_
  refine z_istore_n C (lv2 := [(3, .int 0), (1, .long 7), (0, .ref (g.1 o0))]) dL_state_5 rfl (by decide) rfl ?_
  exact z_sub [2, 1, 0] rfl (b_L_state_6 C hr hk FU z o0 7 0 ho0 hf)
def f_L_state (z : St) (o0 : Nat) : Option (St × Int64) := f_L_state_0 z o0
theorem c_L_state {l : Launch} {g : Ga} {A : Nat → Prop} {z : St} {o0 : Nat} (ho0 : kd o0 = 10) {res : St × Int64} (hf : f_L_state z o0 = some res) : CJ l g A yL_state cL_state 5 (some .long) rm_L_state [.ref (g.1 o0)] z res :=
  e_CJ (by decide) (Nat.le_of_ble_eq_true rfl) rfl (fun p e s m args below meth c C hr hk => z_sub [0] rfl (b_L_state_0 C hr hk z o0 ho0 hf))
abbrev rm_L_bench : Room := { frames := 7, cells := 68, slots := 8728, locals := 156 }
def f_L_bench_59 (xs : Nat → Int32) (L : Nat) (K53 : St → Nat → Int32 → Int32 → Int32 → Int32 → Option (St × Nat)) (z : St) (o1 : Nat) (x2 : Int32) (x3 : Int32) (x4 : Int32) (x5 : Int32) : Option (St × Nat) :=
  ((f_L_some z (((x2 * 1103515245) + 12345) >>> (7 &&& 31)) 6).bind fun r1 => ((f_L_some r1.1 (((x2 * 1103515245) + 12345) >>> (10 &&& 31)) x4).bind fun r3 => ((f_L_some r3.1 (((x2 * 1103515245) + 12345) >>> (15 &&& 31)) 12).bind fun r5 => ((f_L_some r5.1 (((x2 * 1103515245) + 12345) >>> (19 &&& 31)) 25).bind fun r7 => ((f_X10_job r7.1 o1 r1.2 r3.2 (1 + r5.2) r7.2).bind fun r9 => K53 r9.1 o1 ((x2 * 1103515245) + 12345) x3 x4 (x5 + 1))))))
theorem b_L_bench_59 {p : Program} {l : Launch} {e : Env} {s : State} {m : MethodId} {args : Array Value} {below : List Frame} {meth : Method} {c : Code} {b L : Nat} {xs : Nat → Int32} {g : Ga} {A : Nat → Prop} (C : Cx l g A p s m args c cL_bench 6 RL (rm_L_bench) kcB) (hr : meth.sig.returnType = (some (.object "BenchWithTails"))) (hk : meth.locks = false) (hX : va_X b L xs s s.heap) (hbl : b < s.heap.size) (hbA : ¬ A b) {K53 : St → Nat → Int32 → Int32 → Int32 → Int32 → Option (St × Nat)} (hK53 : ∀ (z : St) (o1 : Nat) (x2 : Int32) (x3 : Int32) (x4 : Int32) (x5 : Int32) (_ : kd o1 = 10) {res : St × Nat}, K53 z o1 x2 x3 x4 x5 = some res → Zj p l e (rm_L_bench) s m args below meth c g A 6 kcB (QB g A below args s res) z 53 [(1, .ref (g.1 o1)), (2, .int x2), (3, .int x3), (4, .int x4), (5, .int x5)] []) (z : St) (o1 : Nat) (x2 : Int32) (x3 : Int32) (x4 : Int32) (x5 : Int32) (ho1 : kd o1 = 10) {res : St × Nat} (hf : f_L_bench_59 xs L K53 z o1 x2 x3 x4 x5 = some res) : Zj p l e (rm_L_bench) s m args below meth c g A 6 kcB (QB g A below args s res) z 59 [(1, .ref (g.1 o1)), (2, .int x2), (3, .int x3), (4, .int x4), (5, .int x5)] [] := by
  unfold f_L_bench_59 at hf
  refine z_iload_n C dL_bench_59 rfl 1 rfl ?_
  refine z_ldc C dL_bench_60 kc_L_20 ?_
  refine z_imul C dL_bench_62 ?_
  refine z_sipush C dL_bench_63 (v := 12345) (by decide) ?_
  refine z_iadd C dL_bench_66 ?_
  refine z_istore_n C (lv2 := [(2, .int ((x2 * 1103515245) + 12345)), (1, .ref (g.1 o1)), (3, .int x3), (4, .int x4), (5, .int x5)]) dL_bench_67 rfl (by decide) rfl ?_
  refine z_aload_n C dL_bench_68 rfl 1 rfl ?_
  refine z_iload_n C dL_bench_69 rfl 0 rfl ?_
  refine z_bipush C dL_bench_70 (v := 7) (by decide) ?_
  refine z_ishr C dL_bench_72 ?_
  refine z_bipush C dL_bench_73 (v := 6) (by decide) ?_
  obtain ⟨r1, hc2, hf⟩ := q_bd hf
  refine z_cSi C (st := [.ref (g.1 o1)]) (c_L_some  hc2) mw_L_some ml_L_16 dL_bench_75 rfl rfl rfl ⟨Nat.le_of_ble_eq_true rfl, Nat.le_of_ble_eq_true rfl⟩ rfl (Nat.le_of_ble_eq_true rfl) ?_
  refine z_iload_n C dL_bench_78 rfl 0 rfl ?_
  refine z_bipush C dL_bench_79 (v := 10) (by decide) ?_
  refine z_ishr C dL_bench_81 ?_
  refine z_iload C dL_bench_82 3 rfl ?_
  obtain ⟨r3, hc4, hf⟩ := q_bd hf
  refine z_cSi C (st := [.int r1.2, .ref (g.1 o1)]) (c_L_some  hc4) mw_L_some ml_L_16 dL_bench_84 rfl rfl rfl ⟨Nat.le_of_ble_eq_true rfl, Nat.le_of_ble_eq_true rfl⟩ rfl (Nat.le_of_ble_eq_true rfl) ?_
  refine z_iconst C dL_bench_87 (v := 1) (by decide) ?_
  refine z_iload_n C dL_bench_88 rfl 0 rfl ?_
  refine z_bipush C dL_bench_89 (v := 15) (by decide) ?_
  refine z_ishr C dL_bench_91 ?_
  refine z_bipush C dL_bench_92 (v := 12) (by decide) ?_
  obtain ⟨r5, hc6, hf⟩ := q_bd hf
  refine z_cSi C (st := [.int 1, .int r3.2, .int r1.2, .ref (g.1 o1)]) (c_L_some  hc6) mw_L_some ml_L_16 dL_bench_94 rfl rfl rfl ⟨Nat.le_of_ble_eq_true rfl, Nat.le_of_ble_eq_true rfl⟩ rfl (Nat.le_of_ble_eq_true rfl) ?_
  refine z_iadd C dL_bench_97 ?_
  refine z_iload_n C dL_bench_98 rfl 0 rfl ?_
  refine z_bipush C dL_bench_99 (v := 19) (by decide) ?_
  refine z_ishr C dL_bench_101 ?_
  refine z_bipush C dL_bench_102 (v := 25) (by decide) ?_
  obtain ⟨r7, hc8, hf⟩ := q_bd hf
  refine z_cSi C (st := [.int (1 + r5.2), .int r3.2, .int r1.2, .ref (g.1 o1)]) (c_L_some  hc8) mw_L_some ml_L_16 dL_bench_104 rfl rfl rfl ⟨Nat.le_of_ble_eq_true rfl, Nat.le_of_ble_eq_true rfl⟩ rfl (Nat.le_of_ble_eq_true rfl) ?_
  obtain ⟨r9, hc10, hf⟩ := q_bd hf
  refine z_cVi C (st := []) (c_X10_job ho1 hc10) mw_X10_job ml_L_21 ho1 (by decide) rfl dL_bench_107 rfl rfl rfl ⟨Nat.le_of_ble_eq_true rfl, Nat.le_of_ble_eq_true rfl⟩ rfl (Nat.le_of_ble_eq_true rfl) ?_
  refine z_pop C dL_bench_110 rfl ?_
  refine z_iinc C (k := 4) (v := x5 + 1) (lv2 := [(5, .int (x5 + 1)), (2, .int ((x2 * 1103515245) + 12345)), (1, .ref (g.1 o1)), (3, .int x3), (4, .int x4)]) dL_bench_111 rfl rfl (by decide) rfl ?_
  exact z_goto C dL_bench_114 (by decide) (z_sub [2, 1, 3, 4, 0] rfl (hK53 r9.1 o1 ((x2 * 1103515245) + 12345) x3 x4 (x5 + 1) ho1 hf))
def f_L_bench_117 (xs : Nat → Int32) (L : Nat)  (z : St) (o1 : Nat) : Option (St × Nat) :=
  some (z, o1)
theorem b_L_bench_117 {p : Program} {l : Launch} {e : Env} {s : State} {m : MethodId} {args : Array Value} {below : List Frame} {meth : Method} {c : Code} {b L : Nat} {xs : Nat → Int32} {g : Ga} {A : Nat → Prop} (C : Cx l g A p s m args c cL_bench 6 RL (rm_L_bench) kcB) (hr : meth.sig.returnType = (some (.object "BenchWithTails"))) (hk : meth.locks = false) (hX : va_X b L xs s s.heap) (hbl : b < s.heap.size) (hbA : ¬ A b)   (z : St) (o1 : Nat) (ho1 : kd o1 = 10) {res : St × Nat} (hf : f_L_bench_117 xs L  z o1 = some res) : Zj p l e (rm_L_bench) s m args below meth c g A 6 kcB (QB g A below args s res) z 117 [(1, .ref (g.1 o1))] [] := by
  unfold f_L_bench_117 at hf
  refine z_aload_n C dL_bench_117 rfl 0 rfl ?_
  cases hf
  exact z_aret C hr hk dL_bench_118
def f_L_bench_53 (xs : Nat → Int32) (L : Nat)  : Nat → St → Nat → Int32 → Int32 → Int32 → Int32 → Option (St × Nat)
  | 0, _, _, _, _, _, _ => none
  | n + 1, z, o1, x2, x3, x4, x5 => if x3 ≤ x5 then f_L_bench_117 xs L z o1 else f_L_bench_59 xs L (f_L_bench_53 xs L n) z o1 x2 x3 x4 x5
theorem b_L_bench_53 {p : Program} {l : Launch} {e : Env} {s : State} {m : MethodId} {args : Array Value} {below : List Frame} {meth : Method} {c : Code} {b L : Nat} {xs : Nat → Int32} {g : Ga} {A : Nat → Prop} (C : Cx l g A p s m args c cL_bench 6 RL (rm_L_bench) kcB) (hr : meth.sig.returnType = (some (.object "BenchWithTails"))) (hk : meth.locks = false) (hX : va_X b L xs s s.heap) (hbl : b < s.heap.size) (hbA : ¬ A b)   : ∀ (n : Nat) (z : St) (o1 : Nat) (x2 : Int32) (x3 : Int32) (x4 : Int32) (x5 : Int32) (_ : kd o1 = 10) {res : St × Nat} (_ : f_L_bench_53 xs L  n z o1 x2 x3 x4 x5 = some res), Zj p l e (rm_L_bench) s m args below meth c g A 6 kcB (QB g A below args s res) z 53 [(1, .ref (g.1 o1)), (2, .int x2), (3, .int x3), (4, .int x4), (5, .int x5)] [] := by
  intro n
  induction n with
  | zero =>
    intro z o1 x2 x3 x4 x5 ho1 res hf
    cases hf
  | succ n ih =>
    intro z o1 x2 x3 x4 x5 ho1 res hf
    rw [f_L_bench_53] at hf
    refine z_iload C dL_bench_53 4 rfl ?_
    refine z_iload_n C dL_bench_55 rfl 2 rfl ?_
    exact z_icmp_ge C dL_bench_56 (by decide) (fun h => z_sub [0] rfl (b_L_bench_117 C hr hk hX hbl hbA z o1 ho1 (q_t hf h))) (fun h => z_sub [0, 1, 2, 3, 4] rfl (b_L_bench_59 C hr hk hX hbl hbA ih z o1 x2 x3 x4 x5 ho1 (q_f hf h)))
def f_L_bench_8 (xs : Nat → Int32) (L : Nat)  (z : St) (o1 : Nat) : Option (St × Nat) :=
  ((f_L_at xs L z 0).bind fun r1 => ((f_L_at xs L r1.1 1).bind fun r3 => ((f_L_at xs L r3.1 2).bind fun r5 => ((f_L_some r5.1 r5.2 9).bind fun r7 => ((f_L_at xs L r7.1 2).bind fun r9 => ((f_L_some r9.1 (r9.2 >>> (5 &&& 31)) 30).bind fun r11 => f_L_bench_53 xs L FU r11.1 o1 ((r1.2 * 31) + r3.2) r7.2 (2 + r11.2) 0))))))
theorem b_L_bench_8 {p : Program} {l : Launch} {e : Env} {s : State} {m : MethodId} {args : Array Value} {below : List Frame} {meth : Method} {c : Code} {b L : Nat} {xs : Nat → Int32} {g : Ga} {A : Nat → Prop} (C : Cx l g A p s m args c cL_bench 6 RL (rm_L_bench) kcB) (hr : meth.sig.returnType = (some (.object "BenchWithTails"))) (hk : meth.locks = false) (hX : va_X b L xs s s.heap) (hbl : b < s.heap.size) (hbA : ¬ A b)   (z : St) (o1 : Nat) (ho1 : kd o1 = 10) {res : St × Nat} (hf : f_L_bench_8 xs L  z o1 = some res) : Zj p l e (rm_L_bench) s m args below meth c g A 6 kcB (QB g A below args s res) z 8 [(0, .ref b), (1, .ref (g.1 o1))] [] := by
  unfold f_L_bench_8 at hf
  refine z_aload_n C dL_bench_8 rfl 0 rfl ?_
  refine z_iconst C dL_bench_9 (v := 0) (by decide) ?_
  obtain ⟨r1, hc2, hf⟩ := q_bd hf
  refine z_cXi C hX hbl hbA (st := []) (c_L_at  hc2) mw_L_at ml_L_10 dL_bench_10 rfl rfl rfl ⟨Nat.le_of_ble_eq_true rfl, Nat.le_of_ble_eq_true rfl⟩ rfl (Nat.le_of_ble_eq_true rfl) ?_
  refine z_bipush C dL_bench_13 (v := 31) (by decide) ?_
  refine z_imul C dL_bench_15 ?_
  refine z_aload_n C dL_bench_16 rfl 0 rfl ?_
  refine z_iconst C dL_bench_17 (v := 1) (by decide) ?_
  obtain ⟨r3, hc4, hf⟩ := q_bd hf
  refine z_cXi C hX hbl hbA (st := [.int (r1.2 * 31)]) (c_L_at  hc4) mw_L_at ml_L_10 dL_bench_18 rfl rfl rfl ⟨Nat.le_of_ble_eq_true rfl, Nat.le_of_ble_eq_true rfl⟩ rfl (Nat.le_of_ble_eq_true rfl) ?_
  refine z_iadd C dL_bench_21 ?_
  refine z_istore_n C (lv2 := [(2, .int ((r1.2 * 31) + r3.2)), (0, .ref b), (1, .ref (g.1 o1))]) dL_bench_22 rfl (by decide) rfl ?_
  refine z_aload_n C dL_bench_23 rfl 1 rfl ?_
  refine z_iconst C dL_bench_24 (v := 2) (by decide) ?_
  obtain ⟨r5, hc6, hf⟩ := q_bd hf
  refine z_cXi C hX hbl hbA (st := []) (c_L_at  hc6) mw_L_at ml_L_10 dL_bench_25 rfl rfl rfl ⟨Nat.le_of_ble_eq_true rfl, Nat.le_of_ble_eq_true rfl⟩ rfl (Nat.le_of_ble_eq_true rfl) ?_
  refine z_bipush C dL_bench_28 (v := 9) (by decide) ?_
  obtain ⟨r7, hc8, hf⟩ := q_bd hf
  refine z_cSi C (st := []) (c_L_some  hc8) mw_L_some ml_L_16 dL_bench_30 rfl rfl rfl ⟨Nat.le_of_ble_eq_true rfl, Nat.le_of_ble_eq_true rfl⟩ rfl (Nat.le_of_ble_eq_true rfl) ?_
  refine z_istore_n C (lv2 := [(3, .int r7.2), (2, .int ((r1.2 * 31) + r3.2)), (0, .ref b), (1, .ref (g.1 o1))]) dL_bench_33 rfl (by decide) rfl ?_
  refine z_iconst C dL_bench_34 (v := 2) (by decide) ?_
  refine z_aload_n C dL_bench_35 rfl 2 rfl ?_
  refine z_iconst C dL_bench_36 (v := 2) (by decide) ?_
  obtain ⟨r9, hc10, hf⟩ := q_bd hf
  refine z_cXi C hX hbl hbA (st := [.int 2]) (c_L_at  hc10) mw_L_at ml_L_10 dL_bench_37 rfl rfl rfl ⟨Nat.le_of_ble_eq_true rfl, Nat.le_of_ble_eq_true rfl⟩ rfl (Nat.le_of_ble_eq_true rfl) ?_
  refine z_iconst C dL_bench_40 (v := 5) (by decide) ?_
  refine z_ishr C dL_bench_41 ?_
  refine z_bipush C dL_bench_42 (v := 30) (by decide) ?_
  obtain ⟨r11, hc12, hf⟩ := q_bd hf
  refine z_cSi C (st := [.int 2]) (c_L_some  hc12) mw_L_some ml_L_16 dL_bench_44 rfl rfl rfl ⟨Nat.le_of_ble_eq_true rfl, Nat.le_of_ble_eq_true rfl⟩ rfl (Nat.le_of_ble_eq_true rfl) ?_
  refine z_iadd C dL_bench_47 ?_
  refine z_istore C (lv2 := [(4, .int (2 + r11.2)), (3, .int r7.2), (2, .int ((r1.2 * 31) + r3.2)), (0, .ref b), (1, .ref (g.1 o1))]) dL_bench_48 (by decide) rfl ?_
  refine z_iconst C dL_bench_50 (v := 0) (by decide) ?_
  refine z_istore C (lv2 := [(5, .int 0), (4, .int (2 + r11.2)), (3, .int r7.2), (2, .int ((r1.2 * 31) + r3.2)), (0, .ref b), (1, .ref (g.1 o1))]) dL_bench_51 (by decide) rfl ?_
  exact z_sub [5, 3, 2, 1, 0] rfl (b_L_bench_53 C hr hk hX hbl hbA FU r11.1 o1 ((r1.2 * 31) + r3.2) r7.2 (2 + r11.2) 0 ho1 hf)
def f_L_law_36 (xs : Nat → Int32) (L : Nat)  (z : St)  : Option (St × Int32) :=
  some (z, 0)
theorem b_L_law_36 {p : Program} {l : Launch} {e : Env} {s : State} {m : MethodId} {below : List Frame} {meth : Method} {c : Code} {b L : Nat} {xs : Nat → Int32} {kc : Nat × Nat} {g : Ga} {A : Nat → Prop} (C : Cx l g A p s m #[Value.ref b] c cL_law 16 RL room_1 kc) (hr : meth.sig.returnType = ret) (hk : meth.locks = false) (hX : va_X b L xs s s.heap) (hbl : b < s.heap.size) (hbA : ¬ A b) (hA : ∀ q, A q → s.heap.size ≤ q) (hkc : kc.1 ≤ 600000 ∧ kc.2 ≤ 7302249)   (z : St)   {res : St × Int32} (hres : res.2 = 1) (hf : f_L_law_36 xs L  z  = some res) : Zj p l e room_1 s m #[Value.ref b] below meth c g A 16 kc (lw_Z below #[Value.ref b] s) z 36 [] [] := by
  unfold f_L_law_36 at hf
  refine z_iconst C dL_law_36 (v := 0) (by decide) ?_
  cases hf
  exact z_lawret C hr hk hA hkc hres dL_law_37
def f_L_law_78 (xs : Nat → Int32) (L : Nat)  (z : St)  : Option (St × Int32) :=
  some (z, 0)
theorem b_L_law_78 {p : Program} {l : Launch} {e : Env} {s : State} {m : MethodId} {below : List Frame} {meth : Method} {c : Code} {b L : Nat} {xs : Nat → Int32} {kc : Nat × Nat} {g : Ga} {A : Nat → Prop} (C : Cx l g A p s m #[Value.ref b] c cL_law 16 RL room_1 kc) (hr : meth.sig.returnType = ret) (hk : meth.locks = false) (hX : va_X b L xs s s.heap) (hbl : b < s.heap.size) (hbA : ¬ A b) (hA : ∀ q, A q → s.heap.size ≤ q) (hkc : kc.1 ≤ 600000 ∧ kc.2 ≤ 7302249)   (z : St)   {res : St × Int32} (hres : res.2 = 1) (hf : f_L_law_78 xs L  z  = some res) : Zj p l e room_1 s m #[Value.ref b] below meth c g A 16 kc (lw_Z below #[Value.ref b] s) z 78 [] [] := by
  unfold f_L_law_78 at hf
  refine z_iconst C dL_law_78 (v := 0) (by decide) ?_
  cases hf
  exact z_lawret C hr hk hA hkc hres dL_law_79
def f_L_law_150 (xs : Nat → Int32) (L : Nat)  (z : St)  : Option (St × Int32) :=
  some (z, 0)
theorem b_L_law_150 {p : Program} {l : Launch} {e : Env} {s : State} {m : MethodId} {below : List Frame} {meth : Method} {c : Code} {b L : Nat} {xs : Nat → Int32} {kc : Nat × Nat} {g : Ga} {A : Nat → Prop} (C : Cx l g A p s m #[Value.ref b] c cL_law 16 RL room_1 kc) (hr : meth.sig.returnType = ret) (hk : meth.locks = false) (hX : va_X b L xs s s.heap) (hbl : b < s.heap.size) (hbA : ¬ A b) (hA : ∀ q, A q → s.heap.size ≤ q) (hkc : kc.1 ≤ 600000 ∧ kc.2 ≤ 7302249)   (z : St)   {res : St × Int32} (hres : res.2 = 1) (hf : f_L_law_150 xs L  z  = some res) : Zj p l e room_1 s m #[Value.ref b] below meth c g A 16 kc (lw_Z below #[Value.ref b] s) z 150 [] [] := by
  unfold f_L_law_150 at hf
  refine z_iconst C dL_law_150 (v := 0) (by decide) ?_
  cases hf
  exact z_lawret C hr hk hA hkc hres dL_law_151
def f_L_law_223 (xs : Nat → Int32) (L : Nat)  (z : St)  : Option (St × Int32) :=
  some (z, 0)
theorem b_L_law_223 {p : Program} {l : Launch} {e : Env} {s : State} {m : MethodId} {below : List Frame} {meth : Method} {c : Code} {b L : Nat} {xs : Nat → Int32} {kc : Nat × Nat} {g : Ga} {A : Nat → Prop} (C : Cx l g A p s m #[Value.ref b] c cL_law 16 RL room_1 kc) (hr : meth.sig.returnType = ret) (hk : meth.locks = false) (hX : va_X b L xs s s.heap) (hbl : b < s.heap.size) (hbA : ¬ A b) (hA : ∀ q, A q → s.heap.size ≤ q) (hkc : kc.1 ≤ 600000 ∧ kc.2 ≤ 7302249)   (z : St)   {res : St × Int32} (hres : res.2 = 1) (hf : f_L_law_223 xs L  z  = some res) : Zj p l e room_1 s m #[Value.ref b] below meth c g A 16 kc (lw_Z below #[Value.ref b] s) z 223 [] [] := by
  unfold f_L_law_223 at hf
  refine z_iconst C dL_law_223 (v := 0) (by decide) ?_
  cases hf
  exact z_lawret C hr hk hA hkc hres dL_law_224
def f_L_law_225 (xs : Nat → Int32) (L : Nat) (K92 : St → Nat → Int32 → Int64 → Int32 → Int64 → Int32 → Int32 → Option (St × Int32)) (z : St) (o1 : Nat) (x2 : Int32) (y3 : Int64) (x5 : Int32) (y6 : Int64) (x8 : Int32) (x9 : Int32) (x11 : Int32) (x12 : Int32) : Option (St × Int32) :=
  K92 z o1 x2 y3 x5 y6 (x8 + (imax 0 ((imin x5 x12) - (imin x5 x11)))) (x9 + 1)
theorem b_L_law_225 {p : Program} {l : Launch} {e : Env} {s : State} {m : MethodId} {below : List Frame} {meth : Method} {c : Code} {b L : Nat} {xs : Nat → Int32} {kc : Nat × Nat} {g : Ga} {A : Nat → Prop} (C : Cx l g A p s m #[Value.ref b] c cL_law 16 RL room_1 kc) (hr : meth.sig.returnType = ret) (hk : meth.locks = false) (hX : va_X b L xs s s.heap) (hbl : b < s.heap.size) (hbA : ¬ A b) (hA : ∀ q, A q → s.heap.size ≤ q) (hkc : kc.1 ≤ 600000 ∧ kc.2 ≤ 7302249) {K92 : St → Nat → Int32 → Int64 → Int32 → Int64 → Int32 → Int32 → Option (St × Int32)} (hK92 : ∀ (z : St) (o1 : Nat) (x2 : Int32) (y3 : Int64) (x5 : Int32) (y6 : Int64) (x8 : Int32) (x9 : Int32) (_ : kd o1 = 10) {res : St × Int32} (_ : res.2 = 1), K92 z o1 x2 y3 x5 y6 x8 x9 = some res → Zj p l e room_1 s m #[Value.ref b] below meth c g A 16 kc (lw_Z below #[Value.ref b] s) z 92 [(0, .ref b), (1, .ref (g.1 o1)), (2, .int x2), (3, .long y3), (5, .int x5), (6, .long y6), (8, .int x8), (9, .int x9)] []) (z : St) (o1 : Nat) (x2 : Int32) (y3 : Int64) (x5 : Int32) (y6 : Int64) (x8 : Int32) (x9 : Int32) (x11 : Int32) (x12 : Int32) (ho1 : kd o1 = 10) {res : St × Int32} (hres : res.2 = 1) (hf : f_L_law_225 xs L K92 z o1 x2 y3 x5 y6 x8 x9 x11 x12 = some res) : Zj p l e room_1 s m #[Value.ref b] below meth c g A 16 kc (lw_Z below #[Value.ref b] s) z 225 [(0, .ref b), (1, .ref (g.1 o1)), (2, .int x2), (3, .long y3), (5, .int x5), (6, .long y6), (8, .int x8), (9, .int x9), (11, .int x11), (12, .int x12)] [] := by
  unfold f_L_law_225 at hf
  refine z_iload C dL_law_225 6 rfl ?_
  refine z_iconst C dL_law_227 (v := 0) (by decide) ?_
  refine z_iload C dL_law_228 4 rfl ?_
  refine z_iload C dL_law_230 9 rfl ?_
  refine z_mmin C (st := [.int 0, .int x8]) dL_law_232 ml_L_62 mm_min.1 mm_i mm_min.2 ⟨Nat.le_of_ble_eq_true rfl, Nat.le_of_ble_eq_true rfl⟩ (Nat.le_of_ble_eq_true rfl) ?_
  refine z_iload C dL_law_235 4 rfl ?_
  refine z_iload C dL_law_237 8 rfl ?_
  refine z_mmin C (st := [.int (imin x5 x12), .int 0, .int x8]) dL_law_239 ml_L_62 mm_min.1 mm_i mm_min.2 ⟨Nat.le_of_ble_eq_true rfl, Nat.le_of_ble_eq_true rfl⟩ (Nat.le_of_ble_eq_true rfl) ?_
  refine z_isub C dL_law_242 ?_
  refine z_mmax C (st := [.int x8]) dL_law_243 ml_L_67 mm_max.1 mm_i mm_max.2 ⟨Nat.le_of_ble_eq_true rfl, Nat.le_of_ble_eq_true rfl⟩ (Nat.le_of_ble_eq_true rfl) ?_
  refine z_iadd C dL_law_246 ?_
  refine z_istore C (lv2 := [(8, .int (x8 + (imax 0 ((imin x5 x12) - (imin x5 x11))))), (0, .ref b), (1, .ref (g.1 o1)), (2, .int x2), (3, .long y3), (5, .int x5), (6, .long y6), (9, .int x9), (11, .int x11), (12, .int x12)]) dL_law_247 (by decide) rfl ?_
  refine z_iinc C (k := 7) (v := x9 + 1) (lv2 := [(9, .int (x9 + 1)), (8, .int (x8 + (imax 0 ((imin x5 x12) - (imin x5 x11))))), (0, .ref b), (1, .ref (g.1 o1)), (2, .int x2), (3, .long y3), (5, .int x5), (6, .long y6), (11, .int x11), (12, .int x12)]) dL_law_249 rfl rfl (by decide) rfl ?_
  exact z_goto C dL_law_252 (by decide) (z_sub [2, 3, 4, 5, 6, 7, 1, 0] rfl (hK92 z o1 x2 y3 x5 y6 (x8 + (imax 0 ((imin x5 x12) - (imin x5 x11)))) (x9 + 1) ho1 hres hf))
def f_L_law_220 (xs : Nat → Int32) (L : Nat) (K92 : St → Nat → Int32 → Int64 → Int32 → Int64 → Int32 → Int32 → Option (St × Int32)) (z : St) (o1 : Nat) (x2 : Int32) (y3 : Int64) (x5 : Int32) (y6 : Int64) (x8 : Int32) (x9 : Int32) (x11 : Int32) (x12 : Int32) (s0 : Int32) (s1 : Int32) : Option (St × Int32) :=
  if s0 = s1 then f_L_law_225 xs L K92 z o1 x2 y3 x5 y6 x8 x9 x11 x12 else f_L_law_223 xs L z
theorem b_L_law_220 {p : Program} {l : Launch} {e : Env} {s : State} {m : MethodId} {below : List Frame} {meth : Method} {c : Code} {b L : Nat} {xs : Nat → Int32} {kc : Nat × Nat} {g : Ga} {A : Nat → Prop} (C : Cx l g A p s m #[Value.ref b] c cL_law 16 RL room_1 kc) (hr : meth.sig.returnType = ret) (hk : meth.locks = false) (hX : va_X b L xs s s.heap) (hbl : b < s.heap.size) (hbA : ¬ A b) (hA : ∀ q, A q → s.heap.size ≤ q) (hkc : kc.1 ≤ 600000 ∧ kc.2 ≤ 7302249) {K92 : St → Nat → Int32 → Int64 → Int32 → Int64 → Int32 → Int32 → Option (St × Int32)} (hK92 : ∀ (z : St) (o1 : Nat) (x2 : Int32) (y3 : Int64) (x5 : Int32) (y6 : Int64) (x8 : Int32) (x9 : Int32) (_ : kd o1 = 10) {res : St × Int32} (_ : res.2 = 1), K92 z o1 x2 y3 x5 y6 x8 x9 = some res → Zj p l e room_1 s m #[Value.ref b] below meth c g A 16 kc (lw_Z below #[Value.ref b] s) z 92 [(0, .ref b), (1, .ref (g.1 o1)), (2, .int x2), (3, .long y3), (5, .int x5), (6, .long y6), (8, .int x8), (9, .int x9)] []) (z : St) (o1 : Nat) (x2 : Int32) (y3 : Int64) (x5 : Int32) (y6 : Int64) (x8 : Int32) (x9 : Int32) (x11 : Int32) (x12 : Int32) (s0 : Int32) (s1 : Int32) (ho1 : kd o1 = 10) {res : St × Int32} (hres : res.2 = 1) (hf : f_L_law_220 xs L K92 z o1 x2 y3 x5 y6 x8 x9 x11 x12 s0 s1 = some res) : Zj p l e room_1 s m #[Value.ref b] below meth c g A 16 kc (lw_Z below #[Value.ref b] s) z 220 [(0, .ref b), (1, .ref (g.1 o1)), (2, .int x2), (3, .long y3), (5, .int x5), (6, .long y6), (8, .int x8), (9, .int x9), (11, .int x11), (12, .int x12)] [.int s1, .int s0] := by
  unfold f_L_law_220 at hf
  exact z_icmp_eq C dL_law_220 (by decide) (fun h => z_sub [0, 1, 2, 3, 4, 5, 6, 7, 8, 9] rfl (b_L_law_225 C hr hk hX hbl hbA hA hkc hK92 z o1 x2 y3 x5 y6 x8 x9 x11 x12 ho1 hres (q_t hf h))) (fun h => z_sub [] rfl (b_L_law_223 C hr hk hX hbl hbA hA hkc z hres (q_f hf h)))
def f_L_law_215 (xs : Nat → Int32) (L : Nat) (K92 : St → Nat → Int32 → Int64 → Int32 → Int64 → Int32 → Int32 → Option (St × Int32)) (z : St) (o1 : Nat) (x2 : Int32) (y3 : Int64) (x5 : Int32) (y6 : Int64) (x8 : Int32) (x9 : Int32) (x11 : Int32) (x12 : Int32) (s0 : Int32) : Option (St × Int32) :=
  f_L_law_220 xs L K92 z o1 x2 y3 x5 y6 x8 x9 x11 x12 s0 1
theorem b_L_law_215 {p : Program} {l : Launch} {e : Env} {s : State} {m : MethodId} {below : List Frame} {meth : Method} {c : Code} {b L : Nat} {xs : Nat → Int32} {kc : Nat × Nat} {g : Ga} {A : Nat → Prop} (C : Cx l g A p s m #[Value.ref b] c cL_law 16 RL room_1 kc) (hr : meth.sig.returnType = ret) (hk : meth.locks = false) (hX : va_X b L xs s s.heap) (hbl : b < s.heap.size) (hbA : ¬ A b) (hA : ∀ q, A q → s.heap.size ≤ q) (hkc : kc.1 ≤ 600000 ∧ kc.2 ≤ 7302249) {K92 : St → Nat → Int32 → Int64 → Int32 → Int64 → Int32 → Int32 → Option (St × Int32)} (hK92 : ∀ (z : St) (o1 : Nat) (x2 : Int32) (y3 : Int64) (x5 : Int32) (y6 : Int64) (x8 : Int32) (x9 : Int32) (_ : kd o1 = 10) {res : St × Int32} (_ : res.2 = 1), K92 z o1 x2 y3 x5 y6 x8 x9 = some res → Zj p l e room_1 s m #[Value.ref b] below meth c g A 16 kc (lw_Z below #[Value.ref b] s) z 92 [(0, .ref b), (1, .ref (g.1 o1)), (2, .int x2), (3, .long y3), (5, .int x5), (6, .long y6), (8, .int x8), (9, .int x9)] []) (z : St) (o1 : Nat) (x2 : Int32) (y3 : Int64) (x5 : Int32) (y6 : Int64) (x8 : Int32) (x9 : Int32) (x11 : Int32) (x12 : Int32) (s0 : Int32) (ho1 : kd o1 = 10) {res : St × Int32} (hres : res.2 = 1) (hf : f_L_law_215 xs L K92 z o1 x2 y3 x5 y6 x8 x9 x11 x12 s0 = some res) : Zj p l e room_1 s m #[Value.ref b] below meth c g A 16 kc (lw_Z below #[Value.ref b] s) z 215 [(0, .ref b), (1, .ref (g.1 o1)), (2, .int x2), (3, .long y3), (5, .int x5), (6, .long y6), (8, .int x8), (9, .int x9), (11, .int x11), (12, .int x12)] [.int s0] := by
  unfold f_L_law_215 at hf
  refine z_iconst C dL_law_215 (v := 1) (by decide) ?_
  exact z_goto C dL_law_216 (by decide) (z_sub [0, 1, 2, 3, 4, 5, 6, 7, 8, 9] rfl (b_L_law_220 C hr hk hX hbl hbA hA hkc hK92 z o1 x2 y3 x5 y6 x8 x9 x11 x12 s0 1 ho1 hres hf))
def f_L_law_219 (xs : Nat → Int32) (L : Nat) (K92 : St → Nat → Int32 → Int64 → Int32 → Int64 → Int32 → Int32 → Option (St × Int32)) (z : St) (o1 : Nat) (x2 : Int32) (y3 : Int64) (x5 : Int32) (y6 : Int64) (x8 : Int32) (x9 : Int32) (x11 : Int32) (x12 : Int32) (s0 : Int32) : Option (St × Int32) :=
  f_L_law_220 xs L K92 z o1 x2 y3 x5 y6 x8 x9 x11 x12 s0 0
theorem b_L_law_219 {p : Program} {l : Launch} {e : Env} {s : State} {m : MethodId} {below : List Frame} {meth : Method} {c : Code} {b L : Nat} {xs : Nat → Int32} {kc : Nat × Nat} {g : Ga} {A : Nat → Prop} (C : Cx l g A p s m #[Value.ref b] c cL_law 16 RL room_1 kc) (hr : meth.sig.returnType = ret) (hk : meth.locks = false) (hX : va_X b L xs s s.heap) (hbl : b < s.heap.size) (hbA : ¬ A b) (hA : ∀ q, A q → s.heap.size ≤ q) (hkc : kc.1 ≤ 600000 ∧ kc.2 ≤ 7302249) {K92 : St → Nat → Int32 → Int64 → Int32 → Int64 → Int32 → Int32 → Option (St × Int32)} (hK92 : ∀ (z : St) (o1 : Nat) (x2 : Int32) (y3 : Int64) (x5 : Int32) (y6 : Int64) (x8 : Int32) (x9 : Int32) (_ : kd o1 = 10) {res : St × Int32} (_ : res.2 = 1), K92 z o1 x2 y3 x5 y6 x8 x9 = some res → Zj p l e room_1 s m #[Value.ref b] below meth c g A 16 kc (lw_Z below #[Value.ref b] s) z 92 [(0, .ref b), (1, .ref (g.1 o1)), (2, .int x2), (3, .long y3), (5, .int x5), (6, .long y6), (8, .int x8), (9, .int x9)] []) (z : St) (o1 : Nat) (x2 : Int32) (y3 : Int64) (x5 : Int32) (y6 : Int64) (x8 : Int32) (x9 : Int32) (x11 : Int32) (x12 : Int32) (s0 : Int32) (ho1 : kd o1 = 10) {res : St × Int32} (hres : res.2 = 1) (hf : f_L_law_219 xs L K92 z o1 x2 y3 x5 y6 x8 x9 x11 x12 s0 = some res) : Zj p l e room_1 s m #[Value.ref b] below meth c g A 16 kc (lw_Z below #[Value.ref b] s) z 219 [(0, .ref b), (1, .ref (g.1 o1)), (2, .int x2), (3, .long y3), (5, .int x5), (6, .long y6), (8, .int x8), (9, .int x9), (11, .int x11), (12, .int x12)] [.int s0] := by
  unfold f_L_law_219 at hf
  refine z_iconst C dL_law_219 (v := 0) (by decide) ?_
  exact z_sub [0, 1, 2, 3, 4, 5, 6, 7, 8, 9] rfl (b_L_law_220 C hr hk hX hbl hbA hA hkc hK92 z o1 x2 y3 x5 y6 x8 x9 x11 x12 s0 0 ho1 hres hf)
def f_L_law_208 (xs : Nat → Int32) (L : Nat) (K92 : St → Nat → Int32 → Int64 → Int32 → Int64 → Int32 → Int32 → Option (St × Int32)) (z : St) (o1 : Nat) (x2 : Int32) (y3 : Int64) (x5 : Int32) (y6 : Int64) (x8 : Int32) (x9 : Int32) (x11 : Int32) (x12 : Int32) (s0 : Int32) : Option (St × Int32) :=
  if x12 ≤ x5 then f_L_law_219 xs L K92 z o1 x2 y3 x5 y6 x8 x9 x11 x12 s0 else f_L_law_215 xs L K92 z o1 x2 y3 x5 y6 x8 x9 x11 x12 s0
theorem b_L_law_208 {p : Program} {l : Launch} {e : Env} {s : State} {m : MethodId} {below : List Frame} {meth : Method} {c : Code} {b L : Nat} {xs : Nat → Int32} {kc : Nat × Nat} {g : Ga} {A : Nat → Prop} (C : Cx l g A p s m #[Value.ref b] c cL_law 16 RL room_1 kc) (hr : meth.sig.returnType = ret) (hk : meth.locks = false) (hX : va_X b L xs s s.heap) (hbl : b < s.heap.size) (hbA : ¬ A b) (hA : ∀ q, A q → s.heap.size ≤ q) (hkc : kc.1 ≤ 600000 ∧ kc.2 ≤ 7302249) {K92 : St → Nat → Int32 → Int64 → Int32 → Int64 → Int32 → Int32 → Option (St × Int32)} (hK92 : ∀ (z : St) (o1 : Nat) (x2 : Int32) (y3 : Int64) (x5 : Int32) (y6 : Int64) (x8 : Int32) (x9 : Int32) (_ : kd o1 = 10) {res : St × Int32} (_ : res.2 = 1), K92 z o1 x2 y3 x5 y6 x8 x9 = some res → Zj p l e room_1 s m #[Value.ref b] below meth c g A 16 kc (lw_Z below #[Value.ref b] s) z 92 [(0, .ref b), (1, .ref (g.1 o1)), (2, .int x2), (3, .long y3), (5, .int x5), (6, .long y6), (8, .int x8), (9, .int x9)] []) (z : St) (o1 : Nat) (x2 : Int32) (y3 : Int64) (x5 : Int32) (y6 : Int64) (x8 : Int32) (x9 : Int32) (x11 : Int32) (x12 : Int32) (s0 : Int32) (ho1 : kd o1 = 10) {res : St × Int32} (hres : res.2 = 1) (hf : f_L_law_208 xs L K92 z o1 x2 y3 x5 y6 x8 x9 x11 x12 s0 = some res) : Zj p l e room_1 s m #[Value.ref b] below meth c g A 16 kc (lw_Z below #[Value.ref b] s) z 208 [(0, .ref b), (1, .ref (g.1 o1)), (2, .int x2), (3, .long y3), (5, .int x5), (6, .long y6), (8, .int x8), (9, .int x9), (11, .int x11), (12, .int x12)] [.int s0] := by
  unfold f_L_law_208 at hf
  refine z_iload C dL_law_208 9 rfl ?_
  refine z_iload C dL_law_210 4 rfl ?_
  exact z_icmp_le C dL_law_212 (by decide) (fun h => z_sub [0, 1, 2, 3, 4, 5, 6, 7, 8, 9] rfl (b_L_law_219 C hr hk hX hbl hbA hA hkc hK92 z o1 x2 y3 x5 y6 x8 x9 x11 x12 s0 ho1 hres (q_t hf h))) (fun h => z_sub [0, 1, 2, 3, 4, 5, 6, 7, 8, 9] rfl (b_L_law_215 C hr hk hX hbl hbA hA hkc hK92 z o1 x2 y3 x5 y6 x8 x9 x11 x12 s0 ho1 hres (q_f hf h)))
def f_L_law_201 (xs : Nat → Int32) (L : Nat) (K92 : St → Nat → Int32 → Int64 → Int32 → Int64 → Int32 → Int32 → Option (St × Int32)) (z : St) (o1 : Nat) (x2 : Int32) (y3 : Int64) (x5 : Int32) (y6 : Int64) (x8 : Int32) (x9 : Int32) (x11 : Int32) (x12 : Int32) (s0 : Int32) : Option (St × Int32) :=
  if x5 ≤ x11 then f_L_law_219 xs L K92 z o1 x2 y3 x5 y6 x8 x9 x11 x12 s0 else f_L_law_208 xs L K92 z o1 x2 y3 x5 y6 x8 x9 x11 x12 s0
theorem b_L_law_201 {p : Program} {l : Launch} {e : Env} {s : State} {m : MethodId} {below : List Frame} {meth : Method} {c : Code} {b L : Nat} {xs : Nat → Int32} {kc : Nat × Nat} {g : Ga} {A : Nat → Prop} (C : Cx l g A p s m #[Value.ref b] c cL_law 16 RL room_1 kc) (hr : meth.sig.returnType = ret) (hk : meth.locks = false) (hX : va_X b L xs s s.heap) (hbl : b < s.heap.size) (hbA : ¬ A b) (hA : ∀ q, A q → s.heap.size ≤ q) (hkc : kc.1 ≤ 600000 ∧ kc.2 ≤ 7302249) {K92 : St → Nat → Int32 → Int64 → Int32 → Int64 → Int32 → Int32 → Option (St × Int32)} (hK92 : ∀ (z : St) (o1 : Nat) (x2 : Int32) (y3 : Int64) (x5 : Int32) (y6 : Int64) (x8 : Int32) (x9 : Int32) (_ : kd o1 = 10) {res : St × Int32} (_ : res.2 = 1), K92 z o1 x2 y3 x5 y6 x8 x9 = some res → Zj p l e room_1 s m #[Value.ref b] below meth c g A 16 kc (lw_Z below #[Value.ref b] s) z 92 [(0, .ref b), (1, .ref (g.1 o1)), (2, .int x2), (3, .long y3), (5, .int x5), (6, .long y6), (8, .int x8), (9, .int x9)] []) (z : St) (o1 : Nat) (x2 : Int32) (y3 : Int64) (x5 : Int32) (y6 : Int64) (x8 : Int32) (x9 : Int32) (x11 : Int32) (x12 : Int32) (s0 : Int32) (ho1 : kd o1 = 10) {res : St × Int32} (hres : res.2 = 1) (hf : f_L_law_201 xs L K92 z o1 x2 y3 x5 y6 x8 x9 x11 x12 s0 = some res) : Zj p l e room_1 s m #[Value.ref b] below meth c g A 16 kc (lw_Z below #[Value.ref b] s) z 201 [(0, .ref b), (1, .ref (g.1 o1)), (2, .int x2), (3, .long y3), (5, .int x5), (6, .long y6), (8, .int x8), (9, .int x9), (11, .int x11), (12, .int x12)] [.int s0] := by
  unfold f_L_law_201 at hf
  refine z_iload C dL_law_201 8 rfl ?_
  refine z_iload C dL_law_203 4 rfl ?_
  exact z_icmp_ge C dL_law_205 (by decide) (fun h => z_sub [0, 1, 2, 3, 4, 5, 6, 7, 8, 9] rfl (b_L_law_219 C hr hk hX hbl hbA hA hkc hK92 z o1 x2 y3 x5 y6 x8 x9 x11 x12 s0 ho1 hres (q_t hf h))) (fun h => z_sub [0, 1, 2, 3, 4, 5, 6, 7, 8, 9] rfl (b_L_law_208 C hr hk hX hbl hbA hA hkc hK92 z o1 x2 y3 x5 y6 x8 x9 x11 x12 s0 ho1 hres (q_f hf h)))
def f_L_law_196 (xs : Nat → Int32) (L : Nat) (K92 : St → Nat → Int32 → Int64 → Int32 → Int64 → Int32 → Int32 → Option (St × Int32)) (z : St) (o1 : Nat) (x2 : Int32) (y3 : Int64) (x5 : Int32) (y6 : Int64) (x8 : Int32) (x9 : Int32) (x11 : Int32) (x12 : Int32) : Option (St × Int32) :=
  f_L_law_201 xs L K92 z o1 x2 y3 x5 y6 x8 x9 x11 x12 1
theorem b_L_law_196 {p : Program} {l : Launch} {e : Env} {s : State} {m : MethodId} {below : List Frame} {meth : Method} {c : Code} {b L : Nat} {xs : Nat → Int32} {kc : Nat × Nat} {g : Ga} {A : Nat → Prop} (C : Cx l g A p s m #[Value.ref b] c cL_law 16 RL room_1 kc) (hr : meth.sig.returnType = ret) (hk : meth.locks = false) (hX : va_X b L xs s s.heap) (hbl : b < s.heap.size) (hbA : ¬ A b) (hA : ∀ q, A q → s.heap.size ≤ q) (hkc : kc.1 ≤ 600000 ∧ kc.2 ≤ 7302249) {K92 : St → Nat → Int32 → Int64 → Int32 → Int64 → Int32 → Int32 → Option (St × Int32)} (hK92 : ∀ (z : St) (o1 : Nat) (x2 : Int32) (y3 : Int64) (x5 : Int32) (y6 : Int64) (x8 : Int32) (x9 : Int32) (_ : kd o1 = 10) {res : St × Int32} (_ : res.2 = 1), K92 z o1 x2 y3 x5 y6 x8 x9 = some res → Zj p l e room_1 s m #[Value.ref b] below meth c g A 16 kc (lw_Z below #[Value.ref b] s) z 92 [(0, .ref b), (1, .ref (g.1 o1)), (2, .int x2), (3, .long y3), (5, .int x5), (6, .long y6), (8, .int x8), (9, .int x9)] []) (z : St) (o1 : Nat) (x2 : Int32) (y3 : Int64) (x5 : Int32) (y6 : Int64) (x8 : Int32) (x9 : Int32) (x11 : Int32) (x12 : Int32) (ho1 : kd o1 = 10) {res : St × Int32} (hres : res.2 = 1) (hf : f_L_law_196 xs L K92 z o1 x2 y3 x5 y6 x8 x9 x11 x12 = some res) : Zj p l e room_1 s m #[Value.ref b] below meth c g A 16 kc (lw_Z below #[Value.ref b] s) z 196 [(0, .ref b), (1, .ref (g.1 o1)), (2, .int x2), (3, .long y3), (5, .int x5), (6, .long y6), (8, .int x8), (9, .int x9), (11, .int x11), (12, .int x12)] [] := by
  unfold f_L_law_196 at hf
  refine z_iconst C dL_law_196 (v := 1) (by decide) ?_
  exact z_goto C dL_law_197 (by decide) (z_sub [0, 1, 2, 3, 4, 5, 6, 7, 8, 9] rfl (b_L_law_201 C hr hk hX hbl hbA hA hkc hK92 z o1 x2 y3 x5 y6 x8 x9 x11 x12 1 ho1 hres hf))
def f_L_law_200 (xs : Nat → Int32) (L : Nat) (K92 : St → Nat → Int32 → Int64 → Int32 → Int64 → Int32 → Int32 → Option (St × Int32)) (z : St) (o1 : Nat) (x2 : Int32) (y3 : Int64) (x5 : Int32) (y6 : Int64) (x8 : Int32) (x9 : Int32) (x11 : Int32) (x12 : Int32) : Option (St × Int32) :=
  f_L_law_201 xs L K92 z o1 x2 y3 x5 y6 x8 x9 x11 x12 0
theorem b_L_law_200 {p : Program} {l : Launch} {e : Env} {s : State} {m : MethodId} {below : List Frame} {meth : Method} {c : Code} {b L : Nat} {xs : Nat → Int32} {kc : Nat × Nat} {g : Ga} {A : Nat → Prop} (C : Cx l g A p s m #[Value.ref b] c cL_law 16 RL room_1 kc) (hr : meth.sig.returnType = ret) (hk : meth.locks = false) (hX : va_X b L xs s s.heap) (hbl : b < s.heap.size) (hbA : ¬ A b) (hA : ∀ q, A q → s.heap.size ≤ q) (hkc : kc.1 ≤ 600000 ∧ kc.2 ≤ 7302249) {K92 : St → Nat → Int32 → Int64 → Int32 → Int64 → Int32 → Int32 → Option (St × Int32)} (hK92 : ∀ (z : St) (o1 : Nat) (x2 : Int32) (y3 : Int64) (x5 : Int32) (y6 : Int64) (x8 : Int32) (x9 : Int32) (_ : kd o1 = 10) {res : St × Int32} (_ : res.2 = 1), K92 z o1 x2 y3 x5 y6 x8 x9 = some res → Zj p l e room_1 s m #[Value.ref b] below meth c g A 16 kc (lw_Z below #[Value.ref b] s) z 92 [(0, .ref b), (1, .ref (g.1 o1)), (2, .int x2), (3, .long y3), (5, .int x5), (6, .long y6), (8, .int x8), (9, .int x9)] []) (z : St) (o1 : Nat) (x2 : Int32) (y3 : Int64) (x5 : Int32) (y6 : Int64) (x8 : Int32) (x9 : Int32) (x11 : Int32) (x12 : Int32) (ho1 : kd o1 = 10) {res : St × Int32} (hres : res.2 = 1) (hf : f_L_law_200 xs L K92 z o1 x2 y3 x5 y6 x8 x9 x11 x12 = some res) : Zj p l e room_1 s m #[Value.ref b] below meth c g A 16 kc (lw_Z below #[Value.ref b] s) z 200 [(0, .ref b), (1, .ref (g.1 o1)), (2, .int x2), (3, .long y3), (5, .int x5), (6, .long y6), (8, .int x8), (9, .int x9), (11, .int x11), (12, .int x12)] [] := by
  unfold f_L_law_200 at hf
  refine z_iconst C dL_law_200 (v := 0) (by decide) ?_
  exact z_sub [0, 1, 2, 3, 4, 5, 6, 7, 8, 9] rfl (b_L_law_201 C hr hk hX hbl hbA hA hkc hK92 z o1 x2 y3 x5 y6 x8 x9 x11 x12 0 ho1 hres hf)
def f_L_law_186 (xs : Nat → Int32) (L : Nat) (K92 : St → Nat → Int32 → Int64 → Int32 → Int64 → Int32 → Int32 → Option (St × Int32)) (z : St) (o1 : Nat) (x2 : Int32) (y3 : Int64) (x5 : Int32) (y6 : Int64) (x8 : Int32) (x9 : Int32) (x10 : Int32) (x11 : Int32) (x12 : Int32) : Option (St × Int32) :=
  ((f_X10_bench z o1 1).bind fun r1 => if r1.2 = x10 then f_L_law_196 xs L K92 r1.1 o1 x2 y3 x5 y6 x8 x9 x11 x12 else f_L_law_200 xs L K92 r1.1 o1 x2 y3 x5 y6 x8 x9 x11 x12)
theorem b_L_law_186 {p : Program} {l : Launch} {e : Env} {s : State} {m : MethodId} {below : List Frame} {meth : Method} {c : Code} {b L : Nat} {xs : Nat → Int32} {kc : Nat × Nat} {g : Ga} {A : Nat → Prop} (C : Cx l g A p s m #[Value.ref b] c cL_law 16 RL room_1 kc) (hr : meth.sig.returnType = ret) (hk : meth.locks = false) (hX : va_X b L xs s s.heap) (hbl : b < s.heap.size) (hbA : ¬ A b) (hA : ∀ q, A q → s.heap.size ≤ q) (hkc : kc.1 ≤ 600000 ∧ kc.2 ≤ 7302249) {K92 : St → Nat → Int32 → Int64 → Int32 → Int64 → Int32 → Int32 → Option (St × Int32)} (hK92 : ∀ (z : St) (o1 : Nat) (x2 : Int32) (y3 : Int64) (x5 : Int32) (y6 : Int64) (x8 : Int32) (x9 : Int32) (_ : kd o1 = 10) {res : St × Int32} (_ : res.2 = 1), K92 z o1 x2 y3 x5 y6 x8 x9 = some res → Zj p l e room_1 s m #[Value.ref b] below meth c g A 16 kc (lw_Z below #[Value.ref b] s) z 92 [(0, .ref b), (1, .ref (g.1 o1)), (2, .int x2), (3, .long y3), (5, .int x5), (6, .long y6), (8, .int x8), (9, .int x9)] []) (z : St) (o1 : Nat) (x2 : Int32) (y3 : Int64) (x5 : Int32) (y6 : Int64) (x8 : Int32) (x9 : Int32) (x10 : Int32) (x11 : Int32) (x12 : Int32) (ho1 : kd o1 = 10) {res : St × Int32} (hres : res.2 = 1) (hf : f_L_law_186 xs L K92 z o1 x2 y3 x5 y6 x8 x9 x10 x11 x12 = some res) : Zj p l e room_1 s m #[Value.ref b] below meth c g A 16 kc (lw_Z below #[Value.ref b] s) z 186 [(0, .ref b), (1, .ref (g.1 o1)), (2, .int x2), (3, .long y3), (5, .int x5), (6, .long y6), (8, .int x8), (9, .int x9), (10, .int x10), (11, .int x11), (12, .int x12)] [] := by
  unfold f_L_law_186 at hf
  refine z_aload_n C dL_law_186 rfl 1 rfl ?_
  refine z_iconst C dL_law_187 (v := 1) (by decide) ?_
  obtain ⟨r1, hc2, hf⟩ := q_bd hf
  refine z_cVi C (st := []) (c_X10_bench ho1 hc2) mw_X10_bench ml_L_39 ho1 (by decide) rfl dL_law_188 rfl rfl rfl ⟨Nat.le_of_ble_eq_true rfl, Nat.le_of_ble_eq_true rfl⟩ rfl (Nat.le_of_ble_eq_true rfl) ?_
  refine z_iload C dL_law_191 8 rfl ?_
  exact z_icmp_ne C dL_law_193 (by decide) (fun h => z_sub [0, 1, 2, 3, 4, 5, 6, 7, 9, 10] rfl (b_L_law_200 C hr hk hX hbl hbA hA hkc hK92 r1.1 o1 x2 y3 x5 y6 x8 x9 x11 x12 ho1 hres (q_f hf h))) (fun h => z_sub [0, 1, 2, 3, 4, 5, 6, 7, 9, 10] rfl (b_L_law_196 C hr hk hX hbl hbA hA hkc hK92 r1.1 o1 x2 y3 x5 y6 x8 x9 x11 x12 ho1 hres (q_t hf h)))
def f_L_law_183 (xs : Nat → Int32) (L : Nat) (K92 : St → Nat → Int32 → Int64 → Int32 → Int64 → Int32 → Int32 → Option (St × Int32)) (z : St) (o1 : Nat) (x2 : Int32) (y3 : Int64) (x5 : Int32) (y6 : Int64) (x8 : Int32) (x9 : Int32) (x10 : Int32) (x11 : Int32) (x12 : Int32) (s0 : Int32) (s1 : Int32) : Option (St × Int32) :=
  if s0 = s1 then f_L_law_186 xs L K92 z o1 x2 y3 x5 y6 x8 x9 x10 x11 x12 else f_L_law_223 xs L z
theorem b_L_law_183 {p : Program} {l : Launch} {e : Env} {s : State} {m : MethodId} {below : List Frame} {meth : Method} {c : Code} {b L : Nat} {xs : Nat → Int32} {kc : Nat × Nat} {g : Ga} {A : Nat → Prop} (C : Cx l g A p s m #[Value.ref b] c cL_law 16 RL room_1 kc) (hr : meth.sig.returnType = ret) (hk : meth.locks = false) (hX : va_X b L xs s s.heap) (hbl : b < s.heap.size) (hbA : ¬ A b) (hA : ∀ q, A q → s.heap.size ≤ q) (hkc : kc.1 ≤ 600000 ∧ kc.2 ≤ 7302249) {K92 : St → Nat → Int32 → Int64 → Int32 → Int64 → Int32 → Int32 → Option (St × Int32)} (hK92 : ∀ (z : St) (o1 : Nat) (x2 : Int32) (y3 : Int64) (x5 : Int32) (y6 : Int64) (x8 : Int32) (x9 : Int32) (_ : kd o1 = 10) {res : St × Int32} (_ : res.2 = 1), K92 z o1 x2 y3 x5 y6 x8 x9 = some res → Zj p l e room_1 s m #[Value.ref b] below meth c g A 16 kc (lw_Z below #[Value.ref b] s) z 92 [(0, .ref b), (1, .ref (g.1 o1)), (2, .int x2), (3, .long y3), (5, .int x5), (6, .long y6), (8, .int x8), (9, .int x9)] []) (z : St) (o1 : Nat) (x2 : Int32) (y3 : Int64) (x5 : Int32) (y6 : Int64) (x8 : Int32) (x9 : Int32) (x10 : Int32) (x11 : Int32) (x12 : Int32) (s0 : Int32) (s1 : Int32) (ho1 : kd o1 = 10) {res : St × Int32} (hres : res.2 = 1) (hf : f_L_law_183 xs L K92 z o1 x2 y3 x5 y6 x8 x9 x10 x11 x12 s0 s1 = some res) : Zj p l e room_1 s m #[Value.ref b] below meth c g A 16 kc (lw_Z below #[Value.ref b] s) z 183 [(0, .ref b), (1, .ref (g.1 o1)), (2, .int x2), (3, .long y3), (5, .int x5), (6, .long y6), (8, .int x8), (9, .int x9), (10, .int x10), (11, .int x11), (12, .int x12)] [.int s1, .int s0] := by
  unfold f_L_law_183 at hf
  exact z_icmp_ne C dL_law_183 (by decide) (fun h => z_sub [] rfl (b_L_law_223 C hr hk hX hbl hbA hA hkc z hres (q_f hf h))) (fun h => z_sub [0, 1, 2, 3, 4, 5, 6, 7, 8, 9, 10] rfl (b_L_law_186 C hr hk hX hbl hbA hA hkc hK92 z o1 x2 y3 x5 y6 x8 x9 x10 x11 x12 ho1 hres (q_t hf h)))
def f_L_law_178 (xs : Nat → Int32) (L : Nat) (K92 : St → Nat → Int32 → Int64 → Int32 → Int64 → Int32 → Int32 → Option (St × Int32)) (z : St) (o1 : Nat) (x2 : Int32) (y3 : Int64) (x5 : Int32) (y6 : Int64) (x8 : Int32) (x9 : Int32) (x10 : Int32) (x11 : Int32) (x12 : Int32) (s0 : Int32) : Option (St × Int32) :=
  f_L_law_183 xs L K92 z o1 x2 y3 x5 y6 x8 x9 x10 x11 x12 s0 1
theorem b_L_law_178 {p : Program} {l : Launch} {e : Env} {s : State} {m : MethodId} {below : List Frame} {meth : Method} {c : Code} {b L : Nat} {xs : Nat → Int32} {kc : Nat × Nat} {g : Ga} {A : Nat → Prop} (C : Cx l g A p s m #[Value.ref b] c cL_law 16 RL room_1 kc) (hr : meth.sig.returnType = ret) (hk : meth.locks = false) (hX : va_X b L xs s s.heap) (hbl : b < s.heap.size) (hbA : ¬ A b) (hA : ∀ q, A q → s.heap.size ≤ q) (hkc : kc.1 ≤ 600000 ∧ kc.2 ≤ 7302249) {K92 : St → Nat → Int32 → Int64 → Int32 → Int64 → Int32 → Int32 → Option (St × Int32)} (hK92 : ∀ (z : St) (o1 : Nat) (x2 : Int32) (y3 : Int64) (x5 : Int32) (y6 : Int64) (x8 : Int32) (x9 : Int32) (_ : kd o1 = 10) {res : St × Int32} (_ : res.2 = 1), K92 z o1 x2 y3 x5 y6 x8 x9 = some res → Zj p l e room_1 s m #[Value.ref b] below meth c g A 16 kc (lw_Z below #[Value.ref b] s) z 92 [(0, .ref b), (1, .ref (g.1 o1)), (2, .int x2), (3, .long y3), (5, .int x5), (6, .long y6), (8, .int x8), (9, .int x9)] []) (z : St) (o1 : Nat) (x2 : Int32) (y3 : Int64) (x5 : Int32) (y6 : Int64) (x8 : Int32) (x9 : Int32) (x10 : Int32) (x11 : Int32) (x12 : Int32) (s0 : Int32) (ho1 : kd o1 = 10) {res : St × Int32} (hres : res.2 = 1) (hf : f_L_law_178 xs L K92 z o1 x2 y3 x5 y6 x8 x9 x10 x11 x12 s0 = some res) : Zj p l e room_1 s m #[Value.ref b] below meth c g A 16 kc (lw_Z below #[Value.ref b] s) z 178 [(0, .ref b), (1, .ref (g.1 o1)), (2, .int x2), (3, .long y3), (5, .int x5), (6, .long y6), (8, .int x8), (9, .int x9), (10, .int x10), (11, .int x11), (12, .int x12)] [.int s0] := by
  unfold f_L_law_178 at hf
  refine z_iconst C dL_law_178 (v := 1) (by decide) ?_
  exact z_goto C dL_law_179 (by decide) (z_sub [0, 1, 2, 3, 4, 5, 6, 7, 8, 9, 10] rfl (b_L_law_183 C hr hk hX hbl hbA hA hkc hK92 z o1 x2 y3 x5 y6 x8 x9 x10 x11 x12 s0 1 ho1 hres hf))
def f_L_law_182 (xs : Nat → Int32) (L : Nat) (K92 : St → Nat → Int32 → Int64 → Int32 → Int64 → Int32 → Int32 → Option (St × Int32)) (z : St) (o1 : Nat) (x2 : Int32) (y3 : Int64) (x5 : Int32) (y6 : Int64) (x8 : Int32) (x9 : Int32) (x10 : Int32) (x11 : Int32) (x12 : Int32) (s0 : Int32) : Option (St × Int32) :=
  f_L_law_183 xs L K92 z o1 x2 y3 x5 y6 x8 x9 x10 x11 x12 s0 0
theorem b_L_law_182 {p : Program} {l : Launch} {e : Env} {s : State} {m : MethodId} {below : List Frame} {meth : Method} {c : Code} {b L : Nat} {xs : Nat → Int32} {kc : Nat × Nat} {g : Ga} {A : Nat → Prop} (C : Cx l g A p s m #[Value.ref b] c cL_law 16 RL room_1 kc) (hr : meth.sig.returnType = ret) (hk : meth.locks = false) (hX : va_X b L xs s s.heap) (hbl : b < s.heap.size) (hbA : ¬ A b) (hA : ∀ q, A q → s.heap.size ≤ q) (hkc : kc.1 ≤ 600000 ∧ kc.2 ≤ 7302249) {K92 : St → Nat → Int32 → Int64 → Int32 → Int64 → Int32 → Int32 → Option (St × Int32)} (hK92 : ∀ (z : St) (o1 : Nat) (x2 : Int32) (y3 : Int64) (x5 : Int32) (y6 : Int64) (x8 : Int32) (x9 : Int32) (_ : kd o1 = 10) {res : St × Int32} (_ : res.2 = 1), K92 z o1 x2 y3 x5 y6 x8 x9 = some res → Zj p l e room_1 s m #[Value.ref b] below meth c g A 16 kc (lw_Z below #[Value.ref b] s) z 92 [(0, .ref b), (1, .ref (g.1 o1)), (2, .int x2), (3, .long y3), (5, .int x5), (6, .long y6), (8, .int x8), (9, .int x9)] []) (z : St) (o1 : Nat) (x2 : Int32) (y3 : Int64) (x5 : Int32) (y6 : Int64) (x8 : Int32) (x9 : Int32) (x10 : Int32) (x11 : Int32) (x12 : Int32) (s0 : Int32) (ho1 : kd o1 = 10) {res : St × Int32} (hres : res.2 = 1) (hf : f_L_law_182 xs L K92 z o1 x2 y3 x5 y6 x8 x9 x10 x11 x12 s0 = some res) : Zj p l e room_1 s m #[Value.ref b] below meth c g A 16 kc (lw_Z below #[Value.ref b] s) z 182 [(0, .ref b), (1, .ref (g.1 o1)), (2, .int x2), (3, .long y3), (5, .int x5), (6, .long y6), (8, .int x8), (9, .int x9), (10, .int x10), (11, .int x11), (12, .int x12)] [.int s0] := by
  unfold f_L_law_182 at hf
  refine z_iconst C dL_law_182 (v := 0) (by decide) ?_
  exact z_sub [0, 1, 2, 3, 4, 5, 6, 7, 8, 9, 10] rfl (b_L_law_183 C hr hk hX hbl hbA hA hkc hK92 z o1 x2 y3 x5 y6 x8 x9 x10 x11 x12 s0 0 ho1 hres hf)
def f_L_law_171 (xs : Nat → Int32) (L : Nat) (K92 : St → Nat → Int32 → Int64 → Int32 → Int64 → Int32 → Int32 → Option (St × Int32)) (z : St) (o1 : Nat) (x2 : Int32) (y3 : Int64) (x5 : Int32) (y6 : Int64) (x8 : Int32) (x9 : Int32) (x10 : Int32) (x11 : Int32) (x12 : Int32) (s0 : Int32) : Option (St × Int32) :=
  if x5 < x12 then f_L_law_182 xs L K92 z o1 x2 y3 x5 y6 x8 x9 x10 x11 x12 s0 else f_L_law_178 xs L K92 z o1 x2 y3 x5 y6 x8 x9 x10 x11 x12 s0
theorem b_L_law_171 {p : Program} {l : Launch} {e : Env} {s : State} {m : MethodId} {below : List Frame} {meth : Method} {c : Code} {b L : Nat} {xs : Nat → Int32} {kc : Nat × Nat} {g : Ga} {A : Nat → Prop} (C : Cx l g A p s m #[Value.ref b] c cL_law 16 RL room_1 kc) (hr : meth.sig.returnType = ret) (hk : meth.locks = false) (hX : va_X b L xs s s.heap) (hbl : b < s.heap.size) (hbA : ¬ A b) (hA : ∀ q, A q → s.heap.size ≤ q) (hkc : kc.1 ≤ 600000 ∧ kc.2 ≤ 7302249) {K92 : St → Nat → Int32 → Int64 → Int32 → Int64 → Int32 → Int32 → Option (St × Int32)} (hK92 : ∀ (z : St) (o1 : Nat) (x2 : Int32) (y3 : Int64) (x5 : Int32) (y6 : Int64) (x8 : Int32) (x9 : Int32) (_ : kd o1 = 10) {res : St × Int32} (_ : res.2 = 1), K92 z o1 x2 y3 x5 y6 x8 x9 = some res → Zj p l e room_1 s m #[Value.ref b] below meth c g A 16 kc (lw_Z below #[Value.ref b] s) z 92 [(0, .ref b), (1, .ref (g.1 o1)), (2, .int x2), (3, .long y3), (5, .int x5), (6, .long y6), (8, .int x8), (9, .int x9)] []) (z : St) (o1 : Nat) (x2 : Int32) (y3 : Int64) (x5 : Int32) (y6 : Int64) (x8 : Int32) (x9 : Int32) (x10 : Int32) (x11 : Int32) (x12 : Int32) (s0 : Int32) (ho1 : kd o1 = 10) {res : St × Int32} (hres : res.2 = 1) (hf : f_L_law_171 xs L K92 z o1 x2 y3 x5 y6 x8 x9 x10 x11 x12 s0 = some res) : Zj p l e room_1 s m #[Value.ref b] below meth c g A 16 kc (lw_Z below #[Value.ref b] s) z 171 [(0, .ref b), (1, .ref (g.1 o1)), (2, .int x2), (3, .long y3), (5, .int x5), (6, .long y6), (8, .int x8), (9, .int x9), (10, .int x10), (11, .int x11), (12, .int x12)] [.int s0] := by
  unfold f_L_law_171 at hf
  refine z_iload C dL_law_171 10 rfl ?_
  refine z_iload C dL_law_173 4 rfl ?_
  exact z_icmp_gt C dL_law_175 (by decide) (fun h => z_sub [0, 1, 2, 3, 4, 5, 6, 7, 8, 9, 10] rfl (b_L_law_182 C hr hk hX hbl hbA hA hkc hK92 z o1 x2 y3 x5 y6 x8 x9 x10 x11 x12 s0 ho1 hres (q_t hf h))) (fun h => z_sub [0, 1, 2, 3, 4, 5, 6, 7, 8, 9, 10] rfl (b_L_law_178 C hr hk hX hbl hbA hA hkc hK92 z o1 x2 y3 x5 y6 x8 x9 x10 x11 x12 s0 ho1 hres (q_f hf h)))
def f_L_law_166 (xs : Nat → Int32) (L : Nat) (K92 : St → Nat → Int32 → Int64 → Int32 → Int64 → Int32 → Int32 → Option (St × Int32)) (z : St) (o1 : Nat) (x2 : Int32) (y3 : Int64) (x5 : Int32) (y6 : Int64) (x8 : Int32) (x9 : Int32) (x10 : Int32) (x11 : Int32) (x12 : Int32) : Option (St × Int32) :=
  f_L_law_171 xs L K92 z o1 x2 y3 x5 y6 x8 x9 x10 x11 x12 1
theorem b_L_law_166 {p : Program} {l : Launch} {e : Env} {s : State} {m : MethodId} {below : List Frame} {meth : Method} {c : Code} {b L : Nat} {xs : Nat → Int32} {kc : Nat × Nat} {g : Ga} {A : Nat → Prop} (C : Cx l g A p s m #[Value.ref b] c cL_law 16 RL room_1 kc) (hr : meth.sig.returnType = ret) (hk : meth.locks = false) (hX : va_X b L xs s s.heap) (hbl : b < s.heap.size) (hbA : ¬ A b) (hA : ∀ q, A q → s.heap.size ≤ q) (hkc : kc.1 ≤ 600000 ∧ kc.2 ≤ 7302249) {K92 : St → Nat → Int32 → Int64 → Int32 → Int64 → Int32 → Int32 → Option (St × Int32)} (hK92 : ∀ (z : St) (o1 : Nat) (x2 : Int32) (y3 : Int64) (x5 : Int32) (y6 : Int64) (x8 : Int32) (x9 : Int32) (_ : kd o1 = 10) {res : St × Int32} (_ : res.2 = 1), K92 z o1 x2 y3 x5 y6 x8 x9 = some res → Zj p l e room_1 s m #[Value.ref b] below meth c g A 16 kc (lw_Z below #[Value.ref b] s) z 92 [(0, .ref b), (1, .ref (g.1 o1)), (2, .int x2), (3, .long y3), (5, .int x5), (6, .long y6), (8, .int x8), (9, .int x9)] []) (z : St) (o1 : Nat) (x2 : Int32) (y3 : Int64) (x5 : Int32) (y6 : Int64) (x8 : Int32) (x9 : Int32) (x10 : Int32) (x11 : Int32) (x12 : Int32) (ho1 : kd o1 = 10) {res : St × Int32} (hres : res.2 = 1) (hf : f_L_law_166 xs L K92 z o1 x2 y3 x5 y6 x8 x9 x10 x11 x12 = some res) : Zj p l e room_1 s m #[Value.ref b] below meth c g A 16 kc (lw_Z below #[Value.ref b] s) z 166 [(0, .ref b), (1, .ref (g.1 o1)), (2, .int x2), (3, .long y3), (5, .int x5), (6, .long y6), (8, .int x8), (9, .int x9), (10, .int x10), (11, .int x11), (12, .int x12)] [] := by
  unfold f_L_law_166 at hf
  refine z_iconst C dL_law_166 (v := 1) (by decide) ?_
  exact z_goto C dL_law_167 (by decide) (z_sub [0, 1, 2, 3, 4, 5, 6, 7, 8, 9, 10] rfl (b_L_law_171 C hr hk hX hbl hbA hA hkc hK92 z o1 x2 y3 x5 y6 x8 x9 x10 x11 x12 1 ho1 hres hf))
def f_L_law_170 (xs : Nat → Int32) (L : Nat) (K92 : St → Nat → Int32 → Int64 → Int32 → Int64 → Int32 → Int32 → Option (St × Int32)) (z : St) (o1 : Nat) (x2 : Int32) (y3 : Int64) (x5 : Int32) (y6 : Int64) (x8 : Int32) (x9 : Int32) (x10 : Int32) (x11 : Int32) (x12 : Int32) : Option (St × Int32) :=
  f_L_law_171 xs L K92 z o1 x2 y3 x5 y6 x8 x9 x10 x11 x12 0
theorem b_L_law_170 {p : Program} {l : Launch} {e : Env} {s : State} {m : MethodId} {below : List Frame} {meth : Method} {c : Code} {b L : Nat} {xs : Nat → Int32} {kc : Nat × Nat} {g : Ga} {A : Nat → Prop} (C : Cx l g A p s m #[Value.ref b] c cL_law 16 RL room_1 kc) (hr : meth.sig.returnType = ret) (hk : meth.locks = false) (hX : va_X b L xs s s.heap) (hbl : b < s.heap.size) (hbA : ¬ A b) (hA : ∀ q, A q → s.heap.size ≤ q) (hkc : kc.1 ≤ 600000 ∧ kc.2 ≤ 7302249) {K92 : St → Nat → Int32 → Int64 → Int32 → Int64 → Int32 → Int32 → Option (St × Int32)} (hK92 : ∀ (z : St) (o1 : Nat) (x2 : Int32) (y3 : Int64) (x5 : Int32) (y6 : Int64) (x8 : Int32) (x9 : Int32) (_ : kd o1 = 10) {res : St × Int32} (_ : res.2 = 1), K92 z o1 x2 y3 x5 y6 x8 x9 = some res → Zj p l e room_1 s m #[Value.ref b] below meth c g A 16 kc (lw_Z below #[Value.ref b] s) z 92 [(0, .ref b), (1, .ref (g.1 o1)), (2, .int x2), (3, .long y3), (5, .int x5), (6, .long y6), (8, .int x8), (9, .int x9)] []) (z : St) (o1 : Nat) (x2 : Int32) (y3 : Int64) (x5 : Int32) (y6 : Int64) (x8 : Int32) (x9 : Int32) (x10 : Int32) (x11 : Int32) (x12 : Int32) (ho1 : kd o1 = 10) {res : St × Int32} (hres : res.2 = 1) (hf : f_L_law_170 xs L K92 z o1 x2 y3 x5 y6 x8 x9 x10 x11 x12 = some res) : Zj p l e room_1 s m #[Value.ref b] below meth c g A 16 kc (lw_Z below #[Value.ref b] s) z 170 [(0, .ref b), (1, .ref (g.1 o1)), (2, .int x2), (3, .long y3), (5, .int x5), (6, .long y6), (8, .int x8), (9, .int x9), (10, .int x10), (11, .int x11), (12, .int x12)] [] := by
  unfold f_L_law_170 at hf
  refine z_iconst C dL_law_170 (v := 0) (by decide) ?_
  exact z_sub [0, 1, 2, 3, 4, 5, 6, 7, 8, 9, 10] rfl (b_L_law_171 C hr hk hX hbl hbA hA hkc hK92 z o1 x2 y3 x5 y6 x8 x9 x10 x11 x12 0 ho1 hres hf)
def f_L_law_152 (xs : Nat → Int32) (L : Nat) (K92 : St → Nat → Int32 → Int64 → Int32 → Int64 → Int32 → Int32 → Option (St × Int32)) (z : St) (o1 : Nat) (x2 : Int32) (y3 : Int64) (x5 : Int32) (y6 : Int64) (x8 : Int32) (x9 : Int32) (x10 : Int32) (x11 : Int32) (x12 : Int32) : Option (St × Int32) :=
  ((f_X10_bench z o1 2).bind fun r1 => if ((r1.2 >>> (x10 &&& 31)) &&& 1) = 1 then f_L_law_166 xs L K92 r1.1 o1 x2 y3 x5 y6 x8 x9 x10 x11 x12 else f_L_law_170 xs L K92 r1.1 o1 x2 y3 x5 y6 x8 x9 x10 x11 x12)
theorem b_L_law_152 {p : Program} {l : Launch} {e : Env} {s : State} {m : MethodId} {below : List Frame} {meth : Method} {c : Code} {b L : Nat} {xs : Nat → Int32} {kc : Nat × Nat} {g : Ga} {A : Nat → Prop} (C : Cx l g A p s m #[Value.ref b] c cL_law 16 RL room_1 kc) (hr : meth.sig.returnType = ret) (hk : meth.locks = false) (hX : va_X b L xs s s.heap) (hbl : b < s.heap.size) (hbA : ¬ A b) (hA : ∀ q, A q → s.heap.size ≤ q) (hkc : kc.1 ≤ 600000 ∧ kc.2 ≤ 7302249) {K92 : St → Nat → Int32 → Int64 → Int32 → Int64 → Int32 → Int32 → Option (St × Int32)} (hK92 : ∀ (z : St) (o1 : Nat) (x2 : Int32) (y3 : Int64) (x5 : Int32) (y6 : Int64) (x8 : Int32) (x9 : Int32) (_ : kd o1 = 10) {res : St × Int32} (_ : res.2 = 1), K92 z o1 x2 y3 x5 y6 x8 x9 = some res → Zj p l e room_1 s m #[Value.ref b] below meth c g A 16 kc (lw_Z below #[Value.ref b] s) z 92 [(0, .ref b), (1, .ref (g.1 o1)), (2, .int x2), (3, .long y3), (5, .int x5), (6, .long y6), (8, .int x8), (9, .int x9)] []) (z : St) (o1 : Nat) (x2 : Int32) (y3 : Int64) (x5 : Int32) (y6 : Int64) (x8 : Int32) (x9 : Int32) (x10 : Int32) (x11 : Int32) (x12 : Int32) (ho1 : kd o1 = 10) {res : St × Int32} (hres : res.2 = 1) (hf : f_L_law_152 xs L K92 z o1 x2 y3 x5 y6 x8 x9 x10 x11 x12 = some res) : Zj p l e room_1 s m #[Value.ref b] below meth c g A 16 kc (lw_Z below #[Value.ref b] s) z 152 [(0, .ref b), (1, .ref (g.1 o1)), (2, .int x2), (3, .long y3), (5, .int x5), (6, .long y6), (8, .int x8), (9, .int x9), (10, .int x10), (11, .int x11), (12, .int x12)] [] := by
  unfold f_L_law_152 at hf
  refine z_aload_n C dL_law_152 rfl 1 rfl ?_
  refine z_iconst C dL_law_153 (v := 2) (by decide) ?_
  obtain ⟨r1, hc2, hf⟩ := q_bd hf
  refine z_cVi C (st := []) (c_X10_bench ho1 hc2) mw_X10_bench ml_L_39 ho1 (by decide) rfl dL_law_154 rfl rfl rfl ⟨Nat.le_of_ble_eq_true rfl, Nat.le_of_ble_eq_true rfl⟩ rfl (Nat.le_of_ble_eq_true rfl) ?_
  refine z_iload C dL_law_157 8 rfl ?_
  refine z_ishr C dL_law_159 ?_
  refine z_iconst C dL_law_160 (v := 1) (by decide) ?_
  refine z_iand C dL_law_161 ?_
  refine z_iconst C dL_law_162 (v := 1) (by decide) ?_
  exact z_icmp_ne C dL_law_163 (by decide) (fun h => z_sub [0, 1, 2, 3, 4, 5, 6, 7, 8, 9, 10] rfl (b_L_law_170 C hr hk hX hbl hbA hA hkc hK92 r1.1 o1 x2 y3 x5 y6 x8 x9 x10 x11 x12 ho1 hres (q_f hf h))) (fun h => z_sub [0, 1, 2, 3, 4, 5, 6, 7, 8, 9, 10] rfl (b_L_law_166 C hr hk hX hbl hbA hA hkc hK92 r1.1 o1 x2 y3 x5 y6 x8 x9 x10 x11 x12 ho1 hres (q_t hf h)))
def f_L_law_147 (xs : Nat → Int32) (L : Nat) (K92 : St → Nat → Int32 → Int64 → Int32 → Int64 → Int32 → Int32 → Option (St × Int32)) (z : St) (o1 : Nat) (x2 : Int32) (y3 : Int64) (x5 : Int32) (y6 : Int64) (x8 : Int32) (x9 : Int32) (x10 : Int32) (x11 : Int32) (x12 : Int32) (s0 : Int32) (s1 : Int32) : Option (St × Int32) :=
  if s0 = s1 then f_L_law_152 xs L K92 z o1 x2 y3 x5 y6 x8 x9 x10 x11 x12 else f_L_law_150 xs L z
theorem b_L_law_147 {p : Program} {l : Launch} {e : Env} {s : State} {m : MethodId} {below : List Frame} {meth : Method} {c : Code} {b L : Nat} {xs : Nat → Int32} {kc : Nat × Nat} {g : Ga} {A : Nat → Prop} (C : Cx l g A p s m #[Value.ref b] c cL_law 16 RL room_1 kc) (hr : meth.sig.returnType = ret) (hk : meth.locks = false) (hX : va_X b L xs s s.heap) (hbl : b < s.heap.size) (hbA : ¬ A b) (hA : ∀ q, A q → s.heap.size ≤ q) (hkc : kc.1 ≤ 600000 ∧ kc.2 ≤ 7302249) {K92 : St → Nat → Int32 → Int64 → Int32 → Int64 → Int32 → Int32 → Option (St × Int32)} (hK92 : ∀ (z : St) (o1 : Nat) (x2 : Int32) (y3 : Int64) (x5 : Int32) (y6 : Int64) (x8 : Int32) (x9 : Int32) (_ : kd o1 = 10) {res : St × Int32} (_ : res.2 = 1), K92 z o1 x2 y3 x5 y6 x8 x9 = some res → Zj p l e room_1 s m #[Value.ref b] below meth c g A 16 kc (lw_Z below #[Value.ref b] s) z 92 [(0, .ref b), (1, .ref (g.1 o1)), (2, .int x2), (3, .long y3), (5, .int x5), (6, .long y6), (8, .int x8), (9, .int x9)] []) (z : St) (o1 : Nat) (x2 : Int32) (y3 : Int64) (x5 : Int32) (y6 : Int64) (x8 : Int32) (x9 : Int32) (x10 : Int32) (x11 : Int32) (x12 : Int32) (s0 : Int32) (s1 : Int32) (ho1 : kd o1 = 10) {res : St × Int32} (hres : res.2 = 1) (hf : f_L_law_147 xs L K92 z o1 x2 y3 x5 y6 x8 x9 x10 x11 x12 s0 s1 = some res) : Zj p l e room_1 s m #[Value.ref b] below meth c g A 16 kc (lw_Z below #[Value.ref b] s) z 147 [(0, .ref b), (1, .ref (g.1 o1)), (2, .int x2), (3, .long y3), (5, .int x5), (6, .long y6), (8, .int x8), (9, .int x9), (10, .int x10), (11, .int x11), (12, .int x12)] [.int s1, .int s0] := by
  unfold f_L_law_147 at hf
  exact z_icmp_eq C dL_law_147 (by decide) (fun h => z_sub [0, 1, 2, 3, 4, 5, 6, 7, 8, 9, 10] rfl (b_L_law_152 C hr hk hX hbl hbA hA hkc hK92 z o1 x2 y3 x5 y6 x8 x9 x10 x11 x12 ho1 hres (q_t hf h))) (fun h => z_sub [] rfl (b_L_law_150 C hr hk hX hbl hbA hA hkc z hres (q_f hf h)))
def f_L_law_141 (xs : Nat → Int32) (L : Nat) (K92 : St → Nat → Int32 → Int64 → Int32 → Int64 → Int32 → Int32 → Option (St × Int32)) (z : St) (o1 : Nat) (x2 : Int32) (y3 : Int64) (x5 : Int32) (y6 : Int64) (x8 : Int32) (x9 : Int32) (x10 : Int32) (x11 : Int32) (x12 : Int32) (s0 : Int32) : Option (St × Int32) :=
  f_L_law_147 xs L K92 z o1 x2 y3 x5 y6 x8 x9 x10 x11 x12 s0 x11
theorem b_L_law_141 {p : Program} {l : Launch} {e : Env} {s : State} {m : MethodId} {below : List Frame} {meth : Method} {c : Code} {b L : Nat} {xs : Nat → Int32} {kc : Nat × Nat} {g : Ga} {A : Nat → Prop} (C : Cx l g A p s m #[Value.ref b] c cL_law 16 RL room_1 kc) (hr : meth.sig.returnType = ret) (hk : meth.locks = false) (hX : va_X b L xs s s.heap) (hbl : b < s.heap.size) (hbA : ¬ A b) (hA : ∀ q, A q → s.heap.size ≤ q) (hkc : kc.1 ≤ 600000 ∧ kc.2 ≤ 7302249) {K92 : St → Nat → Int32 → Int64 → Int32 → Int64 → Int32 → Int32 → Option (St × Int32)} (hK92 : ∀ (z : St) (o1 : Nat) (x2 : Int32) (y3 : Int64) (x5 : Int32) (y6 : Int64) (x8 : Int32) (x9 : Int32) (_ : kd o1 = 10) {res : St × Int32} (_ : res.2 = 1), K92 z o1 x2 y3 x5 y6 x8 x9 = some res → Zj p l e room_1 s m #[Value.ref b] below meth c g A 16 kc (lw_Z below #[Value.ref b] s) z 92 [(0, .ref b), (1, .ref (g.1 o1)), (2, .int x2), (3, .long y3), (5, .int x5), (6, .long y6), (8, .int x8), (9, .int x9)] []) (z : St) (o1 : Nat) (x2 : Int32) (y3 : Int64) (x5 : Int32) (y6 : Int64) (x8 : Int32) (x9 : Int32) (x10 : Int32) (x11 : Int32) (x12 : Int32) (s0 : Int32) (ho1 : kd o1 = 10) {res : St × Int32} (hres : res.2 = 1) (hf : f_L_law_141 xs L K92 z o1 x2 y3 x5 y6 x8 x9 x10 x11 x12 s0 = some res) : Zj p l e room_1 s m #[Value.ref b] below meth c g A 16 kc (lw_Z below #[Value.ref b] s) z 141 [(0, .ref b), (1, .ref (g.1 o1)), (2, .int x2), (3, .long y3), (5, .int x5), (6, .long y6), (8, .int x8), (9, .int x9), (10, .int x10), (11, .int x11), (12, .int x12)] [.int s0] := by
  unfold f_L_law_141 at hf
  refine z_iload C dL_law_141 9 rfl ?_
  exact z_goto C dL_law_143 (by decide) (z_sub [0, 1, 2, 3, 4, 5, 6, 7, 8, 9, 10] rfl (b_L_law_147 C hr hk hX hbl hbA hA hkc hK92 z o1 x2 y3 x5 y6 x8 x9 x10 x11 x12 s0 x11 ho1 hres hf))
def f_L_law_146 (xs : Nat → Int32) (L : Nat) (K92 : St → Nat → Int32 → Int64 → Int32 → Int64 → Int32 → Int32 → Option (St × Int32)) (z : St) (o1 : Nat) (x2 : Int32) (y3 : Int64) (x5 : Int32) (y6 : Int64) (x8 : Int32) (x9 : Int32) (x10 : Int32) (x11 : Int32) (x12 : Int32) (s0 : Int32) : Option (St × Int32) :=
  f_L_law_147 xs L K92 z o1 x2 y3 x5 y6 x8 x9 x10 x11 x12 s0 ((-1))
theorem b_L_law_146 {p : Program} {l : Launch} {e : Env} {s : State} {m : MethodId} {below : List Frame} {meth : Method} {c : Code} {b L : Nat} {xs : Nat → Int32} {kc : Nat × Nat} {g : Ga} {A : Nat → Prop} (C : Cx l g A p s m #[Value.ref b] c cL_law 16 RL room_1 kc) (hr : meth.sig.returnType = ret) (hk : meth.locks = false) (hX : va_X b L xs s s.heap) (hbl : b < s.heap.size) (hbA : ¬ A b) (hA : ∀ q, A q → s.heap.size ≤ q) (hkc : kc.1 ≤ 600000 ∧ kc.2 ≤ 7302249) {K92 : St → Nat → Int32 → Int64 → Int32 → Int64 → Int32 → Int32 → Option (St × Int32)} (hK92 : ∀ (z : St) (o1 : Nat) (x2 : Int32) (y3 : Int64) (x5 : Int32) (y6 : Int64) (x8 : Int32) (x9 : Int32) (_ : kd o1 = 10) {res : St × Int32} (_ : res.2 = 1), K92 z o1 x2 y3 x5 y6 x8 x9 = some res → Zj p l e room_1 s m #[Value.ref b] below meth c g A 16 kc (lw_Z below #[Value.ref b] s) z 92 [(0, .ref b), (1, .ref (g.1 o1)), (2, .int x2), (3, .long y3), (5, .int x5), (6, .long y6), (8, .int x8), (9, .int x9)] []) (z : St) (o1 : Nat) (x2 : Int32) (y3 : Int64) (x5 : Int32) (y6 : Int64) (x8 : Int32) (x9 : Int32) (x10 : Int32) (x11 : Int32) (x12 : Int32) (s0 : Int32) (ho1 : kd o1 = 10) {res : St × Int32} (hres : res.2 = 1) (hf : f_L_law_146 xs L K92 z o1 x2 y3 x5 y6 x8 x9 x10 x11 x12 s0 = some res) : Zj p l e room_1 s m #[Value.ref b] below meth c g A 16 kc (lw_Z below #[Value.ref b] s) z 146 [(0, .ref b), (1, .ref (g.1 o1)), (2, .int x2), (3, .long y3), (5, .int x5), (6, .long y6), (8, .int x8), (9, .int x9), (10, .int x10), (11, .int x11), (12, .int x12)] [.int s0] := by
  unfold f_L_law_146 at hf
  refine z_iconst C dL_law_146 (v := (-1)) (by decide) ?_
  exact z_sub [0, 1, 2, 3, 4, 5, 6, 7, 8, 9, 10] rfl (b_L_law_147 C hr hk hX hbl hbA hA hkc hK92 z o1 x2 y3 x5 y6 x8 x9 x10 x11 x12 s0 ((-1)) ho1 hres hf)
def f_L_law_98 (xs : Nat → Int32) (L : Nat) (K92 : St → Nat → Int32 → Int64 → Int32 → Int64 → Int32 → Int32 → Option (St × Int32)) (z : St) (o1 : Nat) (x2 : Int32) (y3 : Int64) (x5 : Int32) (y6 : Int64) (x8 : Int32) (x9 : Int32) : Option (St × Int32) :=
  ((f_X10_greedy z o1 x9 0).bind fun r1 => ((f_X10_greedy r1.1 o1 x9 1).bind fun r3 => ((f_X10_told r3.1 o1 r1.2 5).bind fun r5 => ((f_X10_began r5.1 o1 r1.2).bind fun r7 => if x5 ≤ r3.2 then f_L_law_146 xs L K92 r7.1 o1 x2 y3 x5 y6 x8 x9 r1.2 r3.2 (r3.2 + r5.2) r7.2 else f_L_law_141 xs L K92 r7.1 o1 x2 y3 x5 y6 x8 x9 r1.2 r3.2 (r3.2 + r5.2) r7.2))))
theorem b_L_law_98 {p : Program} {l : Launch} {e : Env} {s : State} {m : MethodId} {below : List Frame} {meth : Method} {c : Code} {b L : Nat} {xs : Nat → Int32} {kc : Nat × Nat} {g : Ga} {A : Nat → Prop} (C : Cx l g A p s m #[Value.ref b] c cL_law 16 RL room_1 kc) (hr : meth.sig.returnType = ret) (hk : meth.locks = false) (hX : va_X b L xs s s.heap) (hbl : b < s.heap.size) (hbA : ¬ A b) (hA : ∀ q, A q → s.heap.size ≤ q) (hkc : kc.1 ≤ 600000 ∧ kc.2 ≤ 7302249) {K92 : St → Nat → Int32 → Int64 → Int32 → Int64 → Int32 → Int32 → Option (St × Int32)} (hK92 : ∀ (z : St) (o1 : Nat) (x2 : Int32) (y3 : Int64) (x5 : Int32) (y6 : Int64) (x8 : Int32) (x9 : Int32) (_ : kd o1 = 10) {res : St × Int32} (_ : res.2 = 1), K92 z o1 x2 y3 x5 y6 x8 x9 = some res → Zj p l e room_1 s m #[Value.ref b] below meth c g A 16 kc (lw_Z below #[Value.ref b] s) z 92 [(0, .ref b), (1, .ref (g.1 o1)), (2, .int x2), (3, .long y3), (5, .int x5), (6, .long y6), (8, .int x8), (9, .int x9)] []) (z : St) (o1 : Nat) (x2 : Int32) (y3 : Int64) (x5 : Int32) (y6 : Int64) (x8 : Int32) (x9 : Int32) (ho1 : kd o1 = 10) {res : St × Int32} (hres : res.2 = 1) (hf : f_L_law_98 xs L K92 z o1 x2 y3 x5 y6 x8 x9 = some res) : Zj p l e room_1 s m #[Value.ref b] below meth c g A 16 kc (lw_Z below #[Value.ref b] s) z 98 [(0, .ref b), (1, .ref (g.1 o1)), (2, .int x2), (3, .long y3), (5, .int x5), (6, .long y6), (8, .int x8), (9, .int x9)] [] := by
  unfold f_L_law_98 at hf
  refine z_aload_n C dL_law_98 rfl 1 rfl ?_
  refine z_iload C dL_law_99 7 rfl ?_
  refine z_iconst C dL_law_101 (v := 0) (by decide) ?_
  obtain ⟨r1, hc2, hf⟩ := q_bd hf
  refine z_cVi C (st := []) (c_X10_greedy ho1 hc2) mw_X10_greedy ml_L_59 ho1 (by decide) rfl dL_law_102 rfl rfl rfl ⟨Nat.le_of_ble_eq_true rfl, Nat.le_of_ble_eq_true rfl⟩ rfl (Nat.le_of_ble_eq_true rfl) ?_
  refine z_istore C (lv2 := [(10, .int r1.2), (0, .ref b), (1, .ref (g.1 o1)), (2, .int x2), (3, .long y3), (5, .int x5), (6, .long y6), (8, .int x8), (9, .int x9)]) dL_law_105 (by decide) rfl ?_
  refine z_aload_n C dL_law_107 rfl 2 rfl ?_
  refine z_iload C dL_law_108 8 rfl ?_
  refine z_iconst C dL_law_110 (v := 1) (by decide) ?_
  obtain ⟨r3, hc4, hf⟩ := q_bd hf
  refine z_cVi C (st := []) (c_X10_greedy ho1 hc4) mw_X10_greedy ml_L_59 ho1 (by decide) rfl dL_law_111 rfl rfl rfl ⟨Nat.le_of_ble_eq_true rfl, Nat.le_of_ble_eq_true rfl⟩ rfl (Nat.le_of_ble_eq_true rfl) ?_
  refine z_istore C (lv2 := [(11, .int r3.2), (10, .int r1.2), (0, .ref b), (1, .ref (g.1 o1)), (2, .int x2), (3, .long y3), (5, .int x5), (6, .long y6), (8, .int x8), (9, .int x9)]) dL_law_114 (by decide) rfl ?_
  refine z_iload C dL_law_116 0 rfl ?_
  refine z_aload_n C dL_law_118 rfl 3 rfl ?_
  refine z_iload C dL_law_119 1 rfl ?_
  refine z_iconst C dL_law_121 (v := 5) (by decide) ?_
  obtain ⟨r5, hc6, hf⟩ := q_bd hf
  refine z_cVi C (st := [.int r3.2]) (c_X10_told ho1 hc6) mw_X10_told ml_L_33 ho1 (by decide) rfl dL_law_122 rfl rfl rfl ⟨Nat.le_of_ble_eq_true rfl, Nat.le_of_ble_eq_true rfl⟩ rfl (Nat.le_of_ble_eq_true rfl) ?_
  refine z_iadd C dL_law_125 ?_
  refine z_istore C (lv2 := [(12, .int (r3.2 + r5.2)), (11, .int r3.2), (10, .int r1.2), (0, .ref b), (1, .ref (g.1 o1)), (2, .int x2), (3, .long y3), (5, .int x5), (6, .long y6), (8, .int x8), (9, .int x9)]) dL_law_126 (by decide) rfl ?_
  refine z_aload_n C dL_law_128 rfl 4 rfl ?_
  refine z_iload C dL_law_129 2 rfl ?_
  obtain ⟨r7, hc8, hf⟩ := q_bd hf
  refine z_cVi C (st := []) (c_X10_began ho1 hc8) mw_X10_began ml_L_36 ho1 (by decide) rfl dL_law_131 rfl rfl rfl ⟨Nat.le_of_ble_eq_true rfl, Nat.le_of_ble_eq_true rfl⟩ rfl (Nat.le_of_ble_eq_true rfl) ?_
  refine z_iload C dL_law_134 1 rfl ?_
  refine z_iload C dL_law_136 7 rfl ?_
  exact z_icmp_ge C dL_law_138 (by decide) (fun h => z_sub [3, 4, 5, 6, 7, 8, 9, 10, 2, 1, 0] rfl (b_L_law_146 C hr hk hX hbl hbA hA hkc hK92 r7.1 o1 x2 y3 x5 y6 x8 x9 r1.2 r3.2 (r3.2 + r5.2) r7.2 ho1 hres (q_t hf h))) (fun h => z_sub [3, 4, 5, 6, 7, 8, 9, 10, 2, 1, 0] rfl (b_L_law_141 C hr hk hX hbl hbA hA hkc hK92 r7.1 o1 x2 y3 x5 y6 x8 x9 r1.2 r3.2 (r3.2 + r5.2) r7.2 ho1 hres (q_f hf h)))
def f_L_law_285 (xs : Nat → Int32) (L : Nat)  (z : St)  : Option (St × Int32) :=
  some (z, 0)
theorem b_L_law_285 {p : Program} {l : Launch} {e : Env} {s : State} {m : MethodId} {below : List Frame} {meth : Method} {c : Code} {b L : Nat} {xs : Nat → Int32} {kc : Nat × Nat} {g : Ga} {A : Nat → Prop} (C : Cx l g A p s m #[Value.ref b] c cL_law 16 RL room_1 kc) (hr : meth.sig.returnType = ret) (hk : meth.locks = false) (hX : va_X b L xs s s.heap) (hbl : b < s.heap.size) (hbA : ¬ A b) (hA : ∀ q, A q → s.heap.size ≤ q) (hkc : kc.1 ≤ 600000 ∧ kc.2 ≤ 7302249)   (z : St)   {res : St × Int32} (hres : res.2 = 1) (hf : f_L_law_285 xs L  z  = some res) : Zj p l e room_1 s m #[Value.ref b] below meth c g A 16 kc (lw_Z below #[Value.ref b] s) z 285 [] [] := by
  unfold f_L_law_285 at hf
  refine z_iconst C dL_law_285 (v := 0) (by decide) ?_
  cases hf
  exact z_lawret C hr hk hA hkc hres dL_law_286
def f_L_law_309 (xs : Nat → Int32) (L : Nat)  (z : St)  : Option (St × Int32) :=
  some (z, 0)
theorem b_L_law_309 {p : Program} {l : Launch} {e : Env} {s : State} {m : MethodId} {below : List Frame} {meth : Method} {c : Code} {b L : Nat} {xs : Nat → Int32} {kc : Nat × Nat} {g : Ga} {A : Nat → Prop} (C : Cx l g A p s m #[Value.ref b] c cL_law 16 RL room_1 kc) (hr : meth.sig.returnType = ret) (hk : meth.locks = false) (hX : va_X b L xs s s.heap) (hbl : b < s.heap.size) (hbA : ¬ A b) (hA : ∀ q, A q → s.heap.size ≤ q) (hkc : kc.1 ≤ 600000 ∧ kc.2 ≤ 7302249)   (z : St)   {res : St × Int32} (hres : res.2 = 1) (hf : f_L_law_309 xs L  z  = some res) : Zj p l e room_1 s m #[Value.ref b] below meth c g A 16 kc (lw_Z below #[Value.ref b] s) z 309 [] [] := by
  unfold f_L_law_309 at hf
  refine z_iconst C dL_law_309 (v := 0) (by decide) ?_
  cases hf
  exact z_lawret C hr hk hA hkc hres dL_law_310
def f_L_law_311 (xs : Nat → Int32) (L : Nat) (K290 : St → Nat → Int32 → Int64 → Int32 → Int64 → Int32 → Option (St × Int32)) (z : St) (o1 : Nat) (x2 : Int32) (y3 : Int64) (x5 : Int32) (y6 : Int64) (x9 : Int32) : Option (St × Int32) :=
  K290 z o1 x2 y3 x5 y6 (x9 + 1)
theorem b_L_law_311 {p : Program} {l : Launch} {e : Env} {s : State} {m : MethodId} {below : List Frame} {meth : Method} {c : Code} {b L : Nat} {xs : Nat → Int32} {kc : Nat × Nat} {g : Ga} {A : Nat → Prop} (C : Cx l g A p s m #[Value.ref b] c cL_law 16 RL room_1 kc) (hr : meth.sig.returnType = ret) (hk : meth.locks = false) (hX : va_X b L xs s s.heap) (hbl : b < s.heap.size) (hbA : ¬ A b) (hA : ∀ q, A q → s.heap.size ≤ q) (hkc : kc.1 ≤ 600000 ∧ kc.2 ≤ 7302249) {K290 : St → Nat → Int32 → Int64 → Int32 → Int64 → Int32 → Option (St × Int32)} (hK290 : ∀ (z : St) (o1 : Nat) (x2 : Int32) (y3 : Int64) (x5 : Int32) (y6 : Int64) (x9 : Int32) (_ : kd o1 = 10) {res : St × Int32} (_ : res.2 = 1), K290 z o1 x2 y3 x5 y6 x9 = some res → Zj p l e room_1 s m #[Value.ref b] below meth c g A 16 kc (lw_Z below #[Value.ref b] s) z 290 [(0, .ref b), (1, .ref (g.1 o1)), (2, .int x2), (3, .long y3), (5, .int x5), (6, .long y6), (9, .int x9)] []) (z : St) (o1 : Nat) (x2 : Int32) (y3 : Int64) (x5 : Int32) (y6 : Int64) (x9 : Int32) (ho1 : kd o1 = 10) {res : St × Int32} (hres : res.2 = 1) (hf : f_L_law_311 xs L K290 z o1 x2 y3 x5 y6 x9 = some res) : Zj p l e room_1 s m #[Value.ref b] below meth c g A 16 kc (lw_Z below #[Value.ref b] s) z 311 [(0, .ref b), (1, .ref (g.1 o1)), (2, .int x2), (3, .long y3), (5, .int x5), (6, .long y6), (9, .int x9)] [] := by
  unfold f_L_law_311 at hf
  refine z_iinc C (k := 6) (v := x9 + 1) (lv2 := [(9, .int (x9 + 1)), (0, .ref b), (1, .ref (g.1 o1)), (2, .int x2), (3, .long y3), (5, .int x5), (6, .long y6)]) dL_law_311 rfl rfl (by decide) rfl ?_
  exact z_goto C dL_law_314 (by decide) (z_sub [1, 2, 3, 4, 5, 6, 0] rfl (hK290 z o1 x2 y3 x5 y6 (x9 + 1) ho1 hres hf))
def f_L_law_297 (xs : Nat → Int32) (L : Nat) (K290 : St → Nat → Int32 → Int64 → Int32 → Int64 → Int32 → Option (St × Int32)) (z : St) (o1 : Nat) (x2 : Int32) (y3 : Int64) (x5 : Int32) (y6 : Int64) (x9 : Int32) : Option (St × Int32) :=
  ((f_X10_go z o1 1).bind fun r1 => if r1.2 = (x9 + 1) then f_L_law_311 xs L K290 r1.1 o1 x2 y3 x5 y6 x9 else f_L_law_309 xs L r1.1)
theorem b_L_law_297 {p : Program} {l : Launch} {e : Env} {s : State} {m : MethodId} {below : List Frame} {meth : Method} {c : Code} {b L : Nat} {xs : Nat → Int32} {kc : Nat × Nat} {g : Ga} {A : Nat → Prop} (C : Cx l g A p s m #[Value.ref b] c cL_law 16 RL room_1 kc) (hr : meth.sig.returnType = ret) (hk : meth.locks = false) (hX : va_X b L xs s s.heap) (hbl : b < s.heap.size) (hbA : ¬ A b) (hA : ∀ q, A q → s.heap.size ≤ q) (hkc : kc.1 ≤ 600000 ∧ kc.2 ≤ 7302249) {K290 : St → Nat → Int32 → Int64 → Int32 → Int64 → Int32 → Option (St × Int32)} (hK290 : ∀ (z : St) (o1 : Nat) (x2 : Int32) (y3 : Int64) (x5 : Int32) (y6 : Int64) (x9 : Int32) (_ : kd o1 = 10) {res : St × Int32} (_ : res.2 = 1), K290 z o1 x2 y3 x5 y6 x9 = some res → Zj p l e room_1 s m #[Value.ref b] below meth c g A 16 kc (lw_Z below #[Value.ref b] s) z 290 [(0, .ref b), (1, .ref (g.1 o1)), (2, .int x2), (3, .long y3), (5, .int x5), (6, .long y6), (9, .int x9)] []) (z : St) (o1 : Nat) (x2 : Int32) (y3 : Int64) (x5 : Int32) (y6 : Int64) (x9 : Int32) (ho1 : kd o1 = 10) {res : St × Int32} (hres : res.2 = 1) (hf : f_L_law_297 xs L K290 z o1 x2 y3 x5 y6 x9 = some res) : Zj p l e room_1 s m #[Value.ref b] below meth c g A 16 kc (lw_Z below #[Value.ref b] s) z 297 [(0, .ref b), (1, .ref (g.1 o1)), (2, .int x2), (3, .long y3), (5, .int x5), (6, .long y6), (9, .int x9)] [] := by
  unfold f_L_law_297 at hf
  refine z_aload_n C dL_law_297 rfl 1 rfl ?_
  refine z_iconst C dL_law_298 (v := 1) (by decide) ?_
  obtain ⟨r1, hc2, hf⟩ := q_bd hf
  refine z_cVi C (st := []) (c_X10_go ho1 hc2) mw_X10_go ml_L_56 ho1 (by decide) rfl dL_law_299 rfl rfl rfl ⟨Nat.le_of_ble_eq_true rfl, Nat.le_of_ble_eq_true rfl⟩ rfl (Nat.le_of_ble_eq_true rfl) ?_
  refine z_iload C dL_law_302 6 rfl ?_
  refine z_iconst C dL_law_304 (v := 1) (by decide) ?_
  refine z_iadd C dL_law_305 ?_
  exact z_icmp_eq C dL_law_306 (by decide) (fun h => z_sub [0, 1, 2, 3, 4, 5, 6] rfl (b_L_law_311 C hr hk hX hbl hbA hA hkc hK290 r1.1 o1 x2 y3 x5 y6 x9 ho1 hres (q_t hf h))) (fun h => z_sub [] rfl (b_L_law_309 C hr hk hX hbl hbA hA hkc r1.1 hres (q_f hf h)))
def f_L_law_327 (xs : Nat → Int32) (L : Nat)  (z : St)  : Option (St × Int32) :=
  some (z, 0)
theorem b_L_law_327 {p : Program} {l : Launch} {e : Env} {s : State} {m : MethodId} {below : List Frame} {meth : Method} {c : Code} {b L : Nat} {xs : Nat → Int32} {kc : Nat × Nat} {g : Ga} {A : Nat → Prop} (C : Cx l g A p s m #[Value.ref b] c cL_law 16 RL room_1 kc) (hr : meth.sig.returnType = ret) (hk : meth.locks = false) (hX : va_X b L xs s s.heap) (hbl : b < s.heap.size) (hbA : ¬ A b) (hA : ∀ q, A q → s.heap.size ≤ q) (hkc : kc.1 ≤ 600000 ∧ kc.2 ≤ 7302249)   (z : St)   {res : St × Int32} (hres : res.2 = 1) (hf : f_L_law_327 xs L  z  = some res) : Zj p l e room_1 s m #[Value.ref b] below meth c g A 16 kc (lw_Z below #[Value.ref b] s) z 327 [] [] := by
  unfold f_L_law_327 at hf
  refine z_iconst C dL_law_327 (v := 0) (by decide) ?_
  cases hf
  exact z_lawret C hr hk hA hkc hres dL_law_328
def f_L_law_603 (xs : Nat → Int32) (L : Nat)  (z : St)  : Option (St × Int32) :=
  some (z, 0)
theorem b_L_law_603 {p : Program} {l : Launch} {e : Env} {s : State} {m : MethodId} {below : List Frame} {meth : Method} {c : Code} {b L : Nat} {xs : Nat → Int32} {kc : Nat × Nat} {g : Ga} {A : Nat → Prop} (C : Cx l g A p s m #[Value.ref b] c cL_law 16 RL room_1 kc) (hr : meth.sig.returnType = ret) (hk : meth.locks = false) (hX : va_X b L xs s s.heap) (hbl : b < s.heap.size) (hbA : ¬ A b) (hA : ∀ q, A q → s.heap.size ≤ q) (hkc : kc.1 ≤ 600000 ∧ kc.2 ≤ 7302249)   (z : St)   {res : St × Int32} (hres : res.2 = 1) (hf : f_L_law_603 xs L  z  = some res) : Zj p l e room_1 s m #[Value.ref b] below meth c g A 16 kc (lw_Z below #[Value.ref b] s) z 603 [] [] := by
  unfold f_L_law_603 at hf
  refine z_iconst C dL_law_603 (v := 0) (by decide) ?_
  cases hf
  exact z_lawret C hr hk hA hkc hres dL_law_604
def f_L_law_624 (xs : Nat → Int32) (L : Nat)  (z : St)  : Option (St × Int32) :=
  some (z, 0)
theorem b_L_law_624 {p : Program} {l : Launch} {e : Env} {s : State} {m : MethodId} {below : List Frame} {meth : Method} {c : Code} {b L : Nat} {xs : Nat → Int32} {kc : Nat × Nat} {g : Ga} {A : Nat → Prop} (C : Cx l g A p s m #[Value.ref b] c cL_law 16 RL room_1 kc) (hr : meth.sig.returnType = ret) (hk : meth.locks = false) (hX : va_X b L xs s s.heap) (hbl : b < s.heap.size) (hbA : ¬ A b) (hA : ∀ q, A q → s.heap.size ≤ q) (hkc : kc.1 ≤ 600000 ∧ kc.2 ≤ 7302249)   (z : St)   {res : St × Int32} (hres : res.2 = 1) (hf : f_L_law_624 xs L  z  = some res) : Zj p l e room_1 s m #[Value.ref b] below meth c g A 16 kc (lw_Z below #[Value.ref b] s) z 624 [] [] := by
  unfold f_L_law_624 at hf
  refine z_iconst C dL_law_624 (v := 0) (by decide) ?_
  cases hf
  exact z_lawret C hr hk hA hkc hres dL_law_625
def f_L_law_697 (xs : Nat → Int32) (L : Nat)  (z : St)  : Option (St × Int32) :=
  some (z, 0)
theorem b_L_law_697 {p : Program} {l : Launch} {e : Env} {s : State} {m : MethodId} {below : List Frame} {meth : Method} {c : Code} {b L : Nat} {xs : Nat → Int32} {kc : Nat × Nat} {g : Ga} {A : Nat → Prop} (C : Cx l g A p s m #[Value.ref b] c cL_law 16 RL room_1 kc) (hr : meth.sig.returnType = ret) (hk : meth.locks = false) (hX : va_X b L xs s s.heap) (hbl : b < s.heap.size) (hbA : ¬ A b) (hA : ∀ q, A q → s.heap.size ≤ q) (hkc : kc.1 ≤ 600000 ∧ kc.2 ≤ 7302249)   (z : St)   {res : St × Int32} (hres : res.2 = 1) (hf : f_L_law_697 xs L  z  = some res) : Zj p l e room_1 s m #[Value.ref b] below meth c g A 16 kc (lw_Z below #[Value.ref b] s) z 697 [] [] := by
  unfold f_L_law_697 at hf
  refine z_iconst C dL_law_697 (v := 0) (by decide) ?_
  cases hf
  exact z_lawret C hr hk hA hkc hres dL_law_698
def f_L_law_747 (xs : Nat → Int32) (L : Nat)  (z : St)  : Option (St × Int32) :=
  some (z, 0)
theorem b_L_law_747 {p : Program} {l : Launch} {e : Env} {s : State} {m : MethodId} {below : List Frame} {meth : Method} {c : Code} {b L : Nat} {xs : Nat → Int32} {kc : Nat × Nat} {g : Ga} {A : Nat → Prop} (C : Cx l g A p s m #[Value.ref b] c cL_law 16 RL room_1 kc) (hr : meth.sig.returnType = ret) (hk : meth.locks = false) (hX : va_X b L xs s s.heap) (hbl : b < s.heap.size) (hbA : ¬ A b) (hA : ∀ q, A q → s.heap.size ≤ q) (hkc : kc.1 ≤ 600000 ∧ kc.2 ≤ 7302249)   (z : St)   {res : St × Int32} (hres : res.2 = 1) (hf : f_L_law_747 xs L  z  = some res) : Zj p l e room_1 s m #[Value.ref b] below meth c g A 16 kc (lw_Z below #[Value.ref b] s) z 747 [] [] := by
  unfold f_L_law_747 at hf
  refine z_iconst C dL_law_747 (v := 0) (by decide) ?_
  cases hf
  exact z_lawret C hr hk hA hkc hres dL_law_748
def f_L_law_840 (xs : Nat → Int32) (L : Nat)  (z : St)  : Option (St × Int32) :=
  some (z, 0)
theorem b_L_law_840 {p : Program} {l : Launch} {e : Env} {s : State} {m : MethodId} {below : List Frame} {meth : Method} {c : Code} {b L : Nat} {xs : Nat → Int32} {kc : Nat × Nat} {g : Ga} {A : Nat → Prop} (C : Cx l g A p s m #[Value.ref b] c cL_law 16 RL room_1 kc) (hr : meth.sig.returnType = ret) (hk : meth.locks = false) (hX : va_X b L xs s s.heap) (hbl : b < s.heap.size) (hbA : ¬ A b) (hA : ∀ q, A q → s.heap.size ≤ q) (hkc : kc.1 ≤ 600000 ∧ kc.2 ≤ 7302249)   (z : St)   {res : St × Int32} (hres : res.2 = 1) (hf : f_L_law_840 xs L  z  = some res) : Zj p l e room_1 s m #[Value.ref b] below meth c g A 16 kc (lw_Z below #[Value.ref b] s) z 840 [] [] := by
  unfold f_L_law_840 at hf
  refine z_iconst C dL_law_840 (v := 0) (by decide) ?_
  cases hf
  exact z_lawret C hr hk hA hkc hres dL_law_841
def f_L_law_1031 (xs : Nat → Int32) (L : Nat)  (z : St)  : Option (St × Int32) :=
  some (z, 0)
theorem b_L_law_1031 {p : Program} {l : Launch} {e : Env} {s : State} {m : MethodId} {below : List Frame} {meth : Method} {c : Code} {b L : Nat} {xs : Nat → Int32} {kc : Nat × Nat} {g : Ga} {A : Nat → Prop} (C : Cx l g A p s m #[Value.ref b] c cL_law 16 RL room_1 kc) (hr : meth.sig.returnType = ret) (hk : meth.locks = false) (hX : va_X b L xs s s.heap) (hbl : b < s.heap.size) (hbA : ¬ A b) (hA : ∀ q, A q → s.heap.size ≤ q) (hkc : kc.1 ≤ 600000 ∧ kc.2 ≤ 7302249)   (z : St)   {res : St × Int32} (hres : res.2 = 1) (hf : f_L_law_1031 xs L  z  = some res) : Zj p l e room_1 s m #[Value.ref b] below meth c g A 16 kc (lw_Z below #[Value.ref b] s) z 1031 [] [] := by
  unfold f_L_law_1031 at hf
  refine z_iconst C dL_law_1031 (v := 0) (by decide) ?_
  cases hf
  exact z_lawret C hr hk hA hkc hres dL_law_1032
def f_L_law_1070 (xs : Nat → Int32) (L : Nat)  (z : St) (s0 : Int32) : Option (St × Int32) :=
  some (z, s0)
theorem b_L_law_1070 {p : Program} {l : Launch} {e : Env} {s : State} {m : MethodId} {below : List Frame} {meth : Method} {c : Code} {b L : Nat} {xs : Nat → Int32} {kc : Nat × Nat} {g : Ga} {A : Nat → Prop} (C : Cx l g A p s m #[Value.ref b] c cL_law 16 RL room_1 kc) (hr : meth.sig.returnType = ret) (hk : meth.locks = false) (hX : va_X b L xs s s.heap) (hbl : b < s.heap.size) (hbA : ¬ A b) (hA : ∀ q, A q → s.heap.size ≤ q) (hkc : kc.1 ≤ 600000 ∧ kc.2 ≤ 7302249)   (z : St) (s0 : Int32)  {res : St × Int32} (hres : res.2 = 1) (hf : f_L_law_1070 xs L  z s0 = some res) : Zj p l e room_1 s m #[Value.ref b] below meth c g A 16 kc (lw_Z below #[Value.ref b] s) z 1070 [] [.int s0] := by
  unfold f_L_law_1070 at hf
  cases hf
  exact z_lawret C hr hk hA hkc hres dL_law_1070
def f_L_law_1065 (xs : Nat → Int32) (L : Nat)  (z : St)  : Option (St × Int32) :=
  f_L_law_1070 xs L z 1
theorem b_L_law_1065 {p : Program} {l : Launch} {e : Env} {s : State} {m : MethodId} {below : List Frame} {meth : Method} {c : Code} {b L : Nat} {xs : Nat → Int32} {kc : Nat × Nat} {g : Ga} {A : Nat → Prop} (C : Cx l g A p s m #[Value.ref b] c cL_law 16 RL room_1 kc) (hr : meth.sig.returnType = ret) (hk : meth.locks = false) (hX : va_X b L xs s s.heap) (hbl : b < s.heap.size) (hbA : ¬ A b) (hA : ∀ q, A q → s.heap.size ≤ q) (hkc : kc.1 ≤ 600000 ∧ kc.2 ≤ 7302249)   (z : St)   {res : St × Int32} (hres : res.2 = 1) (hf : f_L_law_1065 xs L  z  = some res) : Zj p l e room_1 s m #[Value.ref b] below meth c g A 16 kc (lw_Z below #[Value.ref b] s) z 1065 [] [] := by
  unfold f_L_law_1065 at hf
  refine z_iconst C dL_law_1065 (v := 1) (by decide) ?_
  exact z_goto C dL_law_1066 (by decide) (z_sub [] rfl (b_L_law_1070 C hr hk hX hbl hbA hA hkc z 1 hres hf))
def f_L_law_1069 (xs : Nat → Int32) (L : Nat)  (z : St)  : Option (St × Int32) :=
  f_L_law_1070 xs L z 0
theorem b_L_law_1069 {p : Program} {l : Launch} {e : Env} {s : State} {m : MethodId} {below : List Frame} {meth : Method} {c : Code} {b L : Nat} {xs : Nat → Int32} {kc : Nat × Nat} {g : Ga} {A : Nat → Prop} (C : Cx l g A p s m #[Value.ref b] c cL_law 16 RL room_1 kc) (hr : meth.sig.returnType = ret) (hk : meth.locks = false) (hX : va_X b L xs s s.heap) (hbl : b < s.heap.size) (hbA : ¬ A b) (hA : ∀ q, A q → s.heap.size ≤ q) (hkc : kc.1 ≤ 600000 ∧ kc.2 ≤ 7302249)   (z : St)   {res : St × Int32} (hres : res.2 = 1) (hf : f_L_law_1069 xs L  z  = some res) : Zj p l e room_1 s m #[Value.ref b] below meth c g A 16 kc (lw_Z below #[Value.ref b] s) z 1069 [] [] := by
  unfold f_L_law_1069 at hf
  refine z_iconst C dL_law_1069 (v := 0) (by decide) ?_
  exact z_sub [] rfl (b_L_law_1070 C hr hk hX hbl hbA hA hkc z 0 hres hf)
def f_L_law_1056 (xs : Nat → Int32) (L : Nat)  (z : St) (o1 : Nat) (y3 : Int64) : Option (St × Int32) :=
  ((f_L_state z o1).bind fun r1 => if (lg_cmp r1.2 y3) = 0 then f_L_law_1065 xs L r1.1 else f_L_law_1069 xs L r1.1)
theorem b_L_law_1056 {p : Program} {l : Launch} {e : Env} {s : State} {m : MethodId} {below : List Frame} {meth : Method} {c : Code} {b L : Nat} {xs : Nat → Int32} {kc : Nat × Nat} {g : Ga} {A : Nat → Prop} (C : Cx l g A p s m #[Value.ref b] c cL_law 16 RL room_1 kc) (hr : meth.sig.returnType = ret) (hk : meth.locks = false) (hX : va_X b L xs s s.heap) (hbl : b < s.heap.size) (hbA : ¬ A b) (hA : ∀ q, A q → s.heap.size ≤ q) (hkc : kc.1 ≤ 600000 ∧ kc.2 ≤ 7302249)   (z : St) (o1 : Nat) (y3 : Int64) (ho1 : kd o1 = 10) {res : St × Int32} (hres : res.2 = 1) (hf : f_L_law_1056 xs L  z o1 y3 = some res) : Zj p l e room_1 s m #[Value.ref b] below meth c g A 16 kc (lw_Z below #[Value.ref b] s) z 1056 [(1, .ref (g.1 o1)), (3, .long y3)] [] := by
  unfold f_L_law_1056 at hf
  refine z_aload_n C dL_law_1056 rfl 0 rfl ?_
  obtain ⟨r1, hc2, hf⟩ := q_bd hf
  refine z_cSl C (st := []) (c_L_state ho1 hc2) mw_L_state ml_L_52 dL_law_1057 rfl rfl rfl ⟨Nat.le_of_ble_eq_true rfl, Nat.le_of_ble_eq_true rfl⟩ rfl (Nat.le_of_ble_eq_true rfl) ?_
  refine z_lload_n C dL_law_1060 rfl 1 rfl ?_
  refine z_lcmp C dL_law_1061 ?_
  exact z_if_ne C dL_law_1062 (by decide) (fun h => z_sub [] rfl (b_L_law_1069 C hr hk hX hbl hbA hA hkc r1.1 hres (q_f hf h))) (fun h => z_sub [] rfl (b_L_law_1065 C hr hk hX hbl hbA hA hkc r1.1 hres (q_t hf h)))
def f_L_law_1048 (xs : Nat → Int32) (L : Nat)  (z : St) (o1 : Nat) (y3 : Int64) : Option (St × Int32) :=
  ((f_X10_count z o1 2).bind fun r1 => if r1.2 = 0 then f_L_law_1056 xs L r1.1 o1 y3 else f_L_law_1069 xs L r1.1)
theorem b_L_law_1048 {p : Program} {l : Launch} {e : Env} {s : State} {m : MethodId} {below : List Frame} {meth : Method} {c : Code} {b L : Nat} {xs : Nat → Int32} {kc : Nat × Nat} {g : Ga} {A : Nat → Prop} (C : Cx l g A p s m #[Value.ref b] c cL_law 16 RL room_1 kc) (hr : meth.sig.returnType = ret) (hk : meth.locks = false) (hX : va_X b L xs s s.heap) (hbl : b < s.heap.size) (hbA : ¬ A b) (hA : ∀ q, A q → s.heap.size ≤ q) (hkc : kc.1 ≤ 600000 ∧ kc.2 ≤ 7302249)   (z : St) (o1 : Nat) (y3 : Int64) (ho1 : kd o1 = 10) {res : St × Int32} (hres : res.2 = 1) (hf : f_L_law_1048 xs L  z o1 y3 = some res) : Zj p l e room_1 s m #[Value.ref b] below meth c g A 16 kc (lw_Z below #[Value.ref b] s) z 1048 [(1, .ref (g.1 o1)), (3, .long y3)] [] := by
  unfold f_L_law_1048 at hf
  refine z_aload_n C dL_law_1048 rfl 0 rfl ?_
  refine z_iconst C dL_law_1049 (v := 2) (by decide) ?_
  obtain ⟨r1, hc2, hf⟩ := q_bd hf
  refine z_cVi C (st := []) (c_X10_count ho1 hc2) mw_X10_count ml_L_27 ho1 (by decide) rfl dL_law_1050 rfl rfl rfl ⟨Nat.le_of_ble_eq_true rfl, Nat.le_of_ble_eq_true rfl⟩ rfl (Nat.le_of_ble_eq_true rfl) ?_
  exact z_if_ne C dL_law_1053 (by decide) (fun h => z_sub [] rfl (b_L_law_1069 C hr hk hX hbl hbA hA hkc r1.1 hres (q_f hf h))) (fun h => z_sub [0, 1] rfl (b_L_law_1056 C hr hk hX hbl hbA hA hkc r1.1 o1 y3 ho1 hres (q_t hf h)))
def f_L_law_1039 (xs : Nat → Int32) (L : Nat)  (z : St) (o1 : Nat) (y3 : Int64) : Option (St × Int32) :=
  ((f_X10_text z o1).bind fun r1 => if r1.2 = ((-4)) then f_L_law_1048 xs L r1.1 o1 y3 else f_L_law_1069 xs L r1.1)
theorem b_L_law_1039 {p : Program} {l : Launch} {e : Env} {s : State} {m : MethodId} {below : List Frame} {meth : Method} {c : Code} {b L : Nat} {xs : Nat → Int32} {kc : Nat × Nat} {g : Ga} {A : Nat → Prop} (C : Cx l g A p s m #[Value.ref b] c cL_law 16 RL room_1 kc) (hr : meth.sig.returnType = ret) (hk : meth.locks = false) (hX : va_X b L xs s s.heap) (hbl : b < s.heap.size) (hbA : ¬ A b) (hA : ∀ q, A q → s.heap.size ≤ q) (hkc : kc.1 ≤ 600000 ∧ kc.2 ≤ 7302249)   (z : St) (o1 : Nat) (y3 : Int64) (ho1 : kd o1 = 10) {res : St × Int32} (hres : res.2 = 1) (hf : f_L_law_1039 xs L  z o1 y3 = some res) : Zj p l e room_1 s m #[Value.ref b] below meth c g A 16 kc (lw_Z below #[Value.ref b] s) z 1039 [(1, .ref (g.1 o1)), (3, .long y3)] [] := by
  unfold f_L_law_1039 at hf
  refine z_aload_n C dL_law_1039 rfl 0 rfl ?_
  obtain ⟨r1, hc2, hf⟩ := q_bd hf
  refine z_cVi C (st := []) (c_X10_text ho1 hc2) mw_X10_text ml_L_119 ho1 (by decide) rfl dL_law_1040 rfl rfl rfl ⟨Nat.le_of_ble_eq_true rfl, Nat.le_of_ble_eq_true rfl⟩ rfl (Nat.le_of_ble_eq_true rfl) ?_
  refine z_bipush C dL_law_1043 (v := (-4)) (by decide) ?_
  exact z_icmp_ne C dL_law_1045 (by decide) (fun h => z_sub [] rfl (b_L_law_1069 C hr hk hX hbl hbA hA hkc r1.1 hres (q_f hf h))) (fun h => z_sub [0, 1] rfl (b_L_law_1048 C hr hk hX hbl hbA hA hkc r1.1 o1 y3 ho1 hres (q_t hf h)))
def f_L_law_1133 (xs : Nat → Int32) (L : Nat)  (z : St)  : Option (St × Int32) :=
  some (z, 0)
theorem b_L_law_1133 {p : Program} {l : Launch} {e : Env} {s : State} {m : MethodId} {below : List Frame} {meth : Method} {c : Code} {b L : Nat} {xs : Nat → Int32} {kc : Nat × Nat} {g : Ga} {A : Nat → Prop} (C : Cx l g A p s m #[Value.ref b] c cL_law 16 RL room_1 kc) (hr : meth.sig.returnType = ret) (hk : meth.locks = false) (hX : va_X b L xs s s.heap) (hbl : b < s.heap.size) (hbA : ¬ A b) (hA : ∀ q, A q → s.heap.size ≤ q) (hkc : kc.1 ≤ 600000 ∧ kc.2 ≤ 7302249)   (z : St)   {res : St × Int32} (hres : res.2 = 1) (hf : f_L_law_1133 xs L  z  = some res) : Zj p l e room_1 s m #[Value.ref b] below meth c g A 16 kc (lw_Z below #[Value.ref b] s) z 1133 [] [] := by
  unfold f_L_law_1133 at hf
  refine z_iconst C dL_law_1133 (v := 0) (by decide) ?_
  cases hf
  exact z_lawret C hr hk hA hkc hres dL_law_1134
def f_L_law_1171 (xs : Nat → Int32) (L : Nat)  (z : St)  : Option (St × Int32) :=
  some (z, 0)
theorem b_L_law_1171 {p : Program} {l : Launch} {e : Env} {s : State} {m : MethodId} {below : List Frame} {meth : Method} {c : Code} {b L : Nat} {xs : Nat → Int32} {kc : Nat × Nat} {g : Ga} {A : Nat → Prop} (C : Cx l g A p s m #[Value.ref b] c cL_law 16 RL room_1 kc) (hr : meth.sig.returnType = ret) (hk : meth.locks = false) (hX : va_X b L xs s s.heap) (hbl : b < s.heap.size) (hbA : ¬ A b) (hA : ∀ q, A q → s.heap.size ≤ q) (hkc : kc.1 ≤ 600000 ∧ kc.2 ≤ 7302249)   (z : St)   {res : St × Int32} (hres : res.2 = 1) (hf : f_L_law_1171 xs L  z  = some res) : Zj p l e room_1 s m #[Value.ref b] below meth c g A 16 kc (lw_Z below #[Value.ref b] s) z 1171 [] [] := by
  unfold f_L_law_1171 at hf
  refine z_iconst C dL_law_1171 (v := 0) (by decide) ?_
  cases hf
  exact z_lawret C hr hk hA hkc hres dL_law_1172
def f_L_law_1206 (xs : Nat → Int32) (L : Nat)  (z : St)  : Option (St × Int32) :=
  some (z, 0)
theorem b_L_law_1206 {p : Program} {l : Launch} {e : Env} {s : State} {m : MethodId} {below : List Frame} {meth : Method} {c : Code} {b L : Nat} {xs : Nat → Int32} {kc : Nat × Nat} {g : Ga} {A : Nat → Prop} (C : Cx l g A p s m #[Value.ref b] c cL_law 16 RL room_1 kc) (hr : meth.sig.returnType = ret) (hk : meth.locks = false) (hX : va_X b L xs s s.heap) (hbl : b < s.heap.size) (hbA : ¬ A b) (hA : ∀ q, A q → s.heap.size ≤ q) (hkc : kc.1 ≤ 600000 ∧ kc.2 ≤ 7302249)   (z : St)   {res : St × Int32} (hres : res.2 = 1) (hf : f_L_law_1206 xs L  z  = some res) : Zj p l e room_1 s m #[Value.ref b] below meth c g A 16 kc (lw_Z below #[Value.ref b] s) z 1206 [] [] := by
  unfold f_L_law_1206 at hf
  refine z_iconst C dL_law_1206 (v := 0) (by decide) ?_
  cases hf
  exact z_lawret C hr hk hA hkc hres dL_law_1207
def f_L_law_1230 (xs : Nat → Int32) (L : Nat)  (z : St) (s0 : Int32) : Option (St × Int32) :=
  some (z, s0)
theorem b_L_law_1230 {p : Program} {l : Launch} {e : Env} {s : State} {m : MethodId} {below : List Frame} {meth : Method} {c : Code} {b L : Nat} {xs : Nat → Int32} {kc : Nat × Nat} {g : Ga} {A : Nat → Prop} (C : Cx l g A p s m #[Value.ref b] c cL_law 16 RL room_1 kc) (hr : meth.sig.returnType = ret) (hk : meth.locks = false) (hX : va_X b L xs s s.heap) (hbl : b < s.heap.size) (hbA : ¬ A b) (hA : ∀ q, A q → s.heap.size ≤ q) (hkc : kc.1 ≤ 600000 ∧ kc.2 ≤ 7302249)   (z : St) (s0 : Int32)  {res : St × Int32} (hres : res.2 = 1) (hf : f_L_law_1230 xs L  z s0 = some res) : Zj p l e room_1 s m #[Value.ref b] below meth c g A 16 kc (lw_Z below #[Value.ref b] s) z 1230 [] [.int s0] := by
  unfold f_L_law_1230 at hf
  cases hf
  exact z_lawret C hr hk hA hkc hres dL_law_1230
def f_L_law_1225 (xs : Nat → Int32) (L : Nat)  (z : St)  : Option (St × Int32) :=
  f_L_law_1230 xs L z 1
theorem b_L_law_1225 {p : Program} {l : Launch} {e : Env} {s : State} {m : MethodId} {below : List Frame} {meth : Method} {c : Code} {b L : Nat} {xs : Nat → Int32} {kc : Nat × Nat} {g : Ga} {A : Nat → Prop} (C : Cx l g A p s m #[Value.ref b] c cL_law 16 RL room_1 kc) (hr : meth.sig.returnType = ret) (hk : meth.locks = false) (hX : va_X b L xs s s.heap) (hbl : b < s.heap.size) (hbA : ¬ A b) (hA : ∀ q, A q → s.heap.size ≤ q) (hkc : kc.1 ≤ 600000 ∧ kc.2 ≤ 7302249)   (z : St)   {res : St × Int32} (hres : res.2 = 1) (hf : f_L_law_1225 xs L  z  = some res) : Zj p l e room_1 s m #[Value.ref b] below meth c g A 16 kc (lw_Z below #[Value.ref b] s) z 1225 [] [] := by
  unfold f_L_law_1225 at hf
  refine z_iconst C dL_law_1225 (v := 1) (by decide) ?_
  exact z_goto C dL_law_1226 (by decide) (z_sub [] rfl (b_L_law_1230 C hr hk hX hbl hbA hA hkc z 1 hres hf))
def f_L_law_1229 (xs : Nat → Int32) (L : Nat)  (z : St)  : Option (St × Int32) :=
  f_L_law_1230 xs L z 0
theorem b_L_law_1229 {p : Program} {l : Launch} {e : Env} {s : State} {m : MethodId} {below : List Frame} {meth : Method} {c : Code} {b L : Nat} {xs : Nat → Int32} {kc : Nat × Nat} {g : Ga} {A : Nat → Prop} (C : Cx l g A p s m #[Value.ref b] c cL_law 16 RL room_1 kc) (hr : meth.sig.returnType = ret) (hk : meth.locks = false) (hX : va_X b L xs s s.heap) (hbl : b < s.heap.size) (hbA : ¬ A b) (hA : ∀ q, A q → s.heap.size ≤ q) (hkc : kc.1 ≤ 600000 ∧ kc.2 ≤ 7302249)   (z : St)   {res : St × Int32} (hres : res.2 = 1) (hf : f_L_law_1229 xs L  z  = some res) : Zj p l e room_1 s m #[Value.ref b] below meth c g A 16 kc (lw_Z below #[Value.ref b] s) z 1229 [] [] := by
  unfold f_L_law_1229 at hf
  refine z_iconst C dL_law_1229 (v := 0) (by decide) ?_
  exact z_sub [] rfl (b_L_law_1230 C hr hk hX hbl hbA hA hkc z 0 hres hf)
def f_L_law_1216 (xs : Nat → Int32) (L : Nat)  (z : St) (o1 : Nat) (y3 : Int64) : Option (St × Int32) :=
  ((f_L_state z o1).bind fun r1 => if (lg_cmp r1.2 y3) = 0 then f_L_law_1225 xs L r1.1 else f_L_law_1229 xs L r1.1)
theorem b_L_law_1216 {p : Program} {l : Launch} {e : Env} {s : State} {m : MethodId} {below : List Frame} {meth : Method} {c : Code} {b L : Nat} {xs : Nat → Int32} {kc : Nat × Nat} {g : Ga} {A : Nat → Prop} (C : Cx l g A p s m #[Value.ref b] c cL_law 16 RL room_1 kc) (hr : meth.sig.returnType = ret) (hk : meth.locks = false) (hX : va_X b L xs s s.heap) (hbl : b < s.heap.size) (hbA : ¬ A b) (hA : ∀ q, A q → s.heap.size ≤ q) (hkc : kc.1 ≤ 600000 ∧ kc.2 ≤ 7302249)   (z : St) (o1 : Nat) (y3 : Int64) (ho1 : kd o1 = 10) {res : St × Int32} (hres : res.2 = 1) (hf : f_L_law_1216 xs L  z o1 y3 = some res) : Zj p l e room_1 s m #[Value.ref b] below meth c g A 16 kc (lw_Z below #[Value.ref b] s) z 1216 [(1, .ref (g.1 o1)), (3, .long y3)] [] := by
  unfold f_L_law_1216 at hf
  refine z_aload_n C dL_law_1216 rfl 0 rfl ?_
  obtain ⟨r1, hc2, hf⟩ := q_bd hf
  refine z_cSl C (st := []) (c_L_state ho1 hc2) mw_L_state ml_L_52 dL_law_1217 rfl rfl rfl ⟨Nat.le_of_ble_eq_true rfl, Nat.le_of_ble_eq_true rfl⟩ rfl (Nat.le_of_ble_eq_true rfl) ?_
  refine z_lload_n C dL_law_1220 rfl 1 rfl ?_
  refine z_lcmp C dL_law_1221 ?_
  exact z_if_ne C dL_law_1222 (by decide) (fun h => z_sub [] rfl (b_L_law_1229 C hr hk hX hbl hbA hA hkc r1.1 hres (q_f hf h))) (fun h => z_sub [] rfl (b_L_law_1225 C hr hk hX hbl hbA hA hkc r1.1 hres (q_t hf h)))
def f_L_law_1208 (xs : Nat → Int32) (L : Nat)  (z : St) (o1 : Nat) (x2 : Int32) (y3 : Int64) : Option (St × Int32) :=
  ((f_X10_back z o1).bind fun r1 => if r1.2 = x2 then f_L_law_1216 xs L r1.1 o1 y3 else f_L_law_1229 xs L r1.1)
theorem b_L_law_1208 {p : Program} {l : Launch} {e : Env} {s : State} {m : MethodId} {below : List Frame} {meth : Method} {c : Code} {b L : Nat} {xs : Nat → Int32} {kc : Nat × Nat} {g : Ga} {A : Nat → Prop} (C : Cx l g A p s m #[Value.ref b] c cL_law 16 RL room_1 kc) (hr : meth.sig.returnType = ret) (hk : meth.locks = false) (hX : va_X b L xs s s.heap) (hbl : b < s.heap.size) (hbA : ¬ A b) (hA : ∀ q, A q → s.heap.size ≤ q) (hkc : kc.1 ≤ 600000 ∧ kc.2 ≤ 7302249)   (z : St) (o1 : Nat) (x2 : Int32) (y3 : Int64) (ho1 : kd o1 = 10) {res : St × Int32} (hres : res.2 = 1) (hf : f_L_law_1208 xs L  z o1 x2 y3 = some res) : Zj p l e room_1 s m #[Value.ref b] below meth c g A 16 kc (lw_Z below #[Value.ref b] s) z 1208 [(1, .ref (g.1 o1)), (2, .int x2), (3, .long y3)] [] := by
  unfold f_L_law_1208 at hf
  refine z_aload_n C dL_law_1208 rfl 0 rfl ?_
  obtain ⟨r1, hc2, hf⟩ := q_bd hf
  refine z_cVi C (st := []) (c_X10_back ho1 hc2) mw_X10_back ml_L_42 ho1 (by decide) rfl dL_law_1209 rfl rfl rfl ⟨Nat.le_of_ble_eq_true rfl, Nat.le_of_ble_eq_true rfl⟩ rfl (Nat.le_of_ble_eq_true rfl) ?_
  refine z_iload_n C dL_law_1212 rfl 1 rfl ?_
  exact z_icmp_ne C dL_law_1213 (by decide) (fun h => z_sub [] rfl (b_L_law_1229 C hr hk hX hbl hbA hA hkc r1.1 hres (q_f hf h))) (fun h => z_sub [0, 2] rfl (b_L_law_1216 C hr hk hX hbl hbA hA hkc r1.1 o1 y3 ho1 hres (q_t hf h)))
def f_L_law_1197 (xs : Nat → Int32) (L : Nat)  (z : St) (o1 : Nat) (x2 : Int32) (y3 : Int64) : Option (St × Int32) :=
  ((f_X10_text z o1).bind fun r1 => if r1.2 = ((-100)) then f_L_law_1208 xs L r1.1 o1 x2 y3 else f_L_law_1206 xs L r1.1)
theorem b_L_law_1197 {p : Program} {l : Launch} {e : Env} {s : State} {m : MethodId} {below : List Frame} {meth : Method} {c : Code} {b L : Nat} {xs : Nat → Int32} {kc : Nat × Nat} {g : Ga} {A : Nat → Prop} (C : Cx l g A p s m #[Value.ref b] c cL_law 16 RL room_1 kc) (hr : meth.sig.returnType = ret) (hk : meth.locks = false) (hX : va_X b L xs s s.heap) (hbl : b < s.heap.size) (hbA : ¬ A b) (hA : ∀ q, A q → s.heap.size ≤ q) (hkc : kc.1 ≤ 600000 ∧ kc.2 ≤ 7302249)   (z : St) (o1 : Nat) (x2 : Int32) (y3 : Int64) (ho1 : kd o1 = 10) {res : St × Int32} (hres : res.2 = 1) (hf : f_L_law_1197 xs L  z o1 x2 y3 = some res) : Zj p l e room_1 s m #[Value.ref b] below meth c g A 16 kc (lw_Z below #[Value.ref b] s) z 1197 [(1, .ref (g.1 o1)), (2, .int x2), (3, .long y3)] [] := by
  unfold f_L_law_1197 at hf
  refine z_aload_n C dL_law_1197 rfl 0 rfl ?_
  obtain ⟨r1, hc2, hf⟩ := q_bd hf
  refine z_cVi C (st := []) (c_X10_text ho1 hc2) mw_X10_text ml_L_119 ho1 (by decide) rfl dL_law_1198 rfl rfl rfl ⟨Nat.le_of_ble_eq_true rfl, Nat.le_of_ble_eq_true rfl⟩ rfl (Nat.le_of_ble_eq_true rfl) ?_
  refine z_bipush C dL_law_1201 (v := (-100)) (by decide) ?_
  exact z_icmp_eq C dL_law_1203 (by decide) (fun h => z_sub [0, 1, 2] rfl (b_L_law_1208 C hr hk hX hbl hbA hA hkc r1.1 o1 x2 y3 ho1 hres (q_t hf h))) (fun h => z_sub [] rfl (b_L_law_1206 C hr hk hX hbl hbA hA hkc r1.1 hres (q_f hf h)))
def f_L_law_1173 (xs : Nat → Int32) (L : Nat)  (z : St) (o1 : Nat) (x2 : Int32) (y3 : Int64) (x15 : Int32) : Option (St × Int32) :=
  ((f_X10_feed z o1 4 x15 53 44 48 0).bind fun r1 => ((f_X10_text r1.1 o1).bind fun r3 => if r3.2 = ((-103)) then f_L_law_1197 xs L r3.1 o1 x2 y3 else f_L_law_1206 xs L r3.1))
theorem b_L_law_1173 {p : Program} {l : Launch} {e : Env} {s : State} {m : MethodId} {below : List Frame} {meth : Method} {c : Code} {b L : Nat} {xs : Nat → Int32} {kc : Nat × Nat} {g : Ga} {A : Nat → Prop} (C : Cx l g A p s m #[Value.ref b] c cL_law 16 RL room_1 kc) (hr : meth.sig.returnType = ret) (hk : meth.locks = false) (hX : va_X b L xs s s.heap) (hbl : b < s.heap.size) (hbA : ¬ A b) (hA : ∀ q, A q → s.heap.size ≤ q) (hkc : kc.1 ≤ 600000 ∧ kc.2 ≤ 7302249)   (z : St) (o1 : Nat) (x2 : Int32) (y3 : Int64) (x15 : Int32) (ho1 : kd o1 = 10) {res : St × Int32} (hres : res.2 = 1) (hf : f_L_law_1173 xs L  z o1 x2 y3 x15 = some res) : Zj p l e room_1 s m #[Value.ref b] below meth c g A 16 kc (lw_Z below #[Value.ref b] s) z 1173 [(1, .ref (g.1 o1)), (2, .int x2), (3, .long y3), (15, .int x15)] [] := by
  unfold f_L_law_1173 at hf
  refine z_aload_n C dL_law_1173 rfl 0 rfl ?_
  refine z_iconst C dL_law_1174 (v := 4) (by decide) ?_
  refine z_iload C dL_law_1175 3 rfl ?_
  refine z_bipush C dL_law_1177 (v := 53) (by decide) ?_
  refine z_bipush C dL_law_1179 (v := 44) (by decide) ?_
  refine z_bipush C dL_law_1181 (v := 48) (by decide) ?_
  refine z_iconst C dL_law_1183 (v := 0) (by decide) ?_
  obtain ⟨r1, hc2, hf⟩ := q_bd hf
  refine z_cVi C (st := []) (c_X10_feed ho1 hc2) mw_X10_feed ml_L_89 ho1 (by decide) rfl dL_law_1184 rfl rfl rfl ⟨Nat.le_of_ble_eq_true rfl, Nat.le_of_ble_eq_true rfl⟩ rfl (Nat.le_of_ble_eq_true rfl) ?_
  refine z_pop C dL_law_1187 rfl ?_
  refine z_aload_n C dL_law_1188 rfl 0 rfl ?_
  obtain ⟨r3, hc4, hf⟩ := q_bd hf
  refine z_cVi C (st := []) (c_X10_text ho1 hc4) mw_X10_text ml_L_119 ho1 (by decide) rfl dL_law_1189 rfl rfl rfl ⟨Nat.le_of_ble_eq_true rfl, Nat.le_of_ble_eq_true rfl⟩ rfl (Nat.le_of_ble_eq_true rfl) ?_
  refine z_bipush C dL_law_1192 (v := (-103)) (by decide) ?_
  exact z_icmp_ne C dL_law_1194 (by decide) (fun h => z_sub [] rfl (b_L_law_1206 C hr hk hX hbl hbA hA hkc r3.1 hres (q_f hf h))) (fun h => z_sub [0, 1, 2] rfl (b_L_law_1197 C hr hk hX hbl hbA hA hkc r3.1 o1 x2 y3 ho1 hres (q_t hf h)))
def f_L_law_1160 (xs : Nat → Int32) (L : Nat)  (z : St) (o1 : Nat) (x2 : Int32) (y3 : Int64) (x15 : Int32) : Option (St × Int32) :=
  ((f_X10_count z o1 0).bind fun r1 => if r1.2 = (x2 + 1) then f_L_law_1173 xs L r1.1 o1 x2 y3 x15 else f_L_law_1171 xs L r1.1)
theorem b_L_law_1160 {p : Program} {l : Launch} {e : Env} {s : State} {m : MethodId} {below : List Frame} {meth : Method} {c : Code} {b L : Nat} {xs : Nat → Int32} {kc : Nat × Nat} {g : Ga} {A : Nat → Prop} (C : Cx l g A p s m #[Value.ref b] c cL_law 16 RL room_1 kc) (hr : meth.sig.returnType = ret) (hk : meth.locks = false) (hX : va_X b L xs s s.heap) (hbl : b < s.heap.size) (hbA : ¬ A b) (hA : ∀ q, A q → s.heap.size ≤ q) (hkc : kc.1 ≤ 600000 ∧ kc.2 ≤ 7302249)   (z : St) (o1 : Nat) (x2 : Int32) (y3 : Int64) (x15 : Int32) (ho1 : kd o1 = 10) {res : St × Int32} (hres : res.2 = 1) (hf : f_L_law_1160 xs L  z o1 x2 y3 x15 = some res) : Zj p l e room_1 s m #[Value.ref b] below meth c g A 16 kc (lw_Z below #[Value.ref b] s) z 1160 [(1, .ref (g.1 o1)), (2, .int x2), (3, .long y3), (15, .int x15)] [] := by
  unfold f_L_law_1160 at hf
  refine z_aload_n C dL_law_1160 rfl 0 rfl ?_
  refine z_iconst C dL_law_1161 (v := 0) (by decide) ?_
  obtain ⟨r1, hc2, hf⟩ := q_bd hf
  refine z_cVi C (st := []) (c_X10_count ho1 hc2) mw_X10_count ml_L_27 ho1 (by decide) rfl dL_law_1162 rfl rfl rfl ⟨Nat.le_of_ble_eq_true rfl, Nat.le_of_ble_eq_true rfl⟩ rfl (Nat.le_of_ble_eq_true rfl) ?_
  refine z_iload_n C dL_law_1165 rfl 1 rfl ?_
  refine z_iconst C dL_law_1166 (v := 1) (by decide) ?_
  refine z_iadd C dL_law_1167 ?_
  exact z_icmp_eq C dL_law_1168 (by decide) (fun h => z_sub [0, 1, 2, 3] rfl (b_L_law_1173 C hr hk hX hbl hbA hA hkc r1.1 o1 x2 y3 x15 ho1 hres (q_t hf h))) (fun h => z_sub [] rfl (b_L_law_1171 C hr hk hX hbl hbA hA hkc r1.1 hres (q_f hf h)))
def f_L_law_1135 (xs : Nat → Int32) (L : Nat)  (z : St) (o1 : Nat) (x2 : Int32) (y3 : Int64) (x15 : Int32) : Option (St × Int32) :=
  ((f_X10_feed z o1 5 x15 57 57 44 49).bind fun r1 => ((f_X10_text r1.1 o1).bind fun r3 => if r3.2 = ((-101)) then f_L_law_1160 xs L r3.1 o1 x2 y3 x15 else f_L_law_1171 xs L r3.1))
theorem b_L_law_1135 {p : Program} {l : Launch} {e : Env} {s : State} {m : MethodId} {below : List Frame} {meth : Method} {c : Code} {b L : Nat} {xs : Nat → Int32} {kc : Nat × Nat} {g : Ga} {A : Nat → Prop} (C : Cx l g A p s m #[Value.ref b] c cL_law 16 RL room_1 kc) (hr : meth.sig.returnType = ret) (hk : meth.locks = false) (hX : va_X b L xs s s.heap) (hbl : b < s.heap.size) (hbA : ¬ A b) (hA : ∀ q, A q → s.heap.size ≤ q) (hkc : kc.1 ≤ 600000 ∧ kc.2 ≤ 7302249)   (z : St) (o1 : Nat) (x2 : Int32) (y3 : Int64) (x15 : Int32) (ho1 : kd o1 = 10) {res : St × Int32} (hres : res.2 = 1) (hf : f_L_law_1135 xs L  z o1 x2 y3 x15 = some res) : Zj p l e room_1 s m #[Value.ref b] below meth c g A 16 kc (lw_Z below #[Value.ref b] s) z 1135 [(1, .ref (g.1 o1)), (2, .int x2), (3, .long y3), (15, .int x15)] [] := by
  unfold f_L_law_1135 at hf
  refine z_aload_n C dL_law_1135 rfl 0 rfl ?_
  refine z_iconst C dL_law_1136 (v := 5) (by decide) ?_
  refine z_iload C dL_law_1137 3 rfl ?_
  refine z_bipush C dL_law_1139 (v := 57) (by decide) ?_
  refine z_bipush C dL_law_1141 (v := 57) (by decide) ?_
  refine z_bipush C dL_law_1143 (v := 44) (by decide) ?_
  refine z_bipush C dL_law_1145 (v := 49) (by decide) ?_
  obtain ⟨r1, hc2, hf⟩ := q_bd hf
  refine z_cVi C (st := []) (c_X10_feed ho1 hc2) mw_X10_feed ml_L_89 ho1 (by decide) rfl dL_law_1147 rfl rfl rfl ⟨Nat.le_of_ble_eq_true rfl, Nat.le_of_ble_eq_true rfl⟩ rfl (Nat.le_of_ble_eq_true rfl) ?_
  refine z_pop C dL_law_1150 rfl ?_
  refine z_aload_n C dL_law_1151 rfl 0 rfl ?_
  obtain ⟨r3, hc4, hf⟩ := q_bd hf
  refine z_cVi C (st := []) (c_X10_text ho1 hc4) mw_X10_text ml_L_119 ho1 (by decide) rfl dL_law_1152 rfl rfl rfl ⟨Nat.le_of_ble_eq_true rfl, Nat.le_of_ble_eq_true rfl⟩ rfl (Nat.le_of_ble_eq_true rfl) ?_
  refine z_bipush C dL_law_1155 (v := (-101)) (by decide) ?_
  exact z_icmp_ne C dL_law_1157 (by decide) (fun h => z_sub [] rfl (b_L_law_1171 C hr hk hX hbl hbA hA hkc r3.1 hres (q_f hf h))) (fun h => z_sub [0, 1, 2, 3] rfl (b_L_law_1160 C hr hk hX hbl hbA hA hkc r3.1 o1 x2 y3 x15 ho1 hres (q_t hf h)))
def f_L_law_1125 (xs : Nat → Int32) (L : Nat)  (z : St) (o1 : Nat) (x2 : Int32) (y3 : Int64) (x15 : Int32) : Option (St × Int32) :=
  ((f_X10_count z o1 2).bind fun r1 => if r1.2 = 0 then f_L_law_1135 xs L r1.1 o1 x2 y3 x15 else f_L_law_1133 xs L r1.1)
theorem b_L_law_1125 {p : Program} {l : Launch} {e : Env} {s : State} {m : MethodId} {below : List Frame} {meth : Method} {c : Code} {b L : Nat} {xs : Nat → Int32} {kc : Nat × Nat} {g : Ga} {A : Nat → Prop} (C : Cx l g A p s m #[Value.ref b] c cL_law 16 RL room_1 kc) (hr : meth.sig.returnType = ret) (hk : meth.locks = false) (hX : va_X b L xs s s.heap) (hbl : b < s.heap.size) (hbA : ¬ A b) (hA : ∀ q, A q → s.heap.size ≤ q) (hkc : kc.1 ≤ 600000 ∧ kc.2 ≤ 7302249)   (z : St) (o1 : Nat) (x2 : Int32) (y3 : Int64) (x15 : Int32) (ho1 : kd o1 = 10) {res : St × Int32} (hres : res.2 = 1) (hf : f_L_law_1125 xs L  z o1 x2 y3 x15 = some res) : Zj p l e room_1 s m #[Value.ref b] below meth c g A 16 kc (lw_Z below #[Value.ref b] s) z 1125 [(1, .ref (g.1 o1)), (2, .int x2), (3, .long y3), (15, .int x15)] [] := by
  unfold f_L_law_1125 at hf
  refine z_aload_n C dL_law_1125 rfl 0 rfl ?_
  refine z_iconst C dL_law_1126 (v := 2) (by decide) ?_
  obtain ⟨r1, hc2, hf⟩ := q_bd hf
  refine z_cVi C (st := []) (c_X10_count ho1 hc2) mw_X10_count ml_L_27 ho1 (by decide) rfl dL_law_1127 rfl rfl rfl ⟨Nat.le_of_ble_eq_true rfl, Nat.le_of_ble_eq_true rfl⟩ rfl (Nat.le_of_ble_eq_true rfl) ?_
  exact z_if_eq C dL_law_1130 (by decide) (fun h => z_sub [0, 1, 2, 3] rfl (b_L_law_1135 C hr hk hX hbl hbA hA hkc r1.1 o1 x2 y3 x15 ho1 hres (q_t hf h))) (fun h => z_sub [] rfl (b_L_law_1133 C hr hk hX hbl hbA hA hkc r1.1 hres (q_f hf h)))
def f_L_law_1114 (xs : Nat → Int32) (L : Nat)  (z : St) (o1 : Nat) (x2 : Int32) (y3 : Int64) (x14 : Int32) (x15 : Int32) : Option (St × Int32) :=
  ((f_X10_told z o1 x2 3).bind fun r1 => if r1.2 = x14 then f_L_law_1125 xs L r1.1 o1 x2 y3 x15 else f_L_law_1133 xs L r1.1)
theorem b_L_law_1114 {p : Program} {l : Launch} {e : Env} {s : State} {m : MethodId} {below : List Frame} {meth : Method} {c : Code} {b L : Nat} {xs : Nat → Int32} {kc : Nat × Nat} {g : Ga} {A : Nat → Prop} (C : Cx l g A p s m #[Value.ref b] c cL_law 16 RL room_1 kc) (hr : meth.sig.returnType = ret) (hk : meth.locks = false) (hX : va_X b L xs s s.heap) (hbl : b < s.heap.size) (hbA : ¬ A b) (hA : ∀ q, A q → s.heap.size ≤ q) (hkc : kc.1 ≤ 600000 ∧ kc.2 ≤ 7302249)   (z : St) (o1 : Nat) (x2 : Int32) (y3 : Int64) (x14 : Int32) (x15 : Int32) (ho1 : kd o1 = 10) {res : St × Int32} (hres : res.2 = 1) (hf : f_L_law_1114 xs L  z o1 x2 y3 x14 x15 = some res) : Zj p l e room_1 s m #[Value.ref b] below meth c g A 16 kc (lw_Z below #[Value.ref b] s) z 1114 [(1, .ref (g.1 o1)), (2, .int x2), (3, .long y3), (14, .int x14), (15, .int x15)] [] := by
  unfold f_L_law_1114 at hf
  refine z_aload_n C dL_law_1114 rfl 0 rfl ?_
  refine z_iload_n C dL_law_1115 rfl 1 rfl ?_
  refine z_iconst C dL_law_1116 (v := 3) (by decide) ?_
  obtain ⟨r1, hc2, hf⟩ := q_bd hf
  refine z_cVi C (st := []) (c_X10_told ho1 hc2) mw_X10_told ml_L_33 ho1 (by decide) rfl dL_law_1117 rfl rfl rfl ⟨Nat.le_of_ble_eq_true rfl, Nat.le_of_ble_eq_true rfl⟩ rfl (Nat.le_of_ble_eq_true rfl) ?_
  refine z_iload C dL_law_1120 3 rfl ?_
  exact z_icmp_ne C dL_law_1122 (by decide) (fun h => z_sub [] rfl (b_L_law_1133 C hr hk hX hbl hbA hA hkc r1.1 hres (q_f hf h))) (fun h => z_sub [0, 1, 2, 4] rfl (b_L_law_1125 C hr hk hX hbl hbA hA hkc r1.1 o1 x2 y3 x15 ho1 hres (q_t hf h)))
def f_L_law_1103 (xs : Nat → Int32) (L : Nat)  (z : St) (o1 : Nat) (x2 : Int32) (y3 : Int64) (x13 : Int32) (x14 : Int32) (x15 : Int32) : Option (St × Int32) :=
  ((f_X10_told z o1 x2 2).bind fun r1 => if r1.2 = x13 then f_L_law_1114 xs L r1.1 o1 x2 y3 x14 x15 else f_L_law_1133 xs L r1.1)
theorem b_L_law_1103 {p : Program} {l : Launch} {e : Env} {s : State} {m : MethodId} {below : List Frame} {meth : Method} {c : Code} {b L : Nat} {xs : Nat → Int32} {kc : Nat × Nat} {g : Ga} {A : Nat → Prop} (C : Cx l g A p s m #[Value.ref b] c cL_law 16 RL room_1 kc) (hr : meth.sig.returnType = ret) (hk : meth.locks = false) (hX : va_X b L xs s s.heap) (hbl : b < s.heap.size) (hbA : ¬ A b) (hA : ∀ q, A q → s.heap.size ≤ q) (hkc : kc.1 ≤ 600000 ∧ kc.2 ≤ 7302249)   (z : St) (o1 : Nat) (x2 : Int32) (y3 : Int64) (x13 : Int32) (x14 : Int32) (x15 : Int32) (ho1 : kd o1 = 10) {res : St × Int32} (hres : res.2 = 1) (hf : f_L_law_1103 xs L  z o1 x2 y3 x13 x14 x15 = some res) : Zj p l e room_1 s m #[Value.ref b] below meth c g A 16 kc (lw_Z below #[Value.ref b] s) z 1103 [(1, .ref (g.1 o1)), (2, .int x2), (3, .long y3), (13, .int x13), (14, .int x14), (15, .int x15)] [] := by
  unfold f_L_law_1103 at hf
  refine z_aload_n C dL_law_1103 rfl 0 rfl ?_
  refine z_iload_n C dL_law_1104 rfl 1 rfl ?_
  refine z_iconst C dL_law_1105 (v := 2) (by decide) ?_
  obtain ⟨r1, hc2, hf⟩ := q_bd hf
  refine z_cVi C (st := []) (c_X10_told ho1 hc2) mw_X10_told ml_L_33 ho1 (by decide) rfl dL_law_1106 rfl rfl rfl ⟨Nat.le_of_ble_eq_true rfl, Nat.le_of_ble_eq_true rfl⟩ rfl (Nat.le_of_ble_eq_true rfl) ?_
  refine z_iload C dL_law_1109 3 rfl ?_
  exact z_icmp_ne C dL_law_1111 (by decide) (fun h => z_sub [] rfl (b_L_law_1133 C hr hk hX hbl hbA hA hkc r1.1 hres (q_f hf h))) (fun h => z_sub [0, 1, 2, 4, 5] rfl (b_L_law_1114 C hr hk hX hbl hbA hA hkc r1.1 o1 x2 y3 x14 x15 ho1 hres (q_t hf h)))
def f_L_law_1092 (xs : Nat → Int32) (L : Nat)  (z : St) (o1 : Nat) (x2 : Int32) (y3 : Int64) (x12 : Int32) (x13 : Int32) (x14 : Int32) (x15 : Int32) : Option (St × Int32) :=
  ((f_X10_told z o1 x2 1).bind fun r1 => if r1.2 = x12 then f_L_law_1103 xs L r1.1 o1 x2 y3 x13 x14 x15 else f_L_law_1133 xs L r1.1)
theorem b_L_law_1092 {p : Program} {l : Launch} {e : Env} {s : State} {m : MethodId} {below : List Frame} {meth : Method} {c : Code} {b L : Nat} {xs : Nat → Int32} {kc : Nat × Nat} {g : Ga} {A : Nat → Prop} (C : Cx l g A p s m #[Value.ref b] c cL_law 16 RL room_1 kc) (hr : meth.sig.returnType = ret) (hk : meth.locks = false) (hX : va_X b L xs s s.heap) (hbl : b < s.heap.size) (hbA : ¬ A b) (hA : ∀ q, A q → s.heap.size ≤ q) (hkc : kc.1 ≤ 600000 ∧ kc.2 ≤ 7302249)   (z : St) (o1 : Nat) (x2 : Int32) (y3 : Int64) (x12 : Int32) (x13 : Int32) (x14 : Int32) (x15 : Int32) (ho1 : kd o1 = 10) {res : St × Int32} (hres : res.2 = 1) (hf : f_L_law_1092 xs L  z o1 x2 y3 x12 x13 x14 x15 = some res) : Zj p l e room_1 s m #[Value.ref b] below meth c g A 16 kc (lw_Z below #[Value.ref b] s) z 1092 [(1, .ref (g.1 o1)), (2, .int x2), (3, .long y3), (12, .int x12), (13, .int x13), (14, .int x14), (15, .int x15)] [] := by
  unfold f_L_law_1092 at hf
  refine z_aload_n C dL_law_1092 rfl 0 rfl ?_
  refine z_iload_n C dL_law_1093 rfl 1 rfl ?_
  refine z_iconst C dL_law_1094 (v := 1) (by decide) ?_
  obtain ⟨r1, hc2, hf⟩ := q_bd hf
  refine z_cVi C (st := []) (c_X10_told ho1 hc2) mw_X10_told ml_L_33 ho1 (by decide) rfl dL_law_1095 rfl rfl rfl ⟨Nat.le_of_ble_eq_true rfl, Nat.le_of_ble_eq_true rfl⟩ rfl (Nat.le_of_ble_eq_true rfl) ?_
  refine z_iload C dL_law_1098 3 rfl ?_
  exact z_icmp_ne C dL_law_1100 (by decide) (fun h => z_sub [] rfl (b_L_law_1133 C hr hk hX hbl hbA hA hkc r1.1 hres (q_f hf h))) (fun h => z_sub [0, 1, 2, 4, 5, 6] rfl (b_L_law_1103 C hr hk hX hbl hbA hA hkc r1.1 o1 x2 y3 x13 x14 x15 ho1 hres (q_t hf h)))
def f_L_law_1081 (xs : Nat → Int32) (L : Nat)  (z : St) (o1 : Nat) (x2 : Int32) (y3 : Int64) (x11 : Int32) (x12 : Int32) (x13 : Int32) (x14 : Int32) (x15 : Int32) : Option (St × Int32) :=
  ((f_X10_told z o1 x2 0).bind fun r1 => if r1.2 = x11 then f_L_law_1092 xs L r1.1 o1 x2 y3 x12 x13 x14 x15 else f_L_law_1133 xs L r1.1)
theorem b_L_law_1081 {p : Program} {l : Launch} {e : Env} {s : State} {m : MethodId} {below : List Frame} {meth : Method} {c : Code} {b L : Nat} {xs : Nat → Int32} {kc : Nat × Nat} {g : Ga} {A : Nat → Prop} (C : Cx l g A p s m #[Value.ref b] c cL_law 16 RL room_1 kc) (hr : meth.sig.returnType = ret) (hk : meth.locks = false) (hX : va_X b L xs s s.heap) (hbl : b < s.heap.size) (hbA : ¬ A b) (hA : ∀ q, A q → s.heap.size ≤ q) (hkc : kc.1 ≤ 600000 ∧ kc.2 ≤ 7302249)   (z : St) (o1 : Nat) (x2 : Int32) (y3 : Int64) (x11 : Int32) (x12 : Int32) (x13 : Int32) (x14 : Int32) (x15 : Int32) (ho1 : kd o1 = 10) {res : St × Int32} (hres : res.2 = 1) (hf : f_L_law_1081 xs L  z o1 x2 y3 x11 x12 x13 x14 x15 = some res) : Zj p l e room_1 s m #[Value.ref b] below meth c g A 16 kc (lw_Z below #[Value.ref b] s) z 1081 [(1, .ref (g.1 o1)), (2, .int x2), (3, .long y3), (11, .int x11), (12, .int x12), (13, .int x13), (14, .int x14), (15, .int x15)] [] := by
  unfold f_L_law_1081 at hf
  refine z_aload_n C dL_law_1081 rfl 0 rfl ?_
  refine z_iload_n C dL_law_1082 rfl 1 rfl ?_
  refine z_iconst C dL_law_1083 (v := 0) (by decide) ?_
  obtain ⟨r1, hc2, hf⟩ := q_bd hf
  refine z_cVi C (st := []) (c_X10_told ho1 hc2) mw_X10_told ml_L_33 ho1 (by decide) rfl dL_law_1084 rfl rfl rfl ⟨Nat.le_of_ble_eq_true rfl, Nat.le_of_ble_eq_true rfl⟩ rfl (Nat.le_of_ble_eq_true rfl) ?_
  refine z_iload C dL_law_1087 3 rfl ?_
  exact z_icmp_ne C dL_law_1089 (by decide) (fun h => z_sub [] rfl (b_L_law_1133 C hr hk hX hbl hbA hA hkc r1.1 hres (q_f hf h))) (fun h => z_sub [0, 1, 2, 4, 5, 6, 7] rfl (b_L_law_1092 C hr hk hX hbl hbA hA hkc r1.1 o1 x2 y3 x12 x13 x14 x15 ho1 hres (q_t hf h)))
def f_L_law_1071 (xs : Nat → Int32) (L : Nat)  (z : St) (o1 : Nat) (x2 : Int32) (y3 : Int64) (x11 : Int32) (x12 : Int32) (x13 : Int32) (x14 : Int32) (x15 : Int32) : Option (St × Int32) :=
  ((f_X10_text z o1).bind fun r1 => if r1.2 = (x2 + 1) then f_L_law_1081 xs L r1.1 o1 x2 y3 x11 x12 x13 x14 x15 else f_L_law_1133 xs L r1.1)
theorem b_L_law_1071 {p : Program} {l : Launch} {e : Env} {s : State} {m : MethodId} {below : List Frame} {meth : Method} {c : Code} {b L : Nat} {xs : Nat → Int32} {kc : Nat × Nat} {g : Ga} {A : Nat → Prop} (C : Cx l g A p s m #[Value.ref b] c cL_law 16 RL room_1 kc) (hr : meth.sig.returnType = ret) (hk : meth.locks = false) (hX : va_X b L xs s s.heap) (hbl : b < s.heap.size) (hbA : ¬ A b) (hA : ∀ q, A q → s.heap.size ≤ q) (hkc : kc.1 ≤ 600000 ∧ kc.2 ≤ 7302249)   (z : St) (o1 : Nat) (x2 : Int32) (y3 : Int64) (x11 : Int32) (x12 : Int32) (x13 : Int32) (x14 : Int32) (x15 : Int32) (ho1 : kd o1 = 10) {res : St × Int32} (hres : res.2 = 1) (hf : f_L_law_1071 xs L  z o1 x2 y3 x11 x12 x13 x14 x15 = some res) : Zj p l e room_1 s m #[Value.ref b] below meth c g A 16 kc (lw_Z below #[Value.ref b] s) z 1071 [(1, .ref (g.1 o1)), (2, .int x2), (3, .long y3), (11, .int x11), (12, .int x12), (13, .int x13), (14, .int x14), (15, .int x15)] [] := by
  unfold f_L_law_1071 at hf
  refine z_aload_n C dL_law_1071 rfl 0 rfl ?_
  obtain ⟨r1, hc2, hf⟩ := q_bd hf
  refine z_cVi C (st := []) (c_X10_text ho1 hc2) mw_X10_text ml_L_119 ho1 (by decide) rfl dL_law_1072 rfl rfl rfl ⟨Nat.le_of_ble_eq_true rfl, Nat.le_of_ble_eq_true rfl⟩ rfl (Nat.le_of_ble_eq_true rfl) ?_
  refine z_iload_n C dL_law_1075 rfl 1 rfl ?_
  refine z_iconst C dL_law_1076 (v := 1) (by decide) ?_
  refine z_iadd C dL_law_1077 ?_
  exact z_icmp_ne C dL_law_1078 (by decide) (fun h => z_sub [] rfl (b_L_law_1133 C hr hk hX hbl hbA hA hkc r1.1 hres (q_f hf h))) (fun h => z_sub [0, 1, 2, 3, 4, 5, 6, 7] rfl (b_L_law_1081 C hr hk hX hbl hbA hA hkc r1.1 o1 x2 y3 x11 x12 x13 x14 x15 ho1 hres (q_t hf h)))
def f_L_law_1033 (xs : Nat → Int32) (L : Nat)  (z : St) (o1 : Nat) (x2 : Int32) (y3 : Int64) (x11 : Int32) (x12 : Int32) (x13 : Int32) (x14 : Int32) (x15 : Int32) : Option (St × Int32) :=
  if x2 = 8 then f_L_law_1039 xs L z o1 y3 else f_L_law_1071 xs L z o1 x2 y3 x11 x12 x13 x14 x15
theorem b_L_law_1033 {p : Program} {l : Launch} {e : Env} {s : State} {m : MethodId} {below : List Frame} {meth : Method} {c : Code} {b L : Nat} {xs : Nat → Int32} {kc : Nat × Nat} {g : Ga} {A : Nat → Prop} (C : Cx l g A p s m #[Value.ref b] c cL_law 16 RL room_1 kc) (hr : meth.sig.returnType = ret) (hk : meth.locks = false) (hX : va_X b L xs s s.heap) (hbl : b < s.heap.size) (hbA : ¬ A b) (hA : ∀ q, A q → s.heap.size ≤ q) (hkc : kc.1 ≤ 600000 ∧ kc.2 ≤ 7302249)   (z : St) (o1 : Nat) (x2 : Int32) (y3 : Int64) (x11 : Int32) (x12 : Int32) (x13 : Int32) (x14 : Int32) (x15 : Int32) (ho1 : kd o1 = 10) {res : St × Int32} (hres : res.2 = 1) (hf : f_L_law_1033 xs L  z o1 x2 y3 x11 x12 x13 x14 x15 = some res) : Zj p l e room_1 s m #[Value.ref b] below meth c g A 16 kc (lw_Z below #[Value.ref b] s) z 1033 [(1, .ref (g.1 o1)), (2, .int x2), (3, .long y3), (11, .int x11), (12, .int x12), (13, .int x13), (14, .int x14), (15, .int x15)] [] := by
  unfold f_L_law_1033 at hf
  refine z_iload_n C dL_law_1033 rfl 1 rfl ?_
  refine z_bipush C dL_law_1034 (v := 8) (by decide) ?_
  exact z_icmp_ne C dL_law_1036 (by decide) (fun h => z_sub [0, 1, 2, 3, 4, 5, 6, 7] rfl (b_L_law_1071 C hr hk hX hbl hbA hA hkc z o1 x2 y3 x11 x12 x13 x14 x15 ho1 hres (q_f hf h))) (fun h => z_sub [0, 2] rfl (b_L_law_1039 C hr hk hX hbl hbA hA hkc z o1 y3 ho1 hres (q_t hf h)))
def f_L_law_952 (xs : Nat → Int32) (L : Nat)  (z : St) (o1 : Nat) (x2 : Int32) (y3 : Int64) (x11 : Int32) (x12 : Int32) (x13 : Int32) (x14 : Int32) (s0 : Int32) : Option (St × Int32) :=
  ((f_X10_feed z o1 4 s0 (48 + (x12 / 10)) (48 + (x12 - x12 / 10 * 10)) 44 0).bind fun r1 => ((f_X10_feed r1.1 o1 5 (48 + (x13 / 10)) (48 + (x13 - x13 / 10 * 10)) 44 (48 + (x14 / 10)) (48 + (x14 - x14 / 10 * 10))).bind fun r3 => ((f_X10_count r3.1 o1 2).bind fun r5 => if r5.2 = 9 then f_L_law_1033 xs L r5.1 o1 x2 y3 x11 x12 x13 x14 s0 else f_L_law_1031 xs L r5.1)))
theorem b_L_law_952 {p : Program} {l : Launch} {e : Env} {s : State} {m : MethodId} {below : List Frame} {meth : Method} {c : Code} {b L : Nat} {xs : Nat → Int32} {kc : Nat × Nat} {g : Ga} {A : Nat → Prop} (C : Cx l g A p s m #[Value.ref b] c cL_law 16 RL room_1 kc) (hr : meth.sig.returnType = ret) (hk : meth.locks = false) (hX : va_X b L xs s s.heap) (hbl : b < s.heap.size) (hbA : ¬ A b) (hA : ∀ q, A q → s.heap.size ≤ q) (hkc : kc.1 ≤ 600000 ∧ kc.2 ≤ 7302249)   (z : St) (o1 : Nat) (x2 : Int32) (y3 : Int64) (x11 : Int32) (x12 : Int32) (x13 : Int32) (x14 : Int32) (s0 : Int32) (ho1 : kd o1 = 10) {res : St × Int32} (hres : res.2 = 1) (hf : f_L_law_952 xs L  z o1 x2 y3 x11 x12 x13 x14 s0 = some res) : Zj p l e room_1 s m #[Value.ref b] below meth c g A 16 kc (lw_Z below #[Value.ref b] s) z 952 [(1, .ref (g.1 o1)), (2, .int x2), (3, .long y3), (11, .int x11), (12, .int x12), (13, .int x13), (14, .int x14)] [.int s0] := by
  unfold f_L_law_952 at hf
  refine z_istore C (lv2 := [(15, .int s0), (1, .ref (g.1 o1)), (2, .int x2), (3, .long y3), (11, .int x11), (12, .int x12), (13, .int x13), (14, .int x14)]) dL_law_952 (by decide) rfl ?_
  refine z_aload_n C dL_law_954 rfl 1 rfl ?_
  refine z_iconst C dL_law_955 (v := 4) (by decide) ?_
  refine z_iload C dL_law_956 0 rfl ?_
  refine z_bipush C dL_law_958 (v := 48) (by decide) ?_
  refine z_iload C dL_law_960 5 rfl ?_
  refine z_bipush C dL_law_962 (v := 10) (by decide) ?_
  refine z_idiv C dL_law_964 (by decide) ?_
  refine z_iadd C dL_law_965 ?_
  refine z_bipush C dL_law_966 (v := 48) (by decide) ?_
  refine z_iload C dL_law_968 5 rfl ?_
  refine z_bipush C dL_law_970 (v := 10) (by decide) ?_
  refine z_irem C dL_law_972 (by decide) ?_
  refine z_iadd C dL_law_973 ?_
  refine z_bipush C dL_law_974 (v := 44) (by decide) ?_
  refine z_iconst C dL_law_976 (v := 0) (by decide) ?_
  obtain ⟨r1, hc2, hf⟩ := q_bd hf
  refine z_cVi C (st := []) (c_X10_feed ho1 hc2) mw_X10_feed ml_L_89 ho1 (by decide) rfl dL_law_977 rfl rfl rfl ⟨Nat.le_of_ble_eq_true rfl, Nat.le_of_ble_eq_true rfl⟩ rfl (Nat.le_of_ble_eq_true rfl) ?_
  refine z_pop C dL_law_980 rfl ?_
  refine z_aload_n C dL_law_981 rfl 1 rfl ?_
  refine z_iconst C dL_law_982 (v := 5) (by decide) ?_
  refine z_bipush C dL_law_983 (v := 48) (by decide) ?_
  refine z_iload C dL_law_985 6 rfl ?_
  refine z_bipush C dL_law_987 (v := 10) (by decide) ?_
  refine z_idiv C dL_law_989 (by decide) ?_
  refine z_iadd C dL_law_990 ?_
  refine z_bipush C dL_law_991 (v := 48) (by decide) ?_
  refine z_iload C dL_law_993 6 rfl ?_
  refine z_bipush C dL_law_995 (v := 10) (by decide) ?_
  refine z_irem C dL_law_997 (by decide) ?_
  refine z_iadd C dL_law_998 ?_
  refine z_bipush C dL_law_999 (v := 44) (by decide) ?_
  refine z_bipush C dL_law_1001 (v := 48) (by decide) ?_
  refine z_iload C dL_law_1003 7 rfl ?_
  refine z_bipush C dL_law_1005 (v := 10) (by decide) ?_
  refine z_idiv C dL_law_1007 (by decide) ?_
  refine z_iadd C dL_law_1008 ?_
  refine z_bipush C dL_law_1009 (v := 48) (by decide) ?_
  refine z_iload C dL_law_1011 7 rfl ?_
  refine z_bipush C dL_law_1013 (v := 10) (by decide) ?_
  refine z_irem C dL_law_1015 (by decide) ?_
  refine z_iadd C dL_law_1016 ?_
  obtain ⟨r3, hc4, hf⟩ := q_bd hf
  refine z_cVi C (st := []) (c_X10_feed ho1 hc4) mw_X10_feed ml_L_89 ho1 (by decide) rfl dL_law_1017 rfl rfl rfl ⟨Nat.le_of_ble_eq_true rfl, Nat.le_of_ble_eq_true rfl⟩ rfl (Nat.le_of_ble_eq_true rfl) ?_
  refine z_pop C dL_law_1020 rfl ?_
  refine z_aload_n C dL_law_1021 rfl 1 rfl ?_
  refine z_iconst C dL_law_1022 (v := 2) (by decide) ?_
  obtain ⟨r5, hc6, hf⟩ := q_bd hf
  refine z_cVi C (st := []) (c_X10_count ho1 hc6) mw_X10_count ml_L_27 ho1 (by decide) rfl dL_law_1023 rfl rfl rfl ⟨Nat.le_of_ble_eq_true rfl, Nat.le_of_ble_eq_true rfl⟩ rfl (Nat.le_of_ble_eq_true rfl) ?_
  refine z_bipush C dL_law_1026 (v := 9) (by decide) ?_
  exact z_icmp_eq C dL_law_1028 (by decide) (fun h => z_sub [1, 2, 3, 4, 5, 6, 7, 0] rfl (b_L_law_1033 C hr hk hX hbl hbA hA hkc r5.1 o1 x2 y3 x11 x12 x13 x14 s0 ho1 hres (q_t hf h))) (fun h => z_sub [] rfl (b_L_law_1031 C hr hk hX hbl hbA hA hkc r5.1 hres (q_f hf h)))
def f_L_law_901 (xs : Nat → Int32) (L : Nat)  (z : St) (o1 : Nat) (x2 : Int32) (y3 : Int64) (x11 : Int32) (x12 : Int32) (x13 : Int32) (x14 : Int32) : Option (St × Int32) :=
  f_L_law_952 xs L z o1 x2 y3 x11 x12 x13 x14 112
theorem b_L_law_901 {p : Program} {l : Launch} {e : Env} {s : State} {m : MethodId} {below : List Frame} {meth : Method} {c : Code} {b L : Nat} {xs : Nat → Int32} {kc : Nat × Nat} {g : Ga} {A : Nat → Prop} (C : Cx l g A p s m #[Value.ref b] c cL_law 16 RL room_1 kc) (hr : meth.sig.returnType = ret) (hk : meth.locks = false) (hX : va_X b L xs s s.heap) (hbl : b < s.heap.size) (hbA : ¬ A b) (hA : ∀ q, A q → s.heap.size ≤ q) (hkc : kc.1 ≤ 600000 ∧ kc.2 ≤ 7302249)   (z : St) (o1 : Nat) (x2 : Int32) (y3 : Int64) (x11 : Int32) (x12 : Int32) (x13 : Int32) (x14 : Int32) (ho1 : kd o1 = 10) {res : St × Int32} (hres : res.2 = 1) (hf : f_L_law_901 xs L  z o1 x2 y3 x11 x12 x13 x14 = some res) : Zj p l e room_1 s m #[Value.ref b] below meth c g A 16 kc (lw_Z below #[Value.ref b] s) z 901 [(1, .ref (g.1 o1)), (2, .int x2), (3, .long y3), (11, .int x11), (12, .int x12), (13, .int x13), (14, .int x14)] [] := by
  unfold f_L_law_901 at hf
  refine z_bipush C dL_law_901 (v := 112) (by decide) ?_
  exact z_goto C dL_law_903 (by decide) (z_sub [0, 1, 2, 3, 4, 5, 6] rfl (b_L_law_952 C hr hk hX hbl hbA hA hkc z o1 x2 y3 x11 x12 x13 x14 112 ho1 hres hf))
def f_L_law_912 (xs : Nat → Int32) (L : Nat)  (z : St) (o1 : Nat) (x2 : Int32) (y3 : Int64) (x11 : Int32) (x12 : Int32) (x13 : Int32) (x14 : Int32) : Option (St × Int32) :=
  f_L_law_952 xs L z o1 x2 y3 x11 x12 x13 x14 114
theorem b_L_law_912 {p : Program} {l : Launch} {e : Env} {s : State} {m : MethodId} {below : List Frame} {meth : Method} {c : Code} {b L : Nat} {xs : Nat → Int32} {kc : Nat × Nat} {g : Ga} {A : Nat → Prop} (C : Cx l g A p s m #[Value.ref b] c cL_law 16 RL room_1 kc) (hr : meth.sig.returnType = ret) (hk : meth.locks = false) (hX : va_X b L xs s s.heap) (hbl : b < s.heap.size) (hbA : ¬ A b) (hA : ∀ q, A q → s.heap.size ≤ q) (hkc : kc.1 ≤ 600000 ∧ kc.2 ≤ 7302249)   (z : St) (o1 : Nat) (x2 : Int32) (y3 : Int64) (x11 : Int32) (x12 : Int32) (x13 : Int32) (x14 : Int32) (ho1 : kd o1 = 10) {res : St × Int32} (hres : res.2 = 1) (hf : f_L_law_912 xs L  z o1 x2 y3 x11 x12 x13 x14 = some res) : Zj p l e room_1 s m #[Value.ref b] below meth c g A 16 kc (lw_Z below #[Value.ref b] s) z 912 [(1, .ref (g.1 o1)), (2, .int x2), (3, .long y3), (11, .int x11), (12, .int x12), (13, .int x13), (14, .int x14)] [] := by
  unfold f_L_law_912 at hf
  refine z_bipush C dL_law_912 (v := 114) (by decide) ?_
  exact z_goto C dL_law_914 (by decide) (z_sub [0, 1, 2, 3, 4, 5, 6] rfl (b_L_law_952 C hr hk hX hbl hbA hA hkc z o1 x2 y3 x11 x12 x13 x14 114 ho1 hres hf))
def f_L_law_923 (xs : Nat → Int32) (L : Nat)  (z : St) (o1 : Nat) (x2 : Int32) (y3 : Int64) (x11 : Int32) (x12 : Int32) (x13 : Int32) (x14 : Int32) : Option (St × Int32) :=
  f_L_law_952 xs L z o1 x2 y3 x11 x12 x13 x14 104
theorem b_L_law_923 {p : Program} {l : Launch} {e : Env} {s : State} {m : MethodId} {below : List Frame} {meth : Method} {c : Code} {b L : Nat} {xs : Nat → Int32} {kc : Nat × Nat} {g : Ga} {A : Nat → Prop} (C : Cx l g A p s m #[Value.ref b] c cL_law 16 RL room_1 kc) (hr : meth.sig.returnType = ret) (hk : meth.locks = false) (hX : va_X b L xs s s.heap) (hbl : b < s.heap.size) (hbA : ¬ A b) (hA : ∀ q, A q → s.heap.size ≤ q) (hkc : kc.1 ≤ 600000 ∧ kc.2 ≤ 7302249)   (z : St) (o1 : Nat) (x2 : Int32) (y3 : Int64) (x11 : Int32) (x12 : Int32) (x13 : Int32) (x14 : Int32) (ho1 : kd o1 = 10) {res : St × Int32} (hres : res.2 = 1) (hf : f_L_law_923 xs L  z o1 x2 y3 x11 x12 x13 x14 = some res) : Zj p l e room_1 s m #[Value.ref b] below meth c g A 16 kc (lw_Z below #[Value.ref b] s) z 923 [(1, .ref (g.1 o1)), (2, .int x2), (3, .long y3), (11, .int x11), (12, .int x12), (13, .int x13), (14, .int x14)] [] := by
  unfold f_L_law_923 at hf
  refine z_bipush C dL_law_923 (v := 104) (by decide) ?_
  exact z_goto C dL_law_925 (by decide) (z_sub [0, 1, 2, 3, 4, 5, 6] rfl (b_L_law_952 C hr hk hX hbl hbA hA hkc z o1 x2 y3 x11 x12 x13 x14 104 ho1 hres hf))
def f_L_law_934 (xs : Nat → Int32) (L : Nat)  (z : St) (o1 : Nat) (x2 : Int32) (y3 : Int64) (x11 : Int32) (x12 : Int32) (x13 : Int32) (x14 : Int32) : Option (St × Int32) :=
  f_L_law_952 xs L z o1 x2 y3 x11 x12 x13 x14 100
theorem b_L_law_934 {p : Program} {l : Launch} {e : Env} {s : State} {m : MethodId} {below : List Frame} {meth : Method} {c : Code} {b L : Nat} {xs : Nat → Int32} {kc : Nat × Nat} {g : Ga} {A : Nat → Prop} (C : Cx l g A p s m #[Value.ref b] c cL_law 16 RL room_1 kc) (hr : meth.sig.returnType = ret) (hk : meth.locks = false) (hX : va_X b L xs s s.heap) (hbl : b < s.heap.size) (hbA : ¬ A b) (hA : ∀ q, A q → s.heap.size ≤ q) (hkc : kc.1 ≤ 600000 ∧ kc.2 ≤ 7302249)   (z : St) (o1 : Nat) (x2 : Int32) (y3 : Int64) (x11 : Int32) (x12 : Int32) (x13 : Int32) (x14 : Int32) (ho1 : kd o1 = 10) {res : St × Int32} (hres : res.2 = 1) (hf : f_L_law_934 xs L  z o1 x2 y3 x11 x12 x13 x14 = some res) : Zj p l e room_1 s m #[Value.ref b] below meth c g A 16 kc (lw_Z below #[Value.ref b] s) z 934 [(1, .ref (g.1 o1)), (2, .int x2), (3, .long y3), (11, .int x11), (12, .int x12), (13, .int x13), (14, .int x14)] [] := by
  unfold f_L_law_934 at hf
  refine z_bipush C dL_law_934 (v := 100) (by decide) ?_
  exact z_goto C dL_law_936 (by decide) (z_sub [0, 1, 2, 3, 4, 5, 6] rfl (b_L_law_952 C hr hk hX hbl hbA hA hkc z o1 x2 y3 x11 x12 x13 x14 100 ho1 hres hf))
def f_L_law_945 (xs : Nat → Int32) (L : Nat)  (z : St) (o1 : Nat) (x2 : Int32) (y3 : Int64) (x11 : Int32) (x12 : Int32) (x13 : Int32) (x14 : Int32) : Option (St × Int32) :=
  f_L_law_952 xs L z o1 x2 y3 x11 x12 x13 x14 109
theorem b_L_law_945 {p : Program} {l : Launch} {e : Env} {s : State} {m : MethodId} {below : List Frame} {meth : Method} {c : Code} {b L : Nat} {xs : Nat → Int32} {kc : Nat × Nat} {g : Ga} {A : Nat → Prop} (C : Cx l g A p s m #[Value.ref b] c cL_law 16 RL room_1 kc) (hr : meth.sig.returnType = ret) (hk : meth.locks = false) (hX : va_X b L xs s s.heap) (hbl : b < s.heap.size) (hbA : ¬ A b) (hA : ∀ q, A q → s.heap.size ≤ q) (hkc : kc.1 ≤ 600000 ∧ kc.2 ≤ 7302249)   (z : St) (o1 : Nat) (x2 : Int32) (y3 : Int64) (x11 : Int32) (x12 : Int32) (x13 : Int32) (x14 : Int32) (ho1 : kd o1 = 10) {res : St × Int32} (hres : res.2 = 1) (hf : f_L_law_945 xs L  z o1 x2 y3 x11 x12 x13 x14 = some res) : Zj p l e room_1 s m #[Value.ref b] below meth c g A 16 kc (lw_Z below #[Value.ref b] s) z 945 [(1, .ref (g.1 o1)), (2, .int x2), (3, .long y3), (11, .int x11), (12, .int x12), (13, .int x13), (14, .int x14)] [] := by
  unfold f_L_law_945 at hf
  refine z_bipush C dL_law_945 (v := 109) (by decide) ?_
  exact z_goto C dL_law_947 (by decide) (z_sub [0, 1, 2, 3, 4, 5, 6] rfl (b_L_law_952 C hr hk hX hbl hbA hA hkc z o1 x2 y3 x11 x12 x13 x14 109 ho1 hres hf))
def f_L_law_950 (xs : Nat → Int32) (L : Nat)  (z : St) (o1 : Nat) (x2 : Int32) (y3 : Int64) (x11 : Int32) (x12 : Int32) (x13 : Int32) (x14 : Int32) : Option (St × Int32) :=
  f_L_law_952 xs L z o1 x2 y3 x11 x12 x13 x14 115
theorem b_L_law_950 {p : Program} {l : Launch} {e : Env} {s : State} {m : MethodId} {below : List Frame} {meth : Method} {c : Code} {b L : Nat} {xs : Nat → Int32} {kc : Nat × Nat} {g : Ga} {A : Nat → Prop} (C : Cx l g A p s m #[Value.ref b] c cL_law 16 RL room_1 kc) (hr : meth.sig.returnType = ret) (hk : meth.locks = false) (hX : va_X b L xs s s.heap) (hbl : b < s.heap.size) (hbA : ¬ A b) (hA : ∀ q, A q → s.heap.size ≤ q) (hkc : kc.1 ≤ 600000 ∧ kc.2 ≤ 7302249)   (z : St) (o1 : Nat) (x2 : Int32) (y3 : Int64) (x11 : Int32) (x12 : Int32) (x13 : Int32) (x14 : Int32) (ho1 : kd o1 = 10) {res : St × Int32} (hres : res.2 = 1) (hf : f_L_law_950 xs L  z o1 x2 y3 x11 x12 x13 x14 = some res) : Zj p l e room_1 s m #[Value.ref b] below meth c g A 16 kc (lw_Z below #[Value.ref b] s) z 950 [(1, .ref (g.1 o1)), (2, .int x2), (3, .long y3), (11, .int x11), (12, .int x12), (13, .int x13), (14, .int x14)] [] := by
  unfold f_L_law_950 at hf
  refine z_bipush C dL_law_950 (v := 115) (by decide) ?_
  exact z_sub [0, 1, 2, 3, 4, 5, 6] rfl (b_L_law_952 C hr hk hX hbl hbA hA hkc z o1 x2 y3 x11 x12 x13 x14 115 ho1 hres hf)
def f_L_law_939 (xs : Nat → Int32) (L : Nat)  (z : St) (o1 : Nat) (x2 : Int32) (y3 : Int64) (x11 : Int32) (x12 : Int32) (x13 : Int32) (x14 : Int32) : Option (St × Int32) :=
  if x11 = 4 then f_L_law_945 xs L z o1 x2 y3 x11 x12 x13 x14 else f_L_law_950 xs L z o1 x2 y3 x11 x12 x13 x14
theorem b_L_law_939 {p : Program} {l : Launch} {e : Env} {s : State} {m : MethodId} {below : List Frame} {meth : Method} {c : Code} {b L : Nat} {xs : Nat → Int32} {kc : Nat × Nat} {g : Ga} {A : Nat → Prop} (C : Cx l g A p s m #[Value.ref b] c cL_law 16 RL room_1 kc) (hr : meth.sig.returnType = ret) (hk : meth.locks = false) (hX : va_X b L xs s s.heap) (hbl : b < s.heap.size) (hbA : ¬ A b) (hA : ∀ q, A q → s.heap.size ≤ q) (hkc : kc.1 ≤ 600000 ∧ kc.2 ≤ 7302249)   (z : St) (o1 : Nat) (x2 : Int32) (y3 : Int64) (x11 : Int32) (x12 : Int32) (x13 : Int32) (x14 : Int32) (ho1 : kd o1 = 10) {res : St × Int32} (hres : res.2 = 1) (hf : f_L_law_939 xs L  z o1 x2 y3 x11 x12 x13 x14 = some res) : Zj p l e room_1 s m #[Value.ref b] below meth c g A 16 kc (lw_Z below #[Value.ref b] s) z 939 [(1, .ref (g.1 o1)), (2, .int x2), (3, .long y3), (11, .int x11), (12, .int x12), (13, .int x13), (14, .int x14)] [] := by
  unfold f_L_law_939 at hf
  refine z_iload C dL_law_939 3 rfl ?_
  refine z_iconst C dL_law_941 (v := 4) (by decide) ?_
  exact z_icmp_ne C dL_law_942 (by decide) (fun h => z_sub [0, 1, 2, 3, 4, 5, 6] rfl (b_L_law_950 C hr hk hX hbl hbA hA hkc z o1 x2 y3 x11 x12 x13 x14 ho1 hres (q_f hf h))) (fun h => z_sub [0, 1, 2, 3, 4, 5, 6] rfl (b_L_law_945 C hr hk hX hbl hbA hA hkc z o1 x2 y3 x11 x12 x13 x14 ho1 hres (q_t hf h)))
def f_L_law_928 (xs : Nat → Int32) (L : Nat)  (z : St) (o1 : Nat) (x2 : Int32) (y3 : Int64) (x11 : Int32) (x12 : Int32) (x13 : Int32) (x14 : Int32) : Option (St × Int32) :=
  if x11 = 3 then f_L_law_934 xs L z o1 x2 y3 x11 x12 x13 x14 else f_L_law_939 xs L z o1 x2 y3 x11 x12 x13 x14
theorem b_L_law_928 {p : Program} {l : Launch} {e : Env} {s : State} {m : MethodId} {below : List Frame} {meth : Method} {c : Code} {b L : Nat} {xs : Nat → Int32} {kc : Nat × Nat} {g : Ga} {A : Nat → Prop} (C : Cx l g A p s m #[Value.ref b] c cL_law 16 RL room_1 kc) (hr : meth.sig.returnType = ret) (hk : meth.locks = false) (hX : va_X b L xs s s.heap) (hbl : b < s.heap.size) (hbA : ¬ A b) (hA : ∀ q, A q → s.heap.size ≤ q) (hkc : kc.1 ≤ 600000 ∧ kc.2 ≤ 7302249)   (z : St) (o1 : Nat) (x2 : Int32) (y3 : Int64) (x11 : Int32) (x12 : Int32) (x13 : Int32) (x14 : Int32) (ho1 : kd o1 = 10) {res : St × Int32} (hres : res.2 = 1) (hf : f_L_law_928 xs L  z o1 x2 y3 x11 x12 x13 x14 = some res) : Zj p l e room_1 s m #[Value.ref b] below meth c g A 16 kc (lw_Z below #[Value.ref b] s) z 928 [(1, .ref (g.1 o1)), (2, .int x2), (3, .long y3), (11, .int x11), (12, .int x12), (13, .int x13), (14, .int x14)] [] := by
  unfold f_L_law_928 at hf
  refine z_iload C dL_law_928 3 rfl ?_
  refine z_iconst C dL_law_930 (v := 3) (by decide) ?_
  exact z_icmp_ne C dL_law_931 (by decide) (fun h => z_sub [0, 1, 2, 3, 4, 5, 6] rfl (b_L_law_939 C hr hk hX hbl hbA hA hkc z o1 x2 y3 x11 x12 x13 x14 ho1 hres (q_f hf h))) (fun h => z_sub [0, 1, 2, 3, 4, 5, 6] rfl (b_L_law_934 C hr hk hX hbl hbA hA hkc z o1 x2 y3 x11 x12 x13 x14 ho1 hres (q_t hf h)))
def f_L_law_917 (xs : Nat → Int32) (L : Nat)  (z : St) (o1 : Nat) (x2 : Int32) (y3 : Int64) (x11 : Int32) (x12 : Int32) (x13 : Int32) (x14 : Int32) : Option (St × Int32) :=
  if x11 = 2 then f_L_law_923 xs L z o1 x2 y3 x11 x12 x13 x14 else f_L_law_928 xs L z o1 x2 y3 x11 x12 x13 x14
theorem b_L_law_917 {p : Program} {l : Launch} {e : Env} {s : State} {m : MethodId} {below : List Frame} {meth : Method} {c : Code} {b L : Nat} {xs : Nat → Int32} {kc : Nat × Nat} {g : Ga} {A : Nat → Prop} (C : Cx l g A p s m #[Value.ref b] c cL_law 16 RL room_1 kc) (hr : meth.sig.returnType = ret) (hk : meth.locks = false) (hX : va_X b L xs s s.heap) (hbl : b < s.heap.size) (hbA : ¬ A b) (hA : ∀ q, A q → s.heap.size ≤ q) (hkc : kc.1 ≤ 600000 ∧ kc.2 ≤ 7302249)   (z : St) (o1 : Nat) (x2 : Int32) (y3 : Int64) (x11 : Int32) (x12 : Int32) (x13 : Int32) (x14 : Int32) (ho1 : kd o1 = 10) {res : St × Int32} (hres : res.2 = 1) (hf : f_L_law_917 xs L  z o1 x2 y3 x11 x12 x13 x14 = some res) : Zj p l e room_1 s m #[Value.ref b] below meth c g A 16 kc (lw_Z below #[Value.ref b] s) z 917 [(1, .ref (g.1 o1)), (2, .int x2), (3, .long y3), (11, .int x11), (12, .int x12), (13, .int x13), (14, .int x14)] [] := by
  unfold f_L_law_917 at hf
  refine z_iload C dL_law_917 3 rfl ?_
  refine z_iconst C dL_law_919 (v := 2) (by decide) ?_
  exact z_icmp_ne C dL_law_920 (by decide) (fun h => z_sub [0, 1, 2, 3, 4, 5, 6] rfl (b_L_law_928 C hr hk hX hbl hbA hA hkc z o1 x2 y3 x11 x12 x13 x14 ho1 hres (q_f hf h))) (fun h => z_sub [0, 1, 2, 3, 4, 5, 6] rfl (b_L_law_923 C hr hk hX hbl hbA hA hkc z o1 x2 y3 x11 x12 x13 x14 ho1 hres (q_t hf h)))
def f_L_law_906 (xs : Nat → Int32) (L : Nat)  (z : St) (o1 : Nat) (x2 : Int32) (y3 : Int64) (x11 : Int32) (x12 : Int32) (x13 : Int32) (x14 : Int32) : Option (St × Int32) :=
  if x11 = 1 then f_L_law_912 xs L z o1 x2 y3 x11 x12 x13 x14 else f_L_law_917 xs L z o1 x2 y3 x11 x12 x13 x14
theorem b_L_law_906 {p : Program} {l : Launch} {e : Env} {s : State} {m : MethodId} {below : List Frame} {meth : Method} {c : Code} {b L : Nat} {xs : Nat → Int32} {kc : Nat × Nat} {g : Ga} {A : Nat → Prop} (C : Cx l g A p s m #[Value.ref b] c cL_law 16 RL room_1 kc) (hr : meth.sig.returnType = ret) (hk : meth.locks = false) (hX : va_X b L xs s s.heap) (hbl : b < s.heap.size) (hbA : ¬ A b) (hA : ∀ q, A q → s.heap.size ≤ q) (hkc : kc.1 ≤ 600000 ∧ kc.2 ≤ 7302249)   (z : St) (o1 : Nat) (x2 : Int32) (y3 : Int64) (x11 : Int32) (x12 : Int32) (x13 : Int32) (x14 : Int32) (ho1 : kd o1 = 10) {res : St × Int32} (hres : res.2 = 1) (hf : f_L_law_906 xs L  z o1 x2 y3 x11 x12 x13 x14 = some res) : Zj p l e room_1 s m #[Value.ref b] below meth c g A 16 kc (lw_Z below #[Value.ref b] s) z 906 [(1, .ref (g.1 o1)), (2, .int x2), (3, .long y3), (11, .int x11), (12, .int x12), (13, .int x13), (14, .int x14)] [] := by
  unfold f_L_law_906 at hf
  refine z_iload C dL_law_906 3 rfl ?_
  refine z_iconst C dL_law_908 (v := 1) (by decide) ?_
  exact z_icmp_ne C dL_law_909 (by decide) (fun h => z_sub [0, 1, 2, 3, 4, 5, 6] rfl (b_L_law_917 C hr hk hX hbl hbA hA hkc z o1 x2 y3 x11 x12 x13 x14 ho1 hres (q_f hf h))) (fun h => z_sub [0, 1, 2, 3, 4, 5, 6] rfl (b_L_law_912 C hr hk hX hbl hbA hA hkc z o1 x2 y3 x11 x12 x13 x14 ho1 hres (q_t hf h)))
def f_L_law_842 (xs : Nat → Int32) (L : Nat)  (z : St) (o1 : Nat) (x2 : Int32) (y3 : Int64) : Option (St × Int32) :=
  ((f_L_at xs L z 6).bind fun r1 => ((f_L_some r1.1 r1.2 6).bind fun r3 => ((f_L_at xs L r3.1 7).bind fun r5 => ((f_L_some r5.1 r5.2 61).bind fun r7 => ((f_L_at xs L r7.1 8).bind fun r9 => ((f_L_some r9.1 r9.2 20).bind fun r11 => ((f_L_at xs L r11.1 9).bind fun r13 => ((f_L_some r13.1 r13.2 61).bind fun r15 => if r3.2 = 0 then f_L_law_901 xs L r15.1 o1 x2 y3 r3.2 r7.2 (1 + r11.2) r15.2 else f_L_law_906 xs L r15.1 o1 x2 y3 r3.2 r7.2 (1 + r11.2) r15.2))))))))
theorem b_L_law_842 {p : Program} {l : Launch} {e : Env} {s : State} {m : MethodId} {below : List Frame} {meth : Method} {c : Code} {b L : Nat} {xs : Nat → Int32} {kc : Nat × Nat} {g : Ga} {A : Nat → Prop} (C : Cx l g A p s m #[Value.ref b] c cL_law 16 RL room_1 kc) (hr : meth.sig.returnType = ret) (hk : meth.locks = false) (hX : va_X b L xs s s.heap) (hbl : b < s.heap.size) (hbA : ¬ A b) (hA : ∀ q, A q → s.heap.size ≤ q) (hkc : kc.1 ≤ 600000 ∧ kc.2 ≤ 7302249)   (z : St) (o1 : Nat) (x2 : Int32) (y3 : Int64) (ho1 : kd o1 = 10) {res : St × Int32} (hres : res.2 = 1) (hf : f_L_law_842 xs L  z o1 x2 y3 = some res) : Zj p l e room_1 s m #[Value.ref b] below meth c g A 16 kc (lw_Z below #[Value.ref b] s) z 842 [(0, .ref b), (1, .ref (g.1 o1)), (2, .int x2), (3, .long y3)] [] := by
  unfold f_L_law_842 at hf
  refine z_aload_n C dL_law_842 rfl 0 rfl ?_
  refine z_bipush C dL_law_843 (v := 6) (by decide) ?_
  obtain ⟨r1, hc2, hf⟩ := q_bd hf
  refine z_cXi C hX hbl hbA (st := []) (c_L_at  hc2) mw_L_at ml_L_10 dL_law_845 rfl rfl rfl ⟨Nat.le_of_ble_eq_true rfl, Nat.le_of_ble_eq_true rfl⟩ rfl (Nat.le_of_ble_eq_true rfl) ?_
  refine z_bipush C dL_law_848 (v := 6) (by decide) ?_
  obtain ⟨r3, hc4, hf⟩ := q_bd hf
  refine z_cSi C (st := []) (c_L_some  hc4) mw_L_some ml_L_16 dL_law_850 rfl rfl rfl ⟨Nat.le_of_ble_eq_true rfl, Nat.le_of_ble_eq_true rfl⟩ rfl (Nat.le_of_ble_eq_true rfl) ?_
  refine z_istore C (lv2 := [(11, .int r3.2), (0, .ref b), (1, .ref (g.1 o1)), (2, .int x2), (3, .long y3)]) dL_law_853 (by decide) rfl ?_
  refine z_aload_n C dL_law_855 rfl 1 rfl ?_
  refine z_bipush C dL_law_856 (v := 7) (by decide) ?_
  obtain ⟨r5, hc6, hf⟩ := q_bd hf
  refine z_cXi C hX hbl hbA (st := []) (c_L_at  hc6) mw_L_at ml_L_10 dL_law_858 rfl rfl rfl ⟨Nat.le_of_ble_eq_true rfl, Nat.le_of_ble_eq_true rfl⟩ rfl (Nat.le_of_ble_eq_true rfl) ?_
  refine z_bipush C dL_law_861 (v := 61) (by decide) ?_
  obtain ⟨r7, hc8, hf⟩ := q_bd hf
  refine z_cSi C (st := []) (c_L_some  hc8) mw_L_some ml_L_16 dL_law_863 rfl rfl rfl ⟨Nat.le_of_ble_eq_true rfl, Nat.le_of_ble_eq_true rfl⟩ rfl (Nat.le_of_ble_eq_true rfl) ?_
  refine z_istore C (lv2 := [(12, .int r7.2), (11, .int r3.2), (0, .ref b), (1, .ref (g.1 o1)), (2, .int x2), (3, .long y3)]) dL_law_866 (by decide) rfl ?_
  refine z_iconst C dL_law_868 (v := 1) (by decide) ?_
  refine z_aload_n C dL_law_869 rfl 2 rfl ?_
  refine z_bipush C dL_law_870 (v := 8) (by decide) ?_
  obtain ⟨r9, hc10, hf⟩ := q_bd hf
  refine z_cXi C hX hbl hbA (st := [.int 1]) (c_L_at  hc10) mw_L_at ml_L_10 dL_law_872 rfl rfl rfl ⟨Nat.le_of_ble_eq_true rfl, Nat.le_of_ble_eq_true rfl⟩ rfl (Nat.le_of_ble_eq_true rfl) ?_
  refine z_bipush C dL_law_875 (v := 20) (by decide) ?_
  obtain ⟨r11, hc12, hf⟩ := q_bd hf
  refine z_cSi C (st := [.int 1]) (c_L_some  hc12) mw_L_some ml_L_16 dL_law_877 rfl rfl rfl ⟨Nat.le_of_ble_eq_true rfl, Nat.le_of_ble_eq_true rfl⟩ rfl (Nat.le_of_ble_eq_true rfl) ?_
  refine z_iadd C dL_law_880 ?_
  refine z_istore C (lv2 := [(13, .int (1 + r11.2)), (12, .int r7.2), (11, .int r3.2), (0, .ref b), (1, .ref (g.1 o1)), (2, .int x2), (3, .long y3)]) dL_law_881 (by decide) rfl ?_
  refine z_aload_n C dL_law_883 rfl 3 rfl ?_
  refine z_bipush C dL_law_884 (v := 9) (by decide) ?_
  obtain ⟨r13, hc14, hf⟩ := q_bd hf
  refine z_cXi C hX hbl hbA (st := []) (c_L_at  hc14) mw_L_at ml_L_10 dL_law_886 rfl rfl rfl ⟨Nat.le_of_ble_eq_true rfl, Nat.le_of_ble_eq_true rfl⟩ rfl (Nat.le_of_ble_eq_true rfl) ?_
  refine z_bipush C dL_law_889 (v := 61) (by decide) ?_
  obtain ⟨r15, hc16, hf⟩ := q_bd hf
  refine z_cSi C (st := []) (c_L_some  hc16) mw_L_some ml_L_16 dL_law_891 rfl rfl rfl ⟨Nat.le_of_ble_eq_true rfl, Nat.le_of_ble_eq_true rfl⟩ rfl (Nat.le_of_ble_eq_true rfl) ?_
  refine z_istore C (lv2 := [(14, .int r15.2), (13, .int (1 + r11.2)), (12, .int r7.2), (11, .int r3.2), (0, .ref b), (1, .ref (g.1 o1)), (2, .int x2), (3, .long y3)]) dL_law_894 (by decide) rfl ?_
  refine z_iload C dL_law_896 3 rfl ?_
  exact z_if_ne C dL_law_898 (by decide) (fun h => z_sub [5, 6, 7, 3, 2, 1, 0] rfl (b_L_law_906 C hr hk hX hbl hbA hA hkc r15.1 o1 x2 y3 r3.2 r7.2 (1 + r11.2) r15.2 ho1 hres (q_f hf h))) (fun h => z_sub [5, 6, 7, 3, 2, 1, 0] rfl (b_L_law_901 C hr hk hX hbl hbA hA hkc r15.1 o1 x2 y3 r3.2 r7.2 (1 + r11.2) r15.2 ho1 hres (q_t hf h)))
def f_L_law_837 (xs : Nat → Int32) (L : Nat)  (z : St) (o1 : Nat) (x2 : Int32) (y3 : Int64) (s0 : Int32) (s1 : Int32) : Option (St × Int32) :=
  if s0 = s1 then f_L_law_842 xs L z o1 x2 y3 else f_L_law_840 xs L z
theorem b_L_law_837 {p : Program} {l : Launch} {e : Env} {s : State} {m : MethodId} {below : List Frame} {meth : Method} {c : Code} {b L : Nat} {xs : Nat → Int32} {kc : Nat × Nat} {g : Ga} {A : Nat → Prop} (C : Cx l g A p s m #[Value.ref b] c cL_law 16 RL room_1 kc) (hr : meth.sig.returnType = ret) (hk : meth.locks = false) (hX : va_X b L xs s s.heap) (hbl : b < s.heap.size) (hbA : ¬ A b) (hA : ∀ q, A q → s.heap.size ≤ q) (hkc : kc.1 ≤ 600000 ∧ kc.2 ≤ 7302249)   (z : St) (o1 : Nat) (x2 : Int32) (y3 : Int64) (s0 : Int32) (s1 : Int32) (ho1 : kd o1 = 10) {res : St × Int32} (hres : res.2 = 1) (hf : f_L_law_837 xs L  z o1 x2 y3 s0 s1 = some res) : Zj p l e room_1 s m #[Value.ref b] below meth c g A 16 kc (lw_Z below #[Value.ref b] s) z 837 [(0, .ref b), (1, .ref (g.1 o1)), (2, .int x2), (3, .long y3)] [.int s1, .int s0] := by
  unfold f_L_law_837 at hf
  exact z_icmp_eq C dL_law_837 (by decide) (fun h => z_sub [0, 1, 2, 3] rfl (b_L_law_842 C hr hk hX hbl hbA hA hkc z o1 x2 y3 ho1 hres (q_t hf h))) (fun h => z_sub [] rfl (b_L_law_840 C hr hk hX hbl hbA hA hkc z hres (q_f hf h)))
def f_L_law_825 (xs : Nat → Int32) (L : Nat)  (z : St) (o1 : Nat) (x2 : Int32) (y3 : Int64) (x11 : Int32) (s0 : Int32) : Option (St × Int32) :=
  ((f_X10_taken z o1 x11 0).bind fun r1 => f_L_law_837 xs L r1.1 o1 x2 y3 s0 r1.2)
theorem b_L_law_825 {p : Program} {l : Launch} {e : Env} {s : State} {m : MethodId} {below : List Frame} {meth : Method} {c : Code} {b L : Nat} {xs : Nat → Int32} {kc : Nat × Nat} {g : Ga} {A : Nat → Prop} (C : Cx l g A p s m #[Value.ref b] c cL_law 16 RL room_1 kc) (hr : meth.sig.returnType = ret) (hk : meth.locks = false) (hX : va_X b L xs s s.heap) (hbl : b < s.heap.size) (hbA : ¬ A b) (hA : ∀ q, A q → s.heap.size ≤ q) (hkc : kc.1 ≤ 600000 ∧ kc.2 ≤ 7302249)   (z : St) (o1 : Nat) (x2 : Int32) (y3 : Int64) (x11 : Int32) (s0 : Int32) (ho1 : kd o1 = 10) {res : St × Int32} (hres : res.2 = 1) (hf : f_L_law_825 xs L  z o1 x2 y3 x11 s0 = some res) : Zj p l e room_1 s m #[Value.ref b] below meth c g A 16 kc (lw_Z below #[Value.ref b] s) z 825 [(0, .ref b), (1, .ref (g.1 o1)), (2, .int x2), (3, .long y3), (11, .int x11)] [.int s0] := by
  unfold f_L_law_825 at hf
  refine z_aload_n C dL_law_825 rfl 1 rfl ?_
  refine z_iload C dL_law_826 4 rfl ?_
  refine z_iconst C dL_law_828 (v := 0) (by decide) ?_
  obtain ⟨r1, hc2, hf⟩ := q_bd hf
  refine z_cVi C (st := [.int s0]) (c_X10_taken ho1 hc2) mw_X10_taken ml_L_77 ho1 (by decide) rfl dL_law_829 rfl rfl rfl ⟨Nat.le_of_ble_eq_true rfl, Nat.le_of_ble_eq_true rfl⟩ rfl (Nat.le_of_ble_eq_true rfl) ?_
  exact z_goto C dL_law_832 (by decide) (z_sub [0, 1, 2, 3] rfl (b_L_law_837 C hr hk hX hbl hbA hA hkc r1.1 o1 x2 y3 s0 r1.2 ho1 hres hf))
def f_L_law_835 (xs : Nat → Int32) (L : Nat)  (z : St) (o1 : Nat) (x2 : Int32) (y3 : Int64) (s0 : Int32) : Option (St × Int32) :=
  f_L_law_837 xs L z o1 x2 y3 s0 ((-13))
theorem b_L_law_835 {p : Program} {l : Launch} {e : Env} {s : State} {m : MethodId} {below : List Frame} {meth : Method} {c : Code} {b L : Nat} {xs : Nat → Int32} {kc : Nat × Nat} {g : Ga} {A : Nat → Prop} (C : Cx l g A p s m #[Value.ref b] c cL_law 16 RL room_1 kc) (hr : meth.sig.returnType = ret) (hk : meth.locks = false) (hX : va_X b L xs s s.heap) (hbl : b < s.heap.size) (hbA : ¬ A b) (hA : ∀ q, A q → s.heap.size ≤ q) (hkc : kc.1 ≤ 600000 ∧ kc.2 ≤ 7302249)   (z : St) (o1 : Nat) (x2 : Int32) (y3 : Int64) (s0 : Int32) (ho1 : kd o1 = 10) {res : St × Int32} (hres : res.2 = 1) (hf : f_L_law_835 xs L  z o1 x2 y3 s0 = some res) : Zj p l e room_1 s m #[Value.ref b] below meth c g A 16 kc (lw_Z below #[Value.ref b] s) z 835 [(0, .ref b), (1, .ref (g.1 o1)), (2, .int x2), (3, .long y3)] [.int s0] := by
  unfold f_L_law_835 at hf
  refine z_bipush C dL_law_835 (v := (-13)) (by decide) ?_
  exact z_sub [0, 1, 2, 3] rfl (b_L_law_837 C hr hk hX hbl hbA hA hkc z o1 x2 y3 s0 ((-13)) ho1 hres hf)
def f_L_law_816 (xs : Nat → Int32) (L : Nat)  (z : St) (o1 : Nat) (x2 : Int32) (y3 : Int64) (x11 : Int32) (x12 : Int32) (s0 : Nat) (s1 : Int32) (s2 : Int32) : Option (St × Int32) :=
  ((f_X10_taken z s0 s1 s2).bind fun r1 => if x12 = 3 then f_L_law_825 xs L r1.1 o1 x2 y3 x11 r1.2 else f_L_law_835 xs L r1.1 o1 x2 y3 r1.2)
theorem b_L_law_816 {p : Program} {l : Launch} {e : Env} {s : State} {m : MethodId} {below : List Frame} {meth : Method} {c : Code} {b L : Nat} {xs : Nat → Int32} {kc : Nat × Nat} {g : Ga} {A : Nat → Prop} (C : Cx l g A p s m #[Value.ref b] c cL_law 16 RL room_1 kc) (hr : meth.sig.returnType = ret) (hk : meth.locks = false) (hX : va_X b L xs s s.heap) (hbl : b < s.heap.size) (hbA : ¬ A b) (hA : ∀ q, A q → s.heap.size ≤ q) (hkc : kc.1 ≤ 600000 ∧ kc.2 ≤ 7302249)   (z : St) (o1 : Nat) (x2 : Int32) (y3 : Int64) (x11 : Int32) (x12 : Int32) (s0 : Nat) (s1 : Int32) (s2 : Int32) (ho1 : kd o1 = 10) (hs0 : kd s0 = 10) {res : St × Int32} (hres : res.2 = 1) (hf : f_L_law_816 xs L  z o1 x2 y3 x11 x12 s0 s1 s2 = some res) : Zj p l e room_1 s m #[Value.ref b] below meth c g A 16 kc (lw_Z below #[Value.ref b] s) z 816 [(0, .ref b), (1, .ref (g.1 o1)), (2, .int x2), (3, .long y3), (11, .int x11), (12, .int x12)] [.int s2, .int s1, .ref (g.1 s0)] := by
  unfold f_L_law_816 at hf
  obtain ⟨r1, hc2, hf⟩ := q_bd hf
  refine z_cVi C (st := []) (c_X10_taken hs0 hc2) mw_X10_taken ml_L_77 hs0 (by decide) rfl dL_law_816 rfl rfl rfl ⟨Nat.le_of_ble_eq_true rfl, Nat.le_of_ble_eq_true rfl⟩ rfl (Nat.le_of_ble_eq_true rfl) ?_
  refine z_iload C dL_law_819 5 rfl ?_
  refine z_iconst C dL_law_821 (v := 3) (by decide) ?_
  exact z_icmp_ne C dL_law_822 (by decide) (fun h => z_sub [0, 1, 2, 3] rfl (b_L_law_835 C hr hk hX hbl hbA hA hkc r1.1 o1 x2 y3 r1.2 ho1 hres (q_f hf h))) (fun h => z_sub [0, 1, 2, 3, 4] rfl (b_L_law_825 C hr hk hX hbl hbA hA hkc r1.1 o1 x2 y3 x11 r1.2 ho1 hres (q_t hf h)))
def f_L_law_811 (xs : Nat → Int32) (L : Nat)  (z : St) (o1 : Nat) (x2 : Int32) (y3 : Int64) (x11 : Int32) (x12 : Int32) (s0 : Nat) (s1 : Int32) : Option (St × Int32) :=
  f_L_law_816 xs L z o1 x2 y3 x11 x12 s0 s1 2
theorem b_L_law_811 {p : Program} {l : Launch} {e : Env} {s : State} {m : MethodId} {below : List Frame} {meth : Method} {c : Code} {b L : Nat} {xs : Nat → Int32} {kc : Nat × Nat} {g : Ga} {A : Nat → Prop} (C : Cx l g A p s m #[Value.ref b] c cL_law 16 RL room_1 kc) (hr : meth.sig.returnType = ret) (hk : meth.locks = false) (hX : va_X b L xs s s.heap) (hbl : b < s.heap.size) (hbA : ¬ A b) (hA : ∀ q, A q → s.heap.size ≤ q) (hkc : kc.1 ≤ 600000 ∧ kc.2 ≤ 7302249)   (z : St) (o1 : Nat) (x2 : Int32) (y3 : Int64) (x11 : Int32) (x12 : Int32) (s0 : Nat) (s1 : Int32) (ho1 : kd o1 = 10) (hs0 : kd s0 = 10) {res : St × Int32} (hres : res.2 = 1) (hf : f_L_law_811 xs L  z o1 x2 y3 x11 x12 s0 s1 = some res) : Zj p l e room_1 s m #[Value.ref b] below meth c g A 16 kc (lw_Z below #[Value.ref b] s) z 811 [(0, .ref b), (1, .ref (g.1 o1)), (2, .int x2), (3, .long y3), (11, .int x11), (12, .int x12)] [.int s1, .ref (g.1 s0)] := by
  unfold f_L_law_811 at hf
  refine z_iconst C dL_law_811 (v := 2) (by decide) ?_
  exact z_goto C dL_law_812 (by decide) (z_sub [0, 1, 2, 3, 4, 5] rfl (b_L_law_816 C hr hk hX hbl hbA hA hkc z o1 x2 y3 x11 x12 s0 s1 2 ho1 hs0 hres hf))
def f_L_law_815 (xs : Nat → Int32) (L : Nat)  (z : St) (o1 : Nat) (x2 : Int32) (y3 : Int64) (x11 : Int32) (x12 : Int32) (s0 : Nat) (s1 : Int32) : Option (St × Int32) :=
  f_L_law_816 xs L z o1 x2 y3 x11 x12 s0 s1 1
theorem b_L_law_815 {p : Program} {l : Launch} {e : Env} {s : State} {m : MethodId} {below : List Frame} {meth : Method} {c : Code} {b L : Nat} {xs : Nat → Int32} {kc : Nat × Nat} {g : Ga} {A : Nat → Prop} (C : Cx l g A p s m #[Value.ref b] c cL_law 16 RL room_1 kc) (hr : meth.sig.returnType = ret) (hk : meth.locks = false) (hX : va_X b L xs s s.heap) (hbl : b < s.heap.size) (hbA : ¬ A b) (hA : ∀ q, A q → s.heap.size ≤ q) (hkc : kc.1 ≤ 600000 ∧ kc.2 ≤ 7302249)   (z : St) (o1 : Nat) (x2 : Int32) (y3 : Int64) (x11 : Int32) (x12 : Int32) (s0 : Nat) (s1 : Int32) (ho1 : kd o1 = 10) (hs0 : kd s0 = 10) {res : St × Int32} (hres : res.2 = 1) (hf : f_L_law_815 xs L  z o1 x2 y3 x11 x12 s0 s1 = some res) : Zj p l e room_1 s m #[Value.ref b] below meth c g A 16 kc (lw_Z below #[Value.ref b] s) z 815 [(0, .ref b), (1, .ref (g.1 o1)), (2, .int x2), (3, .long y3), (11, .int x11), (12, .int x12)] [.int s1, .ref (g.1 s0)] := by
  unfold f_L_law_815 at hf
  refine z_iconst C dL_law_815 (v := 1) (by decide) ?_
  exact z_sub [0, 1, 2, 3, 4, 5] rfl (b_L_law_816 C hr hk hX hbl hbA hA hkc z o1 x2 y3 x11 x12 s0 s1 1 ho1 hs0 hres hf)
def f_L_law_802 (xs : Nat → Int32) (L : Nat)  (z : St) (o1 : Nat) (x2 : Int32) (y3 : Int64) (x11 : Int32) (x12 : Int32) : Option (St × Int32) :=
  if x12 = 1 then f_L_law_811 xs L z o1 x2 y3 x11 x12 o1 x11 else f_L_law_815 xs L z o1 x2 y3 x11 x12 o1 x11
theorem b_L_law_802 {p : Program} {l : Launch} {e : Env} {s : State} {m : MethodId} {below : List Frame} {meth : Method} {c : Code} {b L : Nat} {xs : Nat → Int32} {kc : Nat × Nat} {g : Ga} {A : Nat → Prop} (C : Cx l g A p s m #[Value.ref b] c cL_law 16 RL room_1 kc) (hr : meth.sig.returnType = ret) (hk : meth.locks = false) (hX : va_X b L xs s s.heap) (hbl : b < s.heap.size) (hbA : ¬ A b) (hA : ∀ q, A q → s.heap.size ≤ q) (hkc : kc.1 ≤ 600000 ∧ kc.2 ≤ 7302249)   (z : St) (o1 : Nat) (x2 : Int32) (y3 : Int64) (x11 : Int32) (x12 : Int32) (ho1 : kd o1 = 10) {res : St × Int32} (hres : res.2 = 1) (hf : f_L_law_802 xs L  z o1 x2 y3 x11 x12 = some res) : Zj p l e room_1 s m #[Value.ref b] below meth c g A 16 kc (lw_Z below #[Value.ref b] s) z 802 [(0, .ref b), (1, .ref (g.1 o1)), (2, .int x2), (3, .long y3), (11, .int x11), (12, .int x12)] [] := by
  unfold f_L_law_802 at hf
  refine z_aload_n C dL_law_802 rfl 1 rfl ?_
  refine z_iload C dL_law_803 4 rfl ?_
  refine z_iload C dL_law_805 5 rfl ?_
  refine z_iconst C dL_law_807 (v := 1) (by decide) ?_
  exact z_icmp_ne C dL_law_808 (by decide) (fun h => z_sub [0, 1, 2, 3, 4, 5] rfl (b_L_law_815 C hr hk hX hbl hbA hA hkc z o1 x2 y3 x11 x12 o1 x11 ho1 ho1 hres (q_f hf h))) (fun h => z_sub [0, 1, 2, 3, 4, 5] rfl (b_L_law_811 C hr hk hX hbl hbA hA hkc z o1 x2 y3 x11 x12 o1 x11 ho1 ho1 hres (q_t hf h)))
def f_L_law_784 (xs : Nat → Int32) (L : Nat)  (z : St) (o1 : Nat) (x2 : Int32) (y3 : Int64) (x11 : Int32) (x12 : Int32) : Option (St × Int32) :=
  ((f_X10_taken z o1 x11 x12).bind fun r1 => ((f_X10_taken r1.1 o1 x11 0).bind fun r3 => if r1.2 = r3.2 then f_L_law_802 xs L r3.1 o1 x2 y3 x11 x12 else f_L_law_840 xs L r3.1))
theorem b_L_law_784 {p : Program} {l : Launch} {e : Env} {s : State} {m : MethodId} {below : List Frame} {meth : Method} {c : Code} {b L : Nat} {xs : Nat → Int32} {kc : Nat × Nat} {g : Ga} {A : Nat → Prop} (C : Cx l g A p s m #[Value.ref b] c cL_law 16 RL room_1 kc) (hr : meth.sig.returnType = ret) (hk : meth.locks = false) (hX : va_X b L xs s s.heap) (hbl : b < s.heap.size) (hbA : ¬ A b) (hA : ∀ q, A q → s.heap.size ≤ q) (hkc : kc.1 ≤ 600000 ∧ kc.2 ≤ 7302249)   (z : St) (o1 : Nat) (x2 : Int32) (y3 : Int64) (x11 : Int32) (x12 : Int32) (ho1 : kd o1 = 10) {res : St × Int32} (hres : res.2 = 1) (hf : f_L_law_784 xs L  z o1 x2 y3 x11 x12 = some res) : Zj p l e room_1 s m #[Value.ref b] below meth c g A 16 kc (lw_Z below #[Value.ref b] s) z 784 [(0, .ref b), (1, .ref (g.1 o1)), (2, .int x2), (3, .long y3), (11, .int x11), (12, .int x12)] [] := by
  unfold f_L_law_784 at hf
  refine z_aload_n C dL_law_784 rfl 1 rfl ?_
  refine z_iload C dL_law_785 4 rfl ?_
  refine z_iload C dL_law_787 5 rfl ?_
  obtain ⟨r1, hc2, hf⟩ := q_bd hf
  refine z_cVi C (st := []) (c_X10_taken ho1 hc2) mw_X10_taken ml_L_77 ho1 (by decide) rfl dL_law_789 rfl rfl rfl ⟨Nat.le_of_ble_eq_true rfl, Nat.le_of_ble_eq_true rfl⟩ rfl (Nat.le_of_ble_eq_true rfl) ?_
  refine z_aload_n C dL_law_792 rfl 1 rfl ?_
  refine z_iload C dL_law_793 4 rfl ?_
  refine z_iconst C dL_law_795 (v := 0) (by decide) ?_
  obtain ⟨r3, hc4, hf⟩ := q_bd hf
  refine z_cVi C (st := [.int r1.2]) (c_X10_taken ho1 hc4) mw_X10_taken ml_L_77 ho1 (by decide) rfl dL_law_796 rfl rfl rfl ⟨Nat.le_of_ble_eq_true rfl, Nat.le_of_ble_eq_true rfl⟩ rfl (Nat.le_of_ble_eq_true rfl) ?_
  exact z_icmp_ne C dL_law_799 (by decide) (fun h => z_sub [] rfl (b_L_law_840 C hr hk hX hbl hbA hA hkc r3.1 hres (q_f hf h))) (fun h => z_sub [0, 1, 2, 3, 4, 5] rfl (b_L_law_802 C hr hk hX hbl hbA hA hkc r3.1 o1 x2 y3 x11 x12 ho1 hres (q_t hf h)))
def f_L_law_749 (xs : Nat → Int32) (L : Nat)  (z : St) (o1 : Nat) (x2 : Int32) (y3 : Int64) (x11 : Int32) : Option (St × Int32) :=
  ((f_X10_told z o1 x11 0).bind fun r1 => ((f_X10_taken r1.1 o1 x11 0).bind fun r3 => ((f_X10_told r3.1 o1 x11 5).bind fun r5 => ((f_X10_told r5.1 o1 x11 6).bind fun r7 => if r3.2 = (r5.2 + r7.2) then f_L_law_784 xs L r7.1 o1 x2 y3 x11 r1.2 else f_L_law_840 xs L r7.1))))
theorem b_L_law_749 {p : Program} {l : Launch} {e : Env} {s : State} {m : MethodId} {below : List Frame} {meth : Method} {c : Code} {b L : Nat} {xs : Nat → Int32} {kc : Nat × Nat} {g : Ga} {A : Nat → Prop} (C : Cx l g A p s m #[Value.ref b] c cL_law 16 RL room_1 kc) (hr : meth.sig.returnType = ret) (hk : meth.locks = false) (hX : va_X b L xs s s.heap) (hbl : b < s.heap.size) (hbA : ¬ A b) (hA : ∀ q, A q → s.heap.size ≤ q) (hkc : kc.1 ≤ 600000 ∧ kc.2 ≤ 7302249)   (z : St) (o1 : Nat) (x2 : Int32) (y3 : Int64) (x11 : Int32) (ho1 : kd o1 = 10) {res : St × Int32} (hres : res.2 = 1) (hf : f_L_law_749 xs L  z o1 x2 y3 x11 = some res) : Zj p l e room_1 s m #[Value.ref b] below meth c g A 16 kc (lw_Z below #[Value.ref b] s) z 749 [(0, .ref b), (1, .ref (g.1 o1)), (2, .int x2), (3, .long y3), (11, .int x11)] [] := by
  unfold f_L_law_749 at hf
  refine z_aload_n C dL_law_749 rfl 1 rfl ?_
  refine z_iload C dL_law_750 4 rfl ?_
  refine z_iconst C dL_law_752 (v := 0) (by decide) ?_
  obtain ⟨r1, hc2, hf⟩ := q_bd hf
  refine z_cVi C (st := []) (c_X10_told ho1 hc2) mw_X10_told ml_L_33 ho1 (by decide) rfl dL_law_753 rfl rfl rfl ⟨Nat.le_of_ble_eq_true rfl, Nat.le_of_ble_eq_true rfl⟩ rfl (Nat.le_of_ble_eq_true rfl) ?_
  refine z_istore C (lv2 := [(12, .int r1.2), (0, .ref b), (1, .ref (g.1 o1)), (2, .int x2), (3, .long y3), (11, .int x11)]) dL_law_756 (by decide) rfl ?_
  refine z_aload_n C dL_law_758 rfl 2 rfl ?_
  refine z_iload C dL_law_759 5 rfl ?_
  refine z_iconst C dL_law_761 (v := 0) (by decide) ?_
  obtain ⟨r3, hc4, hf⟩ := q_bd hf
  refine z_cVi C (st := []) (c_X10_taken ho1 hc4) mw_X10_taken ml_L_77 ho1 (by decide) rfl dL_law_762 rfl rfl rfl ⟨Nat.le_of_ble_eq_true rfl, Nat.le_of_ble_eq_true rfl⟩ rfl (Nat.le_of_ble_eq_true rfl) ?_
  refine z_aload_n C dL_law_765 rfl 2 rfl ?_
  refine z_iload C dL_law_766 5 rfl ?_
  refine z_iconst C dL_law_768 (v := 5) (by decide) ?_
  obtain ⟨r5, hc6, hf⟩ := q_bd hf
  refine z_cVi C (st := [.int r3.2]) (c_X10_told ho1 hc6) mw_X10_told ml_L_33 ho1 (by decide) rfl dL_law_769 rfl rfl rfl ⟨Nat.le_of_ble_eq_true rfl, Nat.le_of_ble_eq_true rfl⟩ rfl (Nat.le_of_ble_eq_true rfl) ?_
  refine z_aload_n C dL_law_772 rfl 2 rfl ?_
  refine z_iload C dL_law_773 5 rfl ?_
  refine z_bipush C dL_law_775 (v := 6) (by decide) ?_
  obtain ⟨r7, hc8, hf⟩ := q_bd hf
  refine z_cVi C (st := [.int r5.2, .int r3.2]) (c_X10_told ho1 hc8) mw_X10_told ml_L_33 ho1 (by decide) rfl dL_law_777 rfl rfl rfl ⟨Nat.le_of_ble_eq_true rfl, Nat.le_of_ble_eq_true rfl⟩ rfl (Nat.le_of_ble_eq_true rfl) ?_
  refine z_iadd C dL_law_780 ?_
  exact z_icmp_ne C dL_law_781 (by decide) (fun h => z_sub [] rfl (b_L_law_840 C hr hk hX hbl hbA hA hkc r7.1 hres (q_f hf h))) (fun h => z_sub [1, 2, 3, 4, 5, 0] rfl (b_L_law_784 C hr hk hX hbl hbA hA hkc r7.1 o1 x2 y3 x11 r1.2 ho1 hres (q_t hf h)))
def f_L_law_738 (xs : Nat → Int32) (L : Nat)  (z : St) (o1 : Nat) (x2 : Int32) (y3 : Int64) (x11 : Int32) : Option (St × Int32) :=
  ((f_L_state z o1).bind fun r1 => if (lg_cmp r1.2 y3) = 0 then f_L_law_749 xs L r1.1 o1 x2 y3 x11 else f_L_law_747 xs L r1.1)
theorem b_L_law_738 {p : Program} {l : Launch} {e : Env} {s : State} {m : MethodId} {below : List Frame} {meth : Method} {c : Code} {b L : Nat} {xs : Nat → Int32} {kc : Nat × Nat} {g : Ga} {A : Nat → Prop} (C : Cx l g A p s m #[Value.ref b] c cL_law 16 RL room_1 kc) (hr : meth.sig.returnType = ret) (hk : meth.locks = false) (hX : va_X b L xs s s.heap) (hbl : b < s.heap.size) (hbA : ¬ A b) (hA : ∀ q, A q → s.heap.size ≤ q) (hkc : kc.1 ≤ 600000 ∧ kc.2 ≤ 7302249)   (z : St) (o1 : Nat) (x2 : Int32) (y3 : Int64) (x11 : Int32) (ho1 : kd o1 = 10) {res : St × Int32} (hres : res.2 = 1) (hf : f_L_law_738 xs L  z o1 x2 y3 x11 = some res) : Zj p l e room_1 s m #[Value.ref b] below meth c g A 16 kc (lw_Z below #[Value.ref b] s) z 738 [(0, .ref b), (1, .ref (g.1 o1)), (2, .int x2), (3, .long y3), (11, .int x11)] [] := by
  unfold f_L_law_738 at hf
  refine z_aload_n C dL_law_738 rfl 1 rfl ?_
  obtain ⟨r1, hc2, hf⟩ := q_bd hf
  refine z_cSl C (st := []) (c_L_state ho1 hc2) mw_L_state ml_L_52 dL_law_739 rfl rfl rfl ⟨Nat.le_of_ble_eq_true rfl, Nat.le_of_ble_eq_true rfl⟩ rfl (Nat.le_of_ble_eq_true rfl) ?_
  refine z_lload_n C dL_law_742 rfl 3 rfl ?_
  refine z_lcmp C dL_law_743 ?_
  exact z_if_eq C dL_law_744 (by decide) (fun h => z_sub [0, 1, 2, 3, 4] rfl (b_L_law_749 C hr hk hX hbl hbA hA hkc r1.1 o1 x2 y3 x11 ho1 hres (q_t hf h))) (fun h => z_sub [] rfl (b_L_law_747 C hr hk hX hbl hbA hA hkc r1.1 hres (q_f hf h)))
def f_L_law_703 (xs : Nat → Int32) (L : Nat)  (z : St) (o1 : Nat) (x2 : Int32) (y3 : Int64) : Option (St × Int32) :=
  ((f_L_at xs L z 5).bind fun r1 => ((f_L_some r1.1 r1.2 x2).bind fun r3 => ((f_X10_told r3.1 o1 r3.2 2).bind fun r5 => ((f_X10_set r5.1 o1 r3.2 2 r5.2).bind fun r7 => ((f_X10_told r7.1 o1 r3.2 2).bind fun r9 => if r7.2 = r9.2 then f_L_law_738 xs L r9.1 o1 x2 y3 r3.2 else f_L_law_747 xs L r9.1)))))
theorem b_L_law_703 {p : Program} {l : Launch} {e : Env} {s : State} {m : MethodId} {below : List Frame} {meth : Method} {c : Code} {b L : Nat} {xs : Nat → Int32} {kc : Nat × Nat} {g : Ga} {A : Nat → Prop} (C : Cx l g A p s m #[Value.ref b] c cL_law 16 RL room_1 kc) (hr : meth.sig.returnType = ret) (hk : meth.locks = false) (hX : va_X b L xs s s.heap) (hbl : b < s.heap.size) (hbA : ¬ A b) (hA : ∀ q, A q → s.heap.size ≤ q) (hkc : kc.1 ≤ 600000 ∧ kc.2 ≤ 7302249)   (z : St) (o1 : Nat) (x2 : Int32) (y3 : Int64) (ho1 : kd o1 = 10) {res : St × Int32} (hres : res.2 = 1) (hf : f_L_law_703 xs L  z o1 x2 y3 = some res) : Zj p l e room_1 s m #[Value.ref b] below meth c g A 16 kc (lw_Z below #[Value.ref b] s) z 703 [(0, .ref b), (1, .ref (g.1 o1)), (2, .int x2), (3, .long y3)] [] := by
  unfold f_L_law_703 at hf
  refine z_aload_n C dL_law_703 rfl 0 rfl ?_
  refine z_iconst C dL_law_704 (v := 5) (by decide) ?_
  obtain ⟨r1, hc2, hf⟩ := q_bd hf
  refine z_cXi C hX hbl hbA (st := []) (c_L_at  hc2) mw_L_at ml_L_10 dL_law_705 rfl rfl rfl ⟨Nat.le_of_ble_eq_true rfl, Nat.le_of_ble_eq_true rfl⟩ rfl (Nat.le_of_ble_eq_true rfl) ?_
  refine z_iload_n C dL_law_708 rfl 2 rfl ?_
  obtain ⟨r3, hc4, hf⟩ := q_bd hf
  refine z_cSi C (st := []) (c_L_some  hc4) mw_L_some ml_L_16 dL_law_709 rfl rfl rfl ⟨Nat.le_of_ble_eq_true rfl, Nat.le_of_ble_eq_true rfl⟩ rfl (Nat.le_of_ble_eq_true rfl) ?_
  refine z_istore C (lv2 := [(11, .int r3.2), (0, .ref b), (1, .ref (g.1 o1)), (2, .int x2), (3, .long y3)]) dL_law_712 (by decide) rfl ?_
  refine z_aload_n C dL_law_714 rfl 2 rfl ?_
  refine z_iload C dL_law_715 0 rfl ?_
  refine z_iconst C dL_law_717 (v := 2) (by decide) ?_
  refine z_aload_n C dL_law_718 rfl 2 rfl ?_
  refine z_iload C dL_law_719 0 rfl ?_
  refine z_iconst C dL_law_721 (v := 2) (by decide) ?_
  obtain ⟨r5, hc6, hf⟩ := q_bd hf
  refine z_cVi C (st := [.int 2, .int r3.2, .ref (g.1 o1)]) (c_X10_told ho1 hc6) mw_X10_told ml_L_33 ho1 (by decide) rfl dL_law_722 rfl rfl rfl ⟨Nat.le_of_ble_eq_true rfl, Nat.le_of_ble_eq_true rfl⟩ rfl (Nat.le_of_ble_eq_true rfl) ?_
  obtain ⟨r7, hc8, hf⟩ := q_bd hf
  refine z_cVi C (st := []) (c_X10_set ho1 hc8) mw_X10_set ml_L_70 ho1 (by decide) rfl dL_law_725 rfl rfl rfl ⟨Nat.le_of_ble_eq_true rfl, Nat.le_of_ble_eq_true rfl⟩ rfl (Nat.le_of_ble_eq_true rfl) ?_
  refine z_aload_n C dL_law_728 rfl 2 rfl ?_
  refine z_iload C dL_law_729 0 rfl ?_
  refine z_iconst C dL_law_731 (v := 2) (by decide) ?_
  obtain ⟨r9, hc10, hf⟩ := q_bd hf
  refine z_cVi C (st := [.int r7.2]) (c_X10_told ho1 hc10) mw_X10_told ml_L_33 ho1 (by decide) rfl dL_law_732 rfl rfl rfl ⟨Nat.le_of_ble_eq_true rfl, Nat.le_of_ble_eq_true rfl⟩ rfl (Nat.le_of_ble_eq_true rfl) ?_
  exact z_icmp_ne C dL_law_735 (by decide) (fun h => z_sub [] rfl (b_L_law_747 C hr hk hX hbl hbA hA hkc r9.1 hres (q_f hf h))) (fun h => z_sub [1, 2, 3, 4, 0] rfl (b_L_law_738 C hr hk hX hbl hbA hA hkc r9.1 o1 x2 y3 r3.2 ho1 hres (q_t hf h)))
def f_L_law_699 (xs : Nat → Int32) (L : Nat)  (z : St) (o1 : Nat) (x2 : Int32) (y3 : Int64) : Option (St × Int32) :=
  if x2 ≤ 0 then f_L_law_842 xs L z o1 x2 y3 else f_L_law_703 xs L z o1 x2 y3
theorem b_L_law_699 {p : Program} {l : Launch} {e : Env} {s : State} {m : MethodId} {below : List Frame} {meth : Method} {c : Code} {b L : Nat} {xs : Nat → Int32} {kc : Nat × Nat} {g : Ga} {A : Nat → Prop} (C : Cx l g A p s m #[Value.ref b] c cL_law 16 RL room_1 kc) (hr : meth.sig.returnType = ret) (hk : meth.locks = false) (hX : va_X b L xs s s.heap) (hbl : b < s.heap.size) (hbA : ¬ A b) (hA : ∀ q, A q → s.heap.size ≤ q) (hkc : kc.1 ≤ 600000 ∧ kc.2 ≤ 7302249)   (z : St) (o1 : Nat) (x2 : Int32) (y3 : Int64) (ho1 : kd o1 = 10) {res : St × Int32} (hres : res.2 = 1) (hf : f_L_law_699 xs L  z o1 x2 y3 = some res) : Zj p l e room_1 s m #[Value.ref b] below meth c g A 16 kc (lw_Z below #[Value.ref b] s) z 699 [(0, .ref b), (1, .ref (g.1 o1)), (2, .int x2), (3, .long y3)] [] := by
  unfold f_L_law_699 at hf
  refine z_iload_n C dL_law_699 rfl 2 rfl ?_
  exact z_if_le C dL_law_700 (by decide) (fun h => z_sub [0, 1, 2, 3] rfl (b_L_law_842 C hr hk hX hbl hbA hA hkc z o1 x2 y3 ho1 hres (q_t hf h))) (fun h => z_sub [0, 1, 2, 3] rfl (b_L_law_703 C hr hk hX hbl hbA hA hkc z o1 x2 y3 ho1 hres (q_f hf h)))
def f_L_law_687 (xs : Nat → Int32) (L : Nat)  (z : St) (o1 : Nat) (x2 : Int32) (y3 : Int64) (y6 : Int64) : Option (St × Int32) :=
  ((f_L_state z o1).bind fun r1 => if (lg_cmp r1.2 y6) = 0 then f_L_law_699 xs L r1.1 o1 x2 y3 else f_L_law_697 xs L r1.1)
theorem b_L_law_687 {p : Program} {l : Launch} {e : Env} {s : State} {m : MethodId} {below : List Frame} {meth : Method} {c : Code} {b L : Nat} {xs : Nat → Int32} {kc : Nat × Nat} {g : Ga} {A : Nat → Prop} (C : Cx l g A p s m #[Value.ref b] c cL_law 16 RL room_1 kc) (hr : meth.sig.returnType = ret) (hk : meth.locks = false) (hX : va_X b L xs s s.heap) (hbl : b < s.heap.size) (hbA : ¬ A b) (hA : ∀ q, A q → s.heap.size ≤ q) (hkc : kc.1 ≤ 600000 ∧ kc.2 ≤ 7302249)   (z : St) (o1 : Nat) (x2 : Int32) (y3 : Int64) (y6 : Int64) (ho1 : kd o1 = 10) {res : St × Int32} (hres : res.2 = 1) (hf : f_L_law_687 xs L  z o1 x2 y3 y6 = some res) : Zj p l e room_1 s m #[Value.ref b] below meth c g A 16 kc (lw_Z below #[Value.ref b] s) z 687 [(0, .ref b), (1, .ref (g.1 o1)), (2, .int x2), (3, .long y3), (6, .long y6)] [] := by
  unfold f_L_law_687 at hf
  refine z_aload_n C dL_law_687 rfl 1 rfl ?_
  obtain ⟨r1, hc2, hf⟩ := q_bd hf
  refine z_cSl C (st := []) (c_L_state ho1 hc2) mw_L_state ml_L_52 dL_law_688 rfl rfl rfl ⟨Nat.le_of_ble_eq_true rfl, Nat.le_of_ble_eq_true rfl⟩ rfl (Nat.le_of_ble_eq_true rfl) ?_
  refine z_lload C dL_law_691 4 rfl ?_
  refine z_lcmp C dL_law_693 ?_
  exact z_if_eq C dL_law_694 (by decide) (fun h => z_sub [0, 1, 2, 3] rfl (b_L_law_699 C hr hk hX hbl hbA hA hkc r1.1 o1 x2 y3 ho1 hres (q_t hf h))) (fun h => z_sub [] rfl (b_L_law_697 C hr hk hX hbl hbA hA hkc r1.1 hres (q_f hf h)))
def f_L_law_626 (xs : Nat → Int32) (L : Nat)  (z : St) (o1 : Nat) (x2 : Int32) (y3 : Int64) (y6 : Int64) : Option (St × Int32) :=
  ((f_X10_greedy z o1 ((-1)) 0).bind fun r1 => ((f_X10_breaking r1.1 o1 0).bind fun r3 => ((f_X10_least r3.1 o1 1).bind fun r5 => ((f_X10_many r5.1 o1).bind fun r7 => ((f_L_at xs L r7.1 4).bind fun r9 => ((f_L_at xs L r9.1 4).bind fun r11 => ((f_L_some r11.1 r11.2 31).bind fun r13 => ((f_X10_drawn r13.1 o1 r9.2 r13.2).bind fun r15 => ((f_X10_strongest r15.1 o1 1).bind fun r17 => if (lg_cmp (Int32.toInt64 (((((r1.2 + r3.2) + r5.2) + r7.2) + r15.2) + r17.2)) 123456789012345) = 0 then f_L_law_697 xs L r17.1 else f_L_law_687 xs L r17.1 o1 x2 y3 y6)))))))))
theorem b_L_law_626 {p : Program} {l : Launch} {e : Env} {s : State} {m : MethodId} {below : List Frame} {meth : Method} {c : Code} {b L : Nat} {xs : Nat → Int32} {kc : Nat × Nat} {g : Ga} {A : Nat → Prop} (C : Cx l g A p s m #[Value.ref b] c cL_law 16 RL room_1 kc) (hr : meth.sig.returnType = ret) (hk : meth.locks = false) (hX : va_X b L xs s s.heap) (hbl : b < s.heap.size) (hbA : ¬ A b) (hA : ∀ q, A q → s.heap.size ≤ q) (hkc : kc.1 ≤ 600000 ∧ kc.2 ≤ 7302249)   (z : St) (o1 : Nat) (x2 : Int32) (y3 : Int64) (y6 : Int64) (ho1 : kd o1 = 10) {res : St × Int32} (hres : res.2 = 1) (hf : f_L_law_626 xs L  z o1 x2 y3 y6 = some res) : Zj p l e room_1 s m #[Value.ref b] below meth c g A 16 kc (lw_Z below #[Value.ref b] s) z 626 [(0, .ref b), (1, .ref (g.1 o1)), (2, .int x2), (3, .long y3), (6, .long y6)] [] := by
  unfold f_L_law_626 at hf
  refine z_aload_n C dL_law_626 rfl 1 rfl ?_
  refine z_iconst C dL_law_627 (v := (-1)) (by decide) ?_
  refine z_iconst C dL_law_628 (v := 0) (by decide) ?_
  obtain ⟨r1, hc2, hf⟩ := q_bd hf
  refine z_cVi C (st := []) (c_X10_greedy ho1 hc2) mw_X10_greedy ml_L_59 ho1 (by decide) rfl dL_law_629 rfl rfl rfl ⟨Nat.le_of_ble_eq_true rfl, Nat.le_of_ble_eq_true rfl⟩ rfl (Nat.le_of_ble_eq_true rfl) ?_
  refine z_aload_n C dL_law_632 rfl 1 rfl ?_
  refine z_iconst C dL_law_633 (v := 0) (by decide) ?_
  obtain ⟨r3, hc4, hf⟩ := q_bd hf
  refine z_cVi C (st := [.int r1.2]) (c_X10_breaking ho1 hc4) mw_X10_breaking ml_L_102 ho1 (by decide) rfl dL_law_634 rfl rfl rfl ⟨Nat.le_of_ble_eq_true rfl, Nat.le_of_ble_eq_true rfl⟩ rfl (Nat.le_of_ble_eq_true rfl) ?_
  refine z_iadd C dL_law_637 ?_
  refine z_aload_n C dL_law_638 rfl 1 rfl ?_
  refine z_iconst C dL_law_639 (v := 1) (by decide) ?_
  obtain ⟨r5, hc6, hf⟩ := q_bd hf
  refine z_cVi C (st := [.int (r1.2 + r3.2)]) (c_X10_least ho1 hc6) mw_X10_least ml_L_105 ho1 (by decide) rfl dL_law_640 rfl rfl rfl ⟨Nat.le_of_ble_eq_true rfl, Nat.le_of_ble_eq_true rfl⟩ rfl (Nat.le_of_ble_eq_true rfl) ?_
  refine z_iadd C dL_law_643 ?_
  refine z_aload_n C dL_law_644 rfl 1 rfl ?_
  obtain ⟨r7, hc8, hf⟩ := q_bd hf
  refine z_cVi C (st := [.int ((r1.2 + r3.2) + r5.2)]) (c_X10_many ho1 hc8) mw_X10_many ml_L_108 ho1 (by decide) rfl dL_law_645 rfl rfl rfl ⟨Nat.le_of_ble_eq_true rfl, Nat.le_of_ble_eq_true rfl⟩ rfl (Nat.le_of_ble_eq_true rfl) ?_
  refine z_iadd C dL_law_648 ?_
  refine z_aload_n C dL_law_649 rfl 1 rfl ?_
  refine z_aload_n C dL_law_650 rfl 0 rfl ?_
  refine z_iconst C dL_law_651 (v := 4) (by decide) ?_
  obtain ⟨r9, hc10, hf⟩ := q_bd hf
  refine z_cXi C hX hbl hbA (st := [.ref (g.1 o1), .int (((r1.2 + r3.2) + r5.2) + r7.2)]) (c_L_at  hc10) mw_L_at ml_L_10 dL_law_652 rfl rfl rfl ⟨Nat.le_of_ble_eq_true rfl, Nat.le_of_ble_eq_true rfl⟩ rfl (Nat.le_of_ble_eq_true rfl) ?_
  refine z_aload_n C dL_law_655 rfl 0 rfl ?_
  refine z_iconst C dL_law_656 (v := 4) (by decide) ?_
  obtain ⟨r11, hc12, hf⟩ := q_bd hf
  refine z_cXi C hX hbl hbA (st := [.int r9.2, .ref (g.1 o1), .int (((r1.2 + r3.2) + r5.2) + r7.2)]) (c_L_at  hc12) mw_L_at ml_L_10 dL_law_657 rfl rfl rfl ⟨Nat.le_of_ble_eq_true rfl, Nat.le_of_ble_eq_true rfl⟩ rfl (Nat.le_of_ble_eq_true rfl) ?_
  refine z_bipush C dL_law_660 (v := 31) (by decide) ?_
  obtain ⟨r13, hc14, hf⟩ := q_bd hf
  refine z_cSi C (st := [.int r9.2, .ref (g.1 o1), .int (((r1.2 + r3.2) + r5.2) + r7.2)]) (c_L_some  hc14) mw_L_some ml_L_16 dL_law_662 rfl rfl rfl ⟨Nat.le_of_ble_eq_true rfl, Nat.le_of_ble_eq_true rfl⟩ rfl (Nat.le_of_ble_eq_true rfl) ?_
  obtain ⟨r15, hc16, hf⟩ := q_bd hf
  refine z_cVi C (st := [.int (((r1.2 + r3.2) + r5.2) + r7.2)]) (c_X10_drawn ho1 hc16) mw_X10_drawn ml_L_111 ho1 (by decide) rfl dL_law_665 rfl rfl rfl ⟨Nat.le_of_ble_eq_true rfl, Nat.le_of_ble_eq_true rfl⟩ rfl (Nat.le_of_ble_eq_true rfl) ?_
  refine z_iadd C dL_law_668 ?_
  refine z_aload_n C dL_law_669 rfl 1 rfl ?_
  refine z_iconst C dL_law_670 (v := 1) (by decide) ?_
  obtain ⟨r17, hc18, hf⟩ := q_bd hf
  refine z_cVi C (st := [.int ((((r1.2 + r3.2) + r5.2) + r7.2) + r15.2)]) (c_X10_strongest ho1 hc18) mw_X10_strongest ml_L_114 ho1 (by decide) rfl dL_law_671 rfl rfl rfl ⟨Nat.le_of_ble_eq_true rfl, Nat.le_of_ble_eq_true rfl⟩ rfl (Nat.le_of_ble_eq_true rfl) ?_
  refine z_iadd C dL_law_674 ?_
  refine z_i2l C dL_law_675 ?_
  refine z_lstore C (lv2 := [(9, .long (Int32.toInt64 (((((r1.2 + r3.2) + r5.2) + r7.2) + r15.2) + r17.2))), (0, .ref b), (1, .ref (g.1 o1)), (2, .int x2), (3, .long y3), (6, .long y6)]) dL_law_676 (by decide) rfl ?_
  refine z_lload C dL_law_678 0 rfl ?_
  refine z_ldc2 C dL_law_680 kc_L_117 ?_
  refine z_lcmp C dL_law_683 ?_
  exact z_if_eq C dL_law_684 (by decide) (fun h => z_sub [] rfl (b_L_law_697 C hr hk hX hbl hbA hA hkc r17.1 hres (q_t hf h))) (fun h => z_sub [1, 2, 3, 4, 5] rfl (b_L_law_687 C hr hk hX hbl hbA hA hkc r17.1 o1 x2 y3 y6 ho1 hres (q_f hf h)))
def f_L_law_611 (xs : Nat → Int32) (L : Nat)  (z : St) (o1 : Nat) (x2 : Int32) (y3 : Int64) (y6 : Int64) : Option (St × Int32) :=
  ((f_X10_job z o1 0 0 1 0).bind fun r1 => if r1.2 = ((-4)) then f_L_law_626 xs L r1.1 o1 x2 y3 y6 else f_L_law_624 xs L r1.1)
theorem b_L_law_611 {p : Program} {l : Launch} {e : Env} {s : State} {m : MethodId} {below : List Frame} {meth : Method} {c : Code} {b L : Nat} {xs : Nat → Int32} {kc : Nat × Nat} {g : Ga} {A : Nat → Prop} (C : Cx l g A p s m #[Value.ref b] c cL_law 16 RL room_1 kc) (hr : meth.sig.returnType = ret) (hk : meth.locks = false) (hX : va_X b L xs s s.heap) (hbl : b < s.heap.size) (hbA : ¬ A b) (hA : ∀ q, A q → s.heap.size ≤ q) (hkc : kc.1 ≤ 600000 ∧ kc.2 ≤ 7302249)   (z : St) (o1 : Nat) (x2 : Int32) (y3 : Int64) (y6 : Int64) (ho1 : kd o1 = 10) {res : St × Int32} (hres : res.2 = 1) (hf : f_L_law_611 xs L  z o1 x2 y3 y6 = some res) : Zj p l e room_1 s m #[Value.ref b] below meth c g A 16 kc (lw_Z below #[Value.ref b] s) z 611 [(0, .ref b), (1, .ref (g.1 o1)), (2, .int x2), (3, .long y3), (6, .long y6)] [] := by
  unfold f_L_law_611 at hf
  refine z_aload_n C dL_law_611 rfl 1 rfl ?_
  refine z_iconst C dL_law_612 (v := 0) (by decide) ?_
  refine z_iconst C dL_law_613 (v := 0) (by decide) ?_
  refine z_iconst C dL_law_614 (v := 1) (by decide) ?_
  refine z_iconst C dL_law_615 (v := 0) (by decide) ?_
  obtain ⟨r1, hc2, hf⟩ := q_bd hf
  refine z_cVi C (st := []) (c_X10_job ho1 hc2) mw_X10_job ml_L_21 ho1 (by decide) rfl dL_law_616 rfl rfl rfl ⟨Nat.le_of_ble_eq_true rfl, Nat.le_of_ble_eq_true rfl⟩ rfl (Nat.le_of_ble_eq_true rfl) ?_
  refine z_bipush C dL_law_619 (v := (-4)) (by decide) ?_
  exact z_icmp_eq C dL_law_621 (by decide) (fun h => z_sub [0, 1, 2, 3, 4] rfl (b_L_law_626 C hr hk hX hbl hbA hA hkc r1.1 o1 x2 y3 y6 ho1 hres (q_t hf h))) (fun h => z_sub [] rfl (b_L_law_624 C hr hk hX hbl hbA hA hkc r1.1 hres (q_f hf h)))
def f_L_law_605 (xs : Nat → Int32) (L : Nat)  (z : St) (o1 : Nat) (x2 : Int32) (y3 : Int64) (y6 : Int64) : Option (St × Int32) :=
  if x2 = 8 then f_L_law_611 xs L z o1 x2 y3 y6 else f_L_law_626 xs L z o1 x2 y3 y6
theorem b_L_law_605 {p : Program} {l : Launch} {e : Env} {s : State} {m : MethodId} {below : List Frame} {meth : Method} {c : Code} {b L : Nat} {xs : Nat → Int32} {kc : Nat × Nat} {g : Ga} {A : Nat → Prop} (C : Cx l g A p s m #[Value.ref b] c cL_law 16 RL room_1 kc) (hr : meth.sig.returnType = ret) (hk : meth.locks = false) (hX : va_X b L xs s s.heap) (hbl : b < s.heap.size) (hbA : ¬ A b) (hA : ∀ q, A q → s.heap.size ≤ q) (hkc : kc.1 ≤ 600000 ∧ kc.2 ≤ 7302249)   (z : St) (o1 : Nat) (x2 : Int32) (y3 : Int64) (y6 : Int64) (ho1 : kd o1 = 10) {res : St × Int32} (hres : res.2 = 1) (hf : f_L_law_605 xs L  z o1 x2 y3 y6 = some res) : Zj p l e room_1 s m #[Value.ref b] below meth c g A 16 kc (lw_Z below #[Value.ref b] s) z 605 [(0, .ref b), (1, .ref (g.1 o1)), (2, .int x2), (3, .long y3), (6, .long y6)] [] := by
  unfold f_L_law_605 at hf
  refine z_iload_n C dL_law_605 rfl 2 rfl ?_
  refine z_bipush C dL_law_606 (v := 8) (by decide) ?_
  exact z_icmp_ne C dL_law_608 (by decide) (fun h => z_sub [0, 1, 2, 3, 4] rfl (b_L_law_626 C hr hk hX hbl hbA hA hkc z o1 x2 y3 y6 ho1 hres (q_f hf h))) (fun h => z_sub [0, 1, 2, 3, 4] rfl (b_L_law_611 C hr hk hX hbl hbA hA hkc z o1 x2 y3 y6 ho1 hres (q_t hf h)))
def f_L_law_593 (xs : Nat → Int32) (L : Nat)  (z : St) (o1 : Nat) (x2 : Int32) (y3 : Int64) (y6 : Int64) : Option (St × Int32) :=
  ((f_X10_film z o1 ((-1))).bind fun r1 => if r1.2 = ((-2)) then f_L_law_605 xs L r1.1 o1 x2 y3 y6 else f_L_law_603 xs L r1.1)
theorem b_L_law_593 {p : Program} {l : Launch} {e : Env} {s : State} {m : MethodId} {below : List Frame} {meth : Method} {c : Code} {b L : Nat} {xs : Nat → Int32} {kc : Nat × Nat} {g : Ga} {A : Nat → Prop} (C : Cx l g A p s m #[Value.ref b] c cL_law 16 RL room_1 kc) (hr : meth.sig.returnType = ret) (hk : meth.locks = false) (hX : va_X b L xs s s.heap) (hbl : b < s.heap.size) (hbA : ¬ A b) (hA : ∀ q, A q → s.heap.size ≤ q) (hkc : kc.1 ≤ 600000 ∧ kc.2 ≤ 7302249)   (z : St) (o1 : Nat) (x2 : Int32) (y3 : Int64) (y6 : Int64) (ho1 : kd o1 = 10) {res : St × Int32} (hres : res.2 = 1) (hf : f_L_law_593 xs L  z o1 x2 y3 y6 = some res) : Zj p l e room_1 s m #[Value.ref b] below meth c g A 16 kc (lw_Z below #[Value.ref b] s) z 593 [(0, .ref b), (1, .ref (g.1 o1)), (2, .int x2), (3, .long y3), (6, .long y6)] [] := by
  unfold f_L_law_593 at hf
  refine z_aload_n C dL_law_593 rfl 1 rfl ?_
  refine z_iconst C dL_law_594 (v := (-1)) (by decide) ?_
  obtain ⟨r1, hc2, hf⟩ := q_bd hf
  refine z_cVi C (st := []) (c_X10_film ho1 hc2) mw_X10_film ml_L_99 ho1 (by decide) rfl dL_law_595 rfl rfl rfl ⟨Nat.le_of_ble_eq_true rfl, Nat.le_of_ble_eq_true rfl⟩ rfl (Nat.le_of_ble_eq_true rfl) ?_
  refine z_bipush C dL_law_598 (v := (-2)) (by decide) ?_
  exact z_icmp_eq C dL_law_600 (by decide) (fun h => z_sub [0, 1, 2, 3, 4] rfl (b_L_law_605 C hr hk hX hbl hbA hA hkc r1.1 o1 x2 y3 y6 ho1 hres (q_t hf h))) (fun h => z_sub [] rfl (b_L_law_603 C hr hk hX hbl hbA hA hkc r1.1 hres (q_f hf h)))
def f_L_law_580 (xs : Nat → Int32) (L : Nat)  (z : St) (o1 : Nat) (x2 : Int32) (y3 : Int64) (y6 : Int64) : Option (St × Int32) :=
  ((f_X10_judge z o1 4 0).bind fun r1 => if (lg_cmp r1.2 ((-2))) = 0 then f_L_law_593 xs L r1.1 o1 x2 y3 y6 else f_L_law_603 xs L r1.1)
theorem b_L_law_580 {p : Program} {l : Launch} {e : Env} {s : State} {m : MethodId} {below : List Frame} {meth : Method} {c : Code} {b L : Nat} {xs : Nat → Int32} {kc : Nat × Nat} {g : Ga} {A : Nat → Prop} (C : Cx l g A p s m #[Value.ref b] c cL_law 16 RL room_1 kc) (hr : meth.sig.returnType = ret) (hk : meth.locks = false) (hX : va_X b L xs s s.heap) (hbl : b < s.heap.size) (hbA : ¬ A b) (hA : ∀ q, A q → s.heap.size ≤ q) (hkc : kc.1 ≤ 600000 ∧ kc.2 ≤ 7302249)   (z : St) (o1 : Nat) (x2 : Int32) (y3 : Int64) (y6 : Int64) (ho1 : kd o1 = 10) {res : St × Int32} (hres : res.2 = 1) (hf : f_L_law_580 xs L  z o1 x2 y3 y6 = some res) : Zj p l e room_1 s m #[Value.ref b] below meth c g A 16 kc (lw_Z below #[Value.ref b] s) z 580 [(0, .ref b), (1, .ref (g.1 o1)), (2, .int x2), (3, .long y3), (6, .long y6)] [] := by
  unfold f_L_law_580 at hf
  refine z_aload_n C dL_law_580 rfl 1 rfl ?_
  refine z_iconst C dL_law_581 (v := 4) (by decide) ?_
  refine z_iconst C dL_law_582 (v := 0) (by decide) ?_
  obtain ⟨r1, hc2, hf⟩ := q_bd hf
  refine z_cVl C (st := []) (c_X10_judge ho1 hc2) mw_X10_judge ml_L_93 ho1 (by decide) rfl dL_law_583 rfl rfl rfl ⟨Nat.le_of_ble_eq_true rfl, Nat.le_of_ble_eq_true rfl⟩ rfl (Nat.le_of_ble_eq_true rfl) ?_
  refine z_ldc2 C dL_law_586 kc_L_97 ?_
  refine z_lcmp C dL_law_589 ?_
  exact z_if_ne C dL_law_590 (by decide) (fun h => z_sub [] rfl (b_L_law_603 C hr hk hX hbl hbA hA hkc r1.1 hres (q_f hf h))) (fun h => z_sub [0, 1, 2, 3, 4] rfl (b_L_law_593 C hr hk hX hbl hbA hA hkc r1.1 o1 x2 y3 y6 ho1 hres (q_t hf h)))
def f_L_law_563 (xs : Nat → Int32) (L : Nat)  (z : St) (o1 : Nat) (x2 : Int32) (y3 : Int64) (y6 : Int64) : Option (St × Int32) :=
  ((f_X10_feed z o1 1 1 1 256 1 1).bind fun r1 => if r1.2 = ((-2)) then f_L_law_580 xs L r1.1 o1 x2 y3 y6 else f_L_law_603 xs L r1.1)
theorem b_L_law_563 {p : Program} {l : Launch} {e : Env} {s : State} {m : MethodId} {below : List Frame} {meth : Method} {c : Code} {b L : Nat} {xs : Nat → Int32} {kc : Nat × Nat} {g : Ga} {A : Nat → Prop} (C : Cx l g A p s m #[Value.ref b] c cL_law 16 RL room_1 kc) (hr : meth.sig.returnType = ret) (hk : meth.locks = false) (hX : va_X b L xs s s.heap) (hbl : b < s.heap.size) (hbA : ¬ A b) (hA : ∀ q, A q → s.heap.size ≤ q) (hkc : kc.1 ≤ 600000 ∧ kc.2 ≤ 7302249)   (z : St) (o1 : Nat) (x2 : Int32) (y3 : Int64) (y6 : Int64) (ho1 : kd o1 = 10) {res : St × Int32} (hres : res.2 = 1) (hf : f_L_law_563 xs L  z o1 x2 y3 y6 = some res) : Zj p l e room_1 s m #[Value.ref b] below meth c g A 16 kc (lw_Z below #[Value.ref b] s) z 563 [(0, .ref b), (1, .ref (g.1 o1)), (2, .int x2), (3, .long y3), (6, .long y6)] [] := by
  unfold f_L_law_563 at hf
  refine z_aload_n C dL_law_563 rfl 1 rfl ?_
  refine z_iconst C dL_law_564 (v := 1) (by decide) ?_
  refine z_iconst C dL_law_565 (v := 1) (by decide) ?_
  refine z_iconst C dL_law_566 (v := 1) (by decide) ?_
  refine z_sipush C dL_law_567 (v := 256) (by decide) ?_
  refine z_iconst C dL_law_570 (v := 1) (by decide) ?_
  refine z_iconst C dL_law_571 (v := 1) (by decide) ?_
  obtain ⟨r1, hc2, hf⟩ := q_bd hf
  refine z_cVi C (st := []) (c_X10_feed ho1 hc2) mw_X10_feed ml_L_89 ho1 (by decide) rfl dL_law_572 rfl rfl rfl ⟨Nat.le_of_ble_eq_true rfl, Nat.le_of_ble_eq_true rfl⟩ rfl (Nat.le_of_ble_eq_true rfl) ?_
  refine z_bipush C dL_law_575 (v := (-2)) (by decide) ?_
  exact z_icmp_ne C dL_law_577 (by decide) (fun h => z_sub [] rfl (b_L_law_603 C hr hk hX hbl hbA hA hkc r1.1 hres (q_f hf h))) (fun h => z_sub [0, 1, 2, 3, 4] rfl (b_L_law_580 C hr hk hX hbl hbA hA hkc r1.1 o1 x2 y3 y6 ho1 hres (q_t hf h)))
def f_L_law_547 (xs : Nat → Int32) (L : Nat)  (z : St) (o1 : Nat) (x2 : Int32) (y3 : Int64) (y6 : Int64) : Option (St × Int32) :=
  ((f_X10_feed z o1 6 1 1 1 1 1).bind fun r1 => if r1.2 = ((-2)) then f_L_law_563 xs L r1.1 o1 x2 y3 y6 else f_L_law_603 xs L r1.1)
theorem b_L_law_547 {p : Program} {l : Launch} {e : Env} {s : State} {m : MethodId} {below : List Frame} {meth : Method} {c : Code} {b L : Nat} {xs : Nat → Int32} {kc : Nat × Nat} {g : Ga} {A : Nat → Prop} (C : Cx l g A p s m #[Value.ref b] c cL_law 16 RL room_1 kc) (hr : meth.sig.returnType = ret) (hk : meth.locks = false) (hX : va_X b L xs s s.heap) (hbl : b < s.heap.size) (hbA : ¬ A b) (hA : ∀ q, A q → s.heap.size ≤ q) (hkc : kc.1 ≤ 600000 ∧ kc.2 ≤ 7302249)   (z : St) (o1 : Nat) (x2 : Int32) (y3 : Int64) (y6 : Int64) (ho1 : kd o1 = 10) {res : St × Int32} (hres : res.2 = 1) (hf : f_L_law_547 xs L  z o1 x2 y3 y6 = some res) : Zj p l e room_1 s m #[Value.ref b] below meth c g A 16 kc (lw_Z below #[Value.ref b] s) z 547 [(0, .ref b), (1, .ref (g.1 o1)), (2, .int x2), (3, .long y3), (6, .long y6)] [] := by
  unfold f_L_law_547 at hf
  refine z_aload_n C dL_law_547 rfl 1 rfl ?_
  refine z_bipush C dL_law_548 (v := 6) (by decide) ?_
  refine z_iconst C dL_law_550 (v := 1) (by decide) ?_
  refine z_iconst C dL_law_551 (v := 1) (by decide) ?_
  refine z_iconst C dL_law_552 (v := 1) (by decide) ?_
  refine z_iconst C dL_law_553 (v := 1) (by decide) ?_
  refine z_iconst C dL_law_554 (v := 1) (by decide) ?_
  obtain ⟨r1, hc2, hf⟩ := q_bd hf
  refine z_cVi C (st := []) (c_X10_feed ho1 hc2) mw_X10_feed ml_L_89 ho1 (by decide) rfl dL_law_555 rfl rfl rfl ⟨Nat.le_of_ble_eq_true rfl, Nat.le_of_ble_eq_true rfl⟩ rfl (Nat.le_of_ble_eq_true rfl) ?_
  refine z_bipush C dL_law_558 (v := (-2)) (by decide) ?_
  exact z_icmp_ne C dL_law_560 (by decide) (fun h => z_sub [] rfl (b_L_law_603 C hr hk hX hbl hbA hA hkc r1.1 hres (q_f hf h))) (fun h => z_sub [0, 1, 2, 3, 4] rfl (b_L_law_563 C hr hk hX hbl hbA hA hkc r1.1 o1 x2 y3 y6 ho1 hres (q_t hf h)))
def f_L_law_532 (xs : Nat → Int32) (L : Nat)  (z : St) (o1 : Nat) (x2 : Int32) (y3 : Int64) (y6 : Int64) : Option (St × Int32) :=
  ((f_X10_feed z o1 0 1 1 1 1 1).bind fun r1 => if r1.2 = ((-2)) then f_L_law_547 xs L r1.1 o1 x2 y3 y6 else f_L_law_603 xs L r1.1)
theorem b_L_law_532 {p : Program} {l : Launch} {e : Env} {s : State} {m : MethodId} {below : List Frame} {meth : Method} {c : Code} {b L : Nat} {xs : Nat → Int32} {kc : Nat × Nat} {g : Ga} {A : Nat → Prop} (C : Cx l g A p s m #[Value.ref b] c cL_law 16 RL room_1 kc) (hr : meth.sig.returnType = ret) (hk : meth.locks = false) (hX : va_X b L xs s s.heap) (hbl : b < s.heap.size) (hbA : ¬ A b) (hA : ∀ q, A q → s.heap.size ≤ q) (hkc : kc.1 ≤ 600000 ∧ kc.2 ≤ 7302249)   (z : St) (o1 : Nat) (x2 : Int32) (y3 : Int64) (y6 : Int64) (ho1 : kd o1 = 10) {res : St × Int32} (hres : res.2 = 1) (hf : f_L_law_532 xs L  z o1 x2 y3 y6 = some res) : Zj p l e room_1 s m #[Value.ref b] below meth c g A 16 kc (lw_Z below #[Value.ref b] s) z 532 [(0, .ref b), (1, .ref (g.1 o1)), (2, .int x2), (3, .long y3), (6, .long y6)] [] := by
  unfold f_L_law_532 at hf
  refine z_aload_n C dL_law_532 rfl 1 rfl ?_
  refine z_iconst C dL_law_533 (v := 0) (by decide) ?_
  refine z_iconst C dL_law_534 (v := 1) (by decide) ?_
  refine z_iconst C dL_law_535 (v := 1) (by decide) ?_
  refine z_iconst C dL_law_536 (v := 1) (by decide) ?_
  refine z_iconst C dL_law_537 (v := 1) (by decide) ?_
  refine z_iconst C dL_law_538 (v := 1) (by decide) ?_
  obtain ⟨r1, hc2, hf⟩ := q_bd hf
  refine z_cVi C (st := []) (c_X10_feed ho1 hc2) mw_X10_feed ml_L_89 ho1 (by decide) rfl dL_law_539 rfl rfl rfl ⟨Nat.le_of_ble_eq_true rfl, Nat.le_of_ble_eq_true rfl⟩ rfl (Nat.le_of_ble_eq_true rfl) ?_
  refine z_bipush C dL_law_542 (v := (-2)) (by decide) ?_
  exact z_icmp_ne C dL_law_544 (by decide) (fun h => z_sub [] rfl (b_L_law_603 C hr hk hX hbl hbA hA hkc r1.1 hres (q_f hf h))) (fun h => z_sub [0, 1, 2, 3, 4] rfl (b_L_law_547 C hr hk hX hbl hbA hA hkc r1.1 o1 x2 y3 y6 ho1 hres (q_t hf h)))
def f_L_law_522 (xs : Nat → Int32) (L : Nat)  (z : St) (o1 : Nat) (x2 : Int32) (y3 : Int64) (y6 : Int64) : Option (St × Int32) :=
  ((f_X10_count z o1 3).bind fun r1 => if r1.2 = ((-2)) then f_L_law_532 xs L r1.1 o1 x2 y3 y6 else f_L_law_603 xs L r1.1)
theorem b_L_law_522 {p : Program} {l : Launch} {e : Env} {s : State} {m : MethodId} {below : List Frame} {meth : Method} {c : Code} {b L : Nat} {xs : Nat → Int32} {kc : Nat × Nat} {g : Ga} {A : Nat → Prop} (C : Cx l g A p s m #[Value.ref b] c cL_law 16 RL room_1 kc) (hr : meth.sig.returnType = ret) (hk : meth.locks = false) (hX : va_X b L xs s s.heap) (hbl : b < s.heap.size) (hbA : ¬ A b) (hA : ∀ q, A q → s.heap.size ≤ q) (hkc : kc.1 ≤ 600000 ∧ kc.2 ≤ 7302249)   (z : St) (o1 : Nat) (x2 : Int32) (y3 : Int64) (y6 : Int64) (ho1 : kd o1 = 10) {res : St × Int32} (hres : res.2 = 1) (hf : f_L_law_522 xs L  z o1 x2 y3 y6 = some res) : Zj p l e room_1 s m #[Value.ref b] below meth c g A 16 kc (lw_Z below #[Value.ref b] s) z 522 [(0, .ref b), (1, .ref (g.1 o1)), (2, .int x2), (3, .long y3), (6, .long y6)] [] := by
  unfold f_L_law_522 at hf
  refine z_aload_n C dL_law_522 rfl 1 rfl ?_
  refine z_iconst C dL_law_523 (v := 3) (by decide) ?_
  obtain ⟨r1, hc2, hf⟩ := q_bd hf
  refine z_cVi C (st := []) (c_X10_count ho1 hc2) mw_X10_count ml_L_27 ho1 (by decide) rfl dL_law_524 rfl rfl rfl ⟨Nat.le_of_ble_eq_true rfl, Nat.le_of_ble_eq_true rfl⟩ rfl (Nat.le_of_ble_eq_true rfl) ?_
  refine z_bipush C dL_law_527 (v := (-2)) (by decide) ?_
  exact z_icmp_ne C dL_law_529 (by decide) (fun h => z_sub [] rfl (b_L_law_603 C hr hk hX hbl hbA hA hkc r1.1 hres (q_f hf h))) (fun h => z_sub [0, 1, 2, 3, 4] rfl (b_L_law_532 C hr hk hX hbl hbA hA hkc r1.1 o1 x2 y3 y6 ho1 hres (q_t hf h)))
def f_L_law_512 (xs : Nat → Int32) (L : Nat)  (z : St) (o1 : Nat) (x2 : Int32) (y3 : Int64) (y6 : Int64) : Option (St × Int32) :=
  ((f_X10_began z o1 x2).bind fun r1 => if r1.2 = ((-2)) then f_L_law_522 xs L r1.1 o1 x2 y3 y6 else f_L_law_603 xs L r1.1)
theorem b_L_law_512 {p : Program} {l : Launch} {e : Env} {s : State} {m : MethodId} {below : List Frame} {meth : Method} {c : Code} {b L : Nat} {xs : Nat → Int32} {kc : Nat × Nat} {g : Ga} {A : Nat → Prop} (C : Cx l g A p s m #[Value.ref b] c cL_law 16 RL room_1 kc) (hr : meth.sig.returnType = ret) (hk : meth.locks = false) (hX : va_X b L xs s s.heap) (hbl : b < s.heap.size) (hbA : ¬ A b) (hA : ∀ q, A q → s.heap.size ≤ q) (hkc : kc.1 ≤ 600000 ∧ kc.2 ≤ 7302249)   (z : St) (o1 : Nat) (x2 : Int32) (y3 : Int64) (y6 : Int64) (ho1 : kd o1 = 10) {res : St × Int32} (hres : res.2 = 1) (hf : f_L_law_512 xs L  z o1 x2 y3 y6 = some res) : Zj p l e room_1 s m #[Value.ref b] below meth c g A 16 kc (lw_Z below #[Value.ref b] s) z 512 [(0, .ref b), (1, .ref (g.1 o1)), (2, .int x2), (3, .long y3), (6, .long y6)] [] := by
  unfold f_L_law_512 at hf
  refine z_aload_n C dL_law_512 rfl 1 rfl ?_
  refine z_iload_n C dL_law_513 rfl 2 rfl ?_
  obtain ⟨r1, hc2, hf⟩ := q_bd hf
  refine z_cVi C (st := []) (c_X10_began ho1 hc2) mw_X10_began ml_L_36 ho1 (by decide) rfl dL_law_514 rfl rfl rfl ⟨Nat.le_of_ble_eq_true rfl, Nat.le_of_ble_eq_true rfl⟩ rfl (Nat.le_of_ble_eq_true rfl) ?_
  refine z_bipush C dL_law_517 (v := (-2)) (by decide) ?_
  exact z_icmp_ne C dL_law_519 (by decide) (fun h => z_sub [] rfl (b_L_law_603 C hr hk hX hbl hbA hA hkc r1.1 hres (q_f hf h))) (fun h => z_sub [0, 1, 2, 3, 4] rfl (b_L_law_522 C hr hk hX hbl hbA hA hkc r1.1 o1 x2 y3 y6 ho1 hres (q_t hf h)))
def f_L_law_502 (xs : Nat → Int32) (L : Nat)  (z : St) (o1 : Nat) (x2 : Int32) (y3 : Int64) (y6 : Int64) : Option (St × Int32) :=
  ((f_X10_bench z o1 4).bind fun r1 => if r1.2 = ((-2)) then f_L_law_512 xs L r1.1 o1 x2 y3 y6 else f_L_law_603 xs L r1.1)
theorem b_L_law_502 {p : Program} {l : Launch} {e : Env} {s : State} {m : MethodId} {below : List Frame} {meth : Method} {c : Code} {b L : Nat} {xs : Nat → Int32} {kc : Nat × Nat} {g : Ga} {A : Nat → Prop} (C : Cx l g A p s m #[Value.ref b] c cL_law 16 RL room_1 kc) (hr : meth.sig.returnType = ret) (hk : meth.locks = false) (hX : va_X b L xs s s.heap) (hbl : b < s.heap.size) (hbA : ¬ A b) (hA : ∀ q, A q → s.heap.size ≤ q) (hkc : kc.1 ≤ 600000 ∧ kc.2 ≤ 7302249)   (z : St) (o1 : Nat) (x2 : Int32) (y3 : Int64) (y6 : Int64) (ho1 : kd o1 = 10) {res : St × Int32} (hres : res.2 = 1) (hf : f_L_law_502 xs L  z o1 x2 y3 y6 = some res) : Zj p l e room_1 s m #[Value.ref b] below meth c g A 16 kc (lw_Z below #[Value.ref b] s) z 502 [(0, .ref b), (1, .ref (g.1 o1)), (2, .int x2), (3, .long y3), (6, .long y6)] [] := by
  unfold f_L_law_502 at hf
  refine z_aload_n C dL_law_502 rfl 1 rfl ?_
  refine z_iconst C dL_law_503 (v := 4) (by decide) ?_
  obtain ⟨r1, hc2, hf⟩ := q_bd hf
  refine z_cVi C (st := []) (c_X10_bench ho1 hc2) mw_X10_bench ml_L_39 ho1 (by decide) rfl dL_law_504 rfl rfl rfl ⟨Nat.le_of_ble_eq_true rfl, Nat.le_of_ble_eq_true rfl⟩ rfl (Nat.le_of_ble_eq_true rfl) ?_
  refine z_bipush C dL_law_507 (v := (-2)) (by decide) ?_
  exact z_icmp_ne C dL_law_509 (by decide) (fun h => z_sub [] rfl (b_L_law_603 C hr hk hX hbl hbA hA hkc r1.1 hres (q_f hf h))) (fun h => z_sub [0, 1, 2, 3, 4] rfl (b_L_law_512 C hr hk hX hbl hbA hA hkc r1.1 o1 x2 y3 y6 ho1 hres (q_t hf h)))
def f_L_law_492 (xs : Nat → Int32) (L : Nat)  (z : St) (o1 : Nat) (x2 : Int32) (y3 : Int64) (y6 : Int64) : Option (St × Int32) :=
  ((f_X10_gain z o1 x2).bind fun r1 => if r1.2 = ((-2)) then f_L_law_502 xs L r1.1 o1 x2 y3 y6 else f_L_law_603 xs L r1.1)
theorem b_L_law_492 {p : Program} {l : Launch} {e : Env} {s : State} {m : MethodId} {below : List Frame} {meth : Method} {c : Code} {b L : Nat} {xs : Nat → Int32} {kc : Nat × Nat} {g : Ga} {A : Nat → Prop} (C : Cx l g A p s m #[Value.ref b] c cL_law 16 RL room_1 kc) (hr : meth.sig.returnType = ret) (hk : meth.locks = false) (hX : va_X b L xs s s.heap) (hbl : b < s.heap.size) (hbA : ¬ A b) (hA : ∀ q, A q → s.heap.size ≤ q) (hkc : kc.1 ≤ 600000 ∧ kc.2 ≤ 7302249)   (z : St) (o1 : Nat) (x2 : Int32) (y3 : Int64) (y6 : Int64) (ho1 : kd o1 = 10) {res : St × Int32} (hres : res.2 = 1) (hf : f_L_law_492 xs L  z o1 x2 y3 y6 = some res) : Zj p l e room_1 s m #[Value.ref b] below meth c g A 16 kc (lw_Z below #[Value.ref b] s) z 492 [(0, .ref b), (1, .ref (g.1 o1)), (2, .int x2), (3, .long y3), (6, .long y6)] [] := by
  unfold f_L_law_492 at hf
  refine z_aload_n C dL_law_492 rfl 1 rfl ?_
  refine z_iload_n C dL_law_493 rfl 2 rfl ?_
  obtain ⟨r1, hc2, hf⟩ := q_bd hf
  refine z_cVi C (st := []) (c_X10_gain ho1 hc2) mw_X10_gain ml_L_86 ho1 (by decide) rfl dL_law_494 rfl rfl rfl ⟨Nat.le_of_ble_eq_true rfl, Nat.le_of_ble_eq_true rfl⟩ rfl (Nat.le_of_ble_eq_true rfl) ?_
  refine z_bipush C dL_law_497 (v := (-2)) (by decide) ?_
  exact z_icmp_ne C dL_law_499 (by decide) (fun h => z_sub [] rfl (b_L_law_603 C hr hk hX hbl hbA hA hkc r1.1 hres (q_f hf h))) (fun h => z_sub [0, 1, 2, 3, 4] rfl (b_L_law_502 C hr hk hX hbl hbA hA hkc r1.1 o1 x2 y3 y6 ho1 hres (q_t hf h)))
def f_L_law_482 (xs : Nat → Int32) (L : Nat)  (z : St) (o1 : Nat) (x2 : Int32) (y3 : Int64) (y6 : Int64) : Option (St × Int32) :=
  ((f_X10_room z o1 ((-1))).bind fun r1 => if r1.2 = ((-2)) then f_L_law_492 xs L r1.1 o1 x2 y3 y6 else f_L_law_603 xs L r1.1)
theorem b_L_law_482 {p : Program} {l : Launch} {e : Env} {s : State} {m : MethodId} {below : List Frame} {meth : Method} {c : Code} {b L : Nat} {xs : Nat → Int32} {kc : Nat × Nat} {g : Ga} {A : Nat → Prop} (C : Cx l g A p s m #[Value.ref b] c cL_law 16 RL room_1 kc) (hr : meth.sig.returnType = ret) (hk : meth.locks = false) (hX : va_X b L xs s s.heap) (hbl : b < s.heap.size) (hbA : ¬ A b) (hA : ∀ q, A q → s.heap.size ≤ q) (hkc : kc.1 ≤ 600000 ∧ kc.2 ≤ 7302249)   (z : St) (o1 : Nat) (x2 : Int32) (y3 : Int64) (y6 : Int64) (ho1 : kd o1 = 10) {res : St × Int32} (hres : res.2 = 1) (hf : f_L_law_482 xs L  z o1 x2 y3 y6 = some res) : Zj p l e room_1 s m #[Value.ref b] below meth c g A 16 kc (lw_Z below #[Value.ref b] s) z 482 [(0, .ref b), (1, .ref (g.1 o1)), (2, .int x2), (3, .long y3), (6, .long y6)] [] := by
  unfold f_L_law_482 at hf
  refine z_aload_n C dL_law_482 rfl 1 rfl ?_
  refine z_iconst C dL_law_483 (v := (-1)) (by decide) ?_
  obtain ⟨r1, hc2, hf⟩ := q_bd hf
  refine z_cVi C (st := []) (c_X10_room ho1 hc2) mw_X10_room ml_L_83 ho1 (by decide) rfl dL_law_484 rfl rfl rfl ⟨Nat.le_of_ble_eq_true rfl, Nat.le_of_ble_eq_true rfl⟩ rfl (Nat.le_of_ble_eq_true rfl) ?_
  refine z_bipush C dL_law_487 (v := (-2)) (by decide) ?_
  exact z_icmp_ne C dL_law_489 (by decide) (fun h => z_sub [] rfl (b_L_law_603 C hr hk hX hbl hbA hA hkc r1.1 hres (q_f hf h))) (fun h => z_sub [0, 1, 2, 3, 4] rfl (b_L_law_492 C hr hk hX hbl hbA hA hkc r1.1 o1 x2 y3 y6 ho1 hres (q_t hf h)))
def f_L_law_472 (xs : Nat → Int32) (L : Nat)  (z : St) (o1 : Nat) (x2 : Int32) (y3 : Int64) (y6 : Int64) : Option (St × Int32) :=
  ((f_X10_must z o1 x2).bind fun r1 => if r1.2 = ((-2)) then f_L_law_482 xs L r1.1 o1 x2 y3 y6 else f_L_law_603 xs L r1.1)
theorem b_L_law_472 {p : Program} {l : Launch} {e : Env} {s : State} {m : MethodId} {below : List Frame} {meth : Method} {c : Code} {b L : Nat} {xs : Nat → Int32} {kc : Nat × Nat} {g : Ga} {A : Nat → Prop} (C : Cx l g A p s m #[Value.ref b] c cL_law 16 RL room_1 kc) (hr : meth.sig.returnType = ret) (hk : meth.locks = false) (hX : va_X b L xs s s.heap) (hbl : b < s.heap.size) (hbA : ¬ A b) (hA : ∀ q, A q → s.heap.size ≤ q) (hkc : kc.1 ≤ 600000 ∧ kc.2 ≤ 7302249)   (z : St) (o1 : Nat) (x2 : Int32) (y3 : Int64) (y6 : Int64) (ho1 : kd o1 = 10) {res : St × Int32} (hres : res.2 = 1) (hf : f_L_law_472 xs L  z o1 x2 y3 y6 = some res) : Zj p l e room_1 s m #[Value.ref b] below meth c g A 16 kc (lw_Z below #[Value.ref b] s) z 472 [(0, .ref b), (1, .ref (g.1 o1)), (2, .int x2), (3, .long y3), (6, .long y6)] [] := by
  unfold f_L_law_472 at hf
  refine z_aload_n C dL_law_472 rfl 1 rfl ?_
  refine z_iload_n C dL_law_473 rfl 2 rfl ?_
  obtain ⟨r1, hc2, hf⟩ := q_bd hf
  refine z_cVi C (st := []) (c_X10_must ho1 hc2) mw_X10_must ml_L_80 ho1 (by decide) rfl dL_law_474 rfl rfl rfl ⟨Nat.le_of_ble_eq_true rfl, Nat.le_of_ble_eq_true rfl⟩ rfl (Nat.le_of_ble_eq_true rfl) ?_
  refine z_bipush C dL_law_477 (v := (-2)) (by decide) ?_
  exact z_icmp_ne C dL_law_479 (by decide) (fun h => z_sub [] rfl (b_L_law_603 C hr hk hX hbl hbA hA hkc r1.1 hres (q_f hf h))) (fun h => z_sub [0, 1, 2, 3, 4] rfl (b_L_law_482 C hr hk hX hbl hbA hA hkc r1.1 o1 x2 y3 y6 ho1 hres (q_t hf h)))
def f_L_law_461 (xs : Nat → Int32) (L : Nat)  (z : St) (o1 : Nat) (x2 : Int32) (y3 : Int64) (y6 : Int64) : Option (St × Int32) :=
  ((f_X10_taken z o1 x2 0).bind fun r1 => if r1.2 = ((-2)) then f_L_law_472 xs L r1.1 o1 x2 y3 y6 else f_L_law_603 xs L r1.1)
theorem b_L_law_461 {p : Program} {l : Launch} {e : Env} {s : State} {m : MethodId} {below : List Frame} {meth : Method} {c : Code} {b L : Nat} {xs : Nat → Int32} {kc : Nat × Nat} {g : Ga} {A : Nat → Prop} (C : Cx l g A p s m #[Value.ref b] c cL_law 16 RL room_1 kc) (hr : meth.sig.returnType = ret) (hk : meth.locks = false) (hX : va_X b L xs s s.heap) (hbl : b < s.heap.size) (hbA : ¬ A b) (hA : ∀ q, A q → s.heap.size ≤ q) (hkc : kc.1 ≤ 600000 ∧ kc.2 ≤ 7302249)   (z : St) (o1 : Nat) (x2 : Int32) (y3 : Int64) (y6 : Int64) (ho1 : kd o1 = 10) {res : St × Int32} (hres : res.2 = 1) (hf : f_L_law_461 xs L  z o1 x2 y3 y6 = some res) : Zj p l e room_1 s m #[Value.ref b] below meth c g A 16 kc (lw_Z below #[Value.ref b] s) z 461 [(0, .ref b), (1, .ref (g.1 o1)), (2, .int x2), (3, .long y3), (6, .long y6)] [] := by
  unfold f_L_law_461 at hf
  refine z_aload_n C dL_law_461 rfl 1 rfl ?_
  refine z_iload_n C dL_law_462 rfl 2 rfl ?_
  refine z_iconst C dL_law_463 (v := 0) (by decide) ?_
  obtain ⟨r1, hc2, hf⟩ := q_bd hf
  refine z_cVi C (st := []) (c_X10_taken ho1 hc2) mw_X10_taken ml_L_77 ho1 (by decide) rfl dL_law_464 rfl rfl rfl ⟨Nat.le_of_ble_eq_true rfl, Nat.le_of_ble_eq_true rfl⟩ rfl (Nat.le_of_ble_eq_true rfl) ?_
  refine z_bipush C dL_law_467 (v := (-2)) (by decide) ?_
  exact z_icmp_ne C dL_law_469 (by decide) (fun h => z_sub [] rfl (b_L_law_603 C hr hk hX hbl hbA hA hkc r1.1 hres (q_f hf h))) (fun h => z_sub [0, 1, 2, 3, 4] rfl (b_L_law_472 C hr hk hX hbl hbA hA hkc r1.1 o1 x2 y3 y6 ho1 hres (q_t hf h)))
def f_L_law_450 (xs : Nat → Int32) (L : Nat)  (z : St) (o1 : Nat) (x2 : Int32) (y3 : Int64) (y6 : Int64) : Option (St × Int32) :=
  ((f_X10_told z o1 x2 0).bind fun r1 => if r1.2 = ((-2)) then f_L_law_461 xs L r1.1 o1 x2 y3 y6 else f_L_law_603 xs L r1.1)
theorem b_L_law_450 {p : Program} {l : Launch} {e : Env} {s : State} {m : MethodId} {below : List Frame} {meth : Method} {c : Code} {b L : Nat} {xs : Nat → Int32} {kc : Nat × Nat} {g : Ga} {A : Nat → Prop} (C : Cx l g A p s m #[Value.ref b] c cL_law 16 RL room_1 kc) (hr : meth.sig.returnType = ret) (hk : meth.locks = false) (hX : va_X b L xs s s.heap) (hbl : b < s.heap.size) (hbA : ¬ A b) (hA : ∀ q, A q → s.heap.size ≤ q) (hkc : kc.1 ≤ 600000 ∧ kc.2 ≤ 7302249)   (z : St) (o1 : Nat) (x2 : Int32) (y3 : Int64) (y6 : Int64) (ho1 : kd o1 = 10) {res : St × Int32} (hres : res.2 = 1) (hf : f_L_law_450 xs L  z o1 x2 y3 y6 = some res) : Zj p l e room_1 s m #[Value.ref b] below meth c g A 16 kc (lw_Z below #[Value.ref b] s) z 450 [(0, .ref b), (1, .ref (g.1 o1)), (2, .int x2), (3, .long y3), (6, .long y6)] [] := by
  unfold f_L_law_450 at hf
  refine z_aload_n C dL_law_450 rfl 1 rfl ?_
  refine z_iload_n C dL_law_451 rfl 2 rfl ?_
  refine z_iconst C dL_law_452 (v := 0) (by decide) ?_
  obtain ⟨r1, hc2, hf⟩ := q_bd hf
  refine z_cVi C (st := []) (c_X10_told ho1 hc2) mw_X10_told ml_L_33 ho1 (by decide) rfl dL_law_453 rfl rfl rfl ⟨Nat.le_of_ble_eq_true rfl, Nat.le_of_ble_eq_true rfl⟩ rfl (Nat.le_of_ble_eq_true rfl) ?_
  refine z_bipush C dL_law_456 (v := (-2)) (by decide) ?_
  exact z_icmp_ne C dL_law_458 (by decide) (fun h => z_sub [] rfl (b_L_law_603 C hr hk hX hbl hbA hA hkc r1.1 hres (q_f hf h))) (fun h => z_sub [0, 1, 2, 3, 4] rfl (b_L_law_461 C hr hk hX hbl hbA hA hkc r1.1 o1 x2 y3 y6 ho1 hres (q_t hf h)))
def f_L_law_440 (xs : Nat → Int32) (L : Nat)  (z : St) (o1 : Nat) (x2 : Int32) (y3 : Int64) (y6 : Int64) : Option (St × Int32) :=
  ((f_X10_drop z o1 x2).bind fun r1 => if r1.2 = ((-2)) then f_L_law_450 xs L r1.1 o1 x2 y3 y6 else f_L_law_603 xs L r1.1)
theorem b_L_law_440 {p : Program} {l : Launch} {e : Env} {s : State} {m : MethodId} {below : List Frame} {meth : Method} {c : Code} {b L : Nat} {xs : Nat → Int32} {kc : Nat × Nat} {g : Ga} {A : Nat → Prop} (C : Cx l g A p s m #[Value.ref b] c cL_law 16 RL room_1 kc) (hr : meth.sig.returnType = ret) (hk : meth.locks = false) (hX : va_X b L xs s s.heap) (hbl : b < s.heap.size) (hbA : ¬ A b) (hA : ∀ q, A q → s.heap.size ≤ q) (hkc : kc.1 ≤ 600000 ∧ kc.2 ≤ 7302249)   (z : St) (o1 : Nat) (x2 : Int32) (y3 : Int64) (y6 : Int64) (ho1 : kd o1 = 10) {res : St × Int32} (hres : res.2 = 1) (hf : f_L_law_440 xs L  z o1 x2 y3 y6 = some res) : Zj p l e room_1 s m #[Value.ref b] below meth c g A 16 kc (lw_Z below #[Value.ref b] s) z 440 [(0, .ref b), (1, .ref (g.1 o1)), (2, .int x2), (3, .long y3), (6, .long y6)] [] := by
  unfold f_L_law_440 at hf
  refine z_aload_n C dL_law_440 rfl 1 rfl ?_
  refine z_iload_n C dL_law_441 rfl 2 rfl ?_
  obtain ⟨r1, hc2, hf⟩ := q_bd hf
  refine z_cVi C (st := []) (c_X10_drop ho1 hc2) mw_X10_drop ml_L_74 ho1 (by decide) rfl dL_law_442 rfl rfl rfl ⟨Nat.le_of_ble_eq_true rfl, Nat.le_of_ble_eq_true rfl⟩ rfl (Nat.le_of_ble_eq_true rfl) ?_
  refine z_bipush C dL_law_445 (v := (-2)) (by decide) ?_
  exact z_icmp_ne C dL_law_447 (by decide) (fun h => z_sub [] rfl (b_L_law_603 C hr hk hX hbl hbA hA hkc r1.1 hres (q_f hf h))) (fun h => z_sub [0, 1, 2, 3, 4] rfl (b_L_law_450 C hr hk hX hbl hbA hA hkc r1.1 o1 x2 y3 y6 ho1 hres (q_t hf h)))
def f_L_law_430 (xs : Nat → Int32) (L : Nat)  (z : St) (o1 : Nat) (x2 : Int32) (y3 : Int64) (y6 : Int64) : Option (St × Int32) :=
  ((f_X10_drop z o1 ((-1))).bind fun r1 => if r1.2 = ((-2)) then f_L_law_440 xs L r1.1 o1 x2 y3 y6 else f_L_law_603 xs L r1.1)
theorem b_L_law_430 {p : Program} {l : Launch} {e : Env} {s : State} {m : MethodId} {below : List Frame} {meth : Method} {c : Code} {b L : Nat} {xs : Nat → Int32} {kc : Nat × Nat} {g : Ga} {A : Nat → Prop} (C : Cx l g A p s m #[Value.ref b] c cL_law 16 RL room_1 kc) (hr : meth.sig.returnType = ret) (hk : meth.locks = false) (hX : va_X b L xs s s.heap) (hbl : b < s.heap.size) (hbA : ¬ A b) (hA : ∀ q, A q → s.heap.size ≤ q) (hkc : kc.1 ≤ 600000 ∧ kc.2 ≤ 7302249)   (z : St) (o1 : Nat) (x2 : Int32) (y3 : Int64) (y6 : Int64) (ho1 : kd o1 = 10) {res : St × Int32} (hres : res.2 = 1) (hf : f_L_law_430 xs L  z o1 x2 y3 y6 = some res) : Zj p l e room_1 s m #[Value.ref b] below meth c g A 16 kc (lw_Z below #[Value.ref b] s) z 430 [(0, .ref b), (1, .ref (g.1 o1)), (2, .int x2), (3, .long y3), (6, .long y6)] [] := by
  unfold f_L_law_430 at hf
  refine z_aload_n C dL_law_430 rfl 1 rfl ?_
  refine z_iconst C dL_law_431 (v := (-1)) (by decide) ?_
  obtain ⟨r1, hc2, hf⟩ := q_bd hf
  refine z_cVi C (st := []) (c_X10_drop ho1 hc2) mw_X10_drop ml_L_74 ho1 (by decide) rfl dL_law_432 rfl rfl rfl ⟨Nat.le_of_ble_eq_true rfl, Nat.le_of_ble_eq_true rfl⟩ rfl (Nat.le_of_ble_eq_true rfl) ?_
  refine z_bipush C dL_law_435 (v := (-2)) (by decide) ?_
  exact z_icmp_ne C dL_law_437 (by decide) (fun h => z_sub [] rfl (b_L_law_603 C hr hk hX hbl hbA hA hkc r1.1 hres (q_f hf h))) (fun h => z_sub [0, 1, 2, 3, 4] rfl (b_L_law_440 C hr hk hX hbl hbA hA hkc r1.1 o1 x2 y3 y6 ho1 hres (q_t hf h)))
def f_L_law_418 (xs : Nat → Int32) (L : Nat)  (z : St) (o1 : Nat) (x2 : Int32) (y3 : Int64) (y6 : Int64) : Option (St × Int32) :=
  ((f_X10_set z o1 x2 0 0).bind fun r1 => if r1.2 = ((-2)) then f_L_law_430 xs L r1.1 o1 x2 y3 y6 else f_L_law_603 xs L r1.1)
theorem b_L_law_418 {p : Program} {l : Launch} {e : Env} {s : State} {m : MethodId} {below : List Frame} {meth : Method} {c : Code} {b L : Nat} {xs : Nat → Int32} {kc : Nat × Nat} {g : Ga} {A : Nat → Prop} (C : Cx l g A p s m #[Value.ref b] c cL_law 16 RL room_1 kc) (hr : meth.sig.returnType = ret) (hk : meth.locks = false) (hX : va_X b L xs s s.heap) (hbl : b < s.heap.size) (hbA : ¬ A b) (hA : ∀ q, A q → s.heap.size ≤ q) (hkc : kc.1 ≤ 600000 ∧ kc.2 ≤ 7302249)   (z : St) (o1 : Nat) (x2 : Int32) (y3 : Int64) (y6 : Int64) (ho1 : kd o1 = 10) {res : St × Int32} (hres : res.2 = 1) (hf : f_L_law_418 xs L  z o1 x2 y3 y6 = some res) : Zj p l e room_1 s m #[Value.ref b] below meth c g A 16 kc (lw_Z below #[Value.ref b] s) z 418 [(0, .ref b), (1, .ref (g.1 o1)), (2, .int x2), (3, .long y3), (6, .long y6)] [] := by
  unfold f_L_law_418 at hf
  refine z_aload_n C dL_law_418 rfl 1 rfl ?_
  refine z_iload_n C dL_law_419 rfl 2 rfl ?_
  refine z_iconst C dL_law_420 (v := 0) (by decide) ?_
  refine z_iconst C dL_law_421 (v := 0) (by decide) ?_
  obtain ⟨r1, hc2, hf⟩ := q_bd hf
  refine z_cVi C (st := []) (c_X10_set ho1 hc2) mw_X10_set ml_L_70 ho1 (by decide) rfl dL_law_422 rfl rfl rfl ⟨Nat.le_of_ble_eq_true rfl, Nat.le_of_ble_eq_true rfl⟩ rfl (Nat.le_of_ble_eq_true rfl) ?_
  refine z_bipush C dL_law_425 (v := (-2)) (by decide) ?_
  exact z_icmp_ne C dL_law_427 (by decide) (fun h => z_sub [] rfl (b_L_law_603 C hr hk hX hbl hbA hA hkc r1.1 hres (q_f hf h))) (fun h => z_sub [0, 1, 2, 3, 4] rfl (b_L_law_430 C hr hk hX hbl hbA hA hkc r1.1 o1 x2 y3 y6 ho1 hres (q_t hf h)))
def f_L_law_405 (xs : Nat → Int32) (L : Nat)  (z : St) (o1 : Nat) (x2 : Int32) (y3 : Int64) (y6 : Int64) : Option (St × Int32) :=
  ((f_X10_job z o1 0 0 1 ((-1))).bind fun r1 => if r1.2 = ((-2)) then f_L_law_418 xs L r1.1 o1 x2 y3 y6 else f_L_law_603 xs L r1.1)
theorem b_L_law_405 {p : Program} {l : Launch} {e : Env} {s : State} {m : MethodId} {below : List Frame} {meth : Method} {c : Code} {b L : Nat} {xs : Nat → Int32} {kc : Nat × Nat} {g : Ga} {A : Nat → Prop} (C : Cx l g A p s m #[Value.ref b] c cL_law 16 RL room_1 kc) (hr : meth.sig.returnType = ret) (hk : meth.locks = false) (hX : va_X b L xs s s.heap) (hbl : b < s.heap.size) (hbA : ¬ A b) (hA : ∀ q, A q → s.heap.size ≤ q) (hkc : kc.1 ≤ 600000 ∧ kc.2 ≤ 7302249)   (z : St) (o1 : Nat) (x2 : Int32) (y3 : Int64) (y6 : Int64) (ho1 : kd o1 = 10) {res : St × Int32} (hres : res.2 = 1) (hf : f_L_law_405 xs L  z o1 x2 y3 y6 = some res) : Zj p l e room_1 s m #[Value.ref b] below meth c g A 16 kc (lw_Z below #[Value.ref b] s) z 405 [(0, .ref b), (1, .ref (g.1 o1)), (2, .int x2), (3, .long y3), (6, .long y6)] [] := by
  unfold f_L_law_405 at hf
  refine z_aload_n C dL_law_405 rfl 1 rfl ?_
  refine z_iconst C dL_law_406 (v := 0) (by decide) ?_
  refine z_iconst C dL_law_407 (v := 0) (by decide) ?_
  refine z_iconst C dL_law_408 (v := 1) (by decide) ?_
  refine z_iconst C dL_law_409 (v := (-1)) (by decide) ?_
  obtain ⟨r1, hc2, hf⟩ := q_bd hf
  refine z_cVi C (st := []) (c_X10_job ho1 hc2) mw_X10_job ml_L_21 ho1 (by decide) rfl dL_law_410 rfl rfl rfl ⟨Nat.le_of_ble_eq_true rfl, Nat.le_of_ble_eq_true rfl⟩ rfl (Nat.le_of_ble_eq_true rfl) ?_
  refine z_bipush C dL_law_413 (v := (-2)) (by decide) ?_
  exact z_icmp_ne C dL_law_415 (by decide) (fun h => z_sub [] rfl (b_L_law_603 C hr hk hX hbl hbA hA hkc r1.1 hres (q_f hf h))) (fun h => z_sub [0, 1, 2, 3, 4] rfl (b_L_law_418 C hr hk hX hbl hbA hA hkc r1.1 o1 x2 y3 y6 ho1 hres (q_t hf h)))
def f_L_law_392 (xs : Nat → Int32) (L : Nat)  (z : St) (o1 : Nat) (x2 : Int32) (y3 : Int64) (y6 : Int64) : Option (St × Int32) :=
  ((f_X10_job z o1 0 0 0 0).bind fun r1 => if r1.2 = ((-2)) then f_L_law_405 xs L r1.1 o1 x2 y3 y6 else f_L_law_603 xs L r1.1)
theorem b_L_law_392 {p : Program} {l : Launch} {e : Env} {s : State} {m : MethodId} {below : List Frame} {meth : Method} {c : Code} {b L : Nat} {xs : Nat → Int32} {kc : Nat × Nat} {g : Ga} {A : Nat → Prop} (C : Cx l g A p s m #[Value.ref b] c cL_law 16 RL room_1 kc) (hr : meth.sig.returnType = ret) (hk : meth.locks = false) (hX : va_X b L xs s s.heap) (hbl : b < s.heap.size) (hbA : ¬ A b) (hA : ∀ q, A q → s.heap.size ≤ q) (hkc : kc.1 ≤ 600000 ∧ kc.2 ≤ 7302249)   (z : St) (o1 : Nat) (x2 : Int32) (y3 : Int64) (y6 : Int64) (ho1 : kd o1 = 10) {res : St × Int32} (hres : res.2 = 1) (hf : f_L_law_392 xs L  z o1 x2 y3 y6 = some res) : Zj p l e room_1 s m #[Value.ref b] below meth c g A 16 kc (lw_Z below #[Value.ref b] s) z 392 [(0, .ref b), (1, .ref (g.1 o1)), (2, .int x2), (3, .long y3), (6, .long y6)] [] := by
  unfold f_L_law_392 at hf
  refine z_aload_n C dL_law_392 rfl 1 rfl ?_
  refine z_iconst C dL_law_393 (v := 0) (by decide) ?_
  refine z_iconst C dL_law_394 (v := 0) (by decide) ?_
  refine z_iconst C dL_law_395 (v := 0) (by decide) ?_
  refine z_iconst C dL_law_396 (v := 0) (by decide) ?_
  obtain ⟨r1, hc2, hf⟩ := q_bd hf
  refine z_cVi C (st := []) (c_X10_job ho1 hc2) mw_X10_job ml_L_21 ho1 (by decide) rfl dL_law_397 rfl rfl rfl ⟨Nat.le_of_ble_eq_true rfl, Nat.le_of_ble_eq_true rfl⟩ rfl (Nat.le_of_ble_eq_true rfl) ?_
  refine z_bipush C dL_law_400 (v := (-2)) (by decide) ?_
  exact z_icmp_ne C dL_law_402 (by decide) (fun h => z_sub [] rfl (b_L_law_603 C hr hk hX hbl hbA hA hkc r1.1 hres (q_f hf h))) (fun h => z_sub [0, 1, 2, 3, 4] rfl (b_L_law_405 C hr hk hX hbl hbA hA hkc r1.1 o1 x2 y3 y6 ho1 hres (q_t hf h)))
def f_L_law_378 (xs : Nat → Int32) (L : Nat)  (z : St) (o1 : Nat) (x2 : Int32) (y3 : Int64) (y6 : Int64) : Option (St × Int32) :=
  ((f_X10_job z o1 0 0 21 0).bind fun r1 => if r1.2 = ((-2)) then f_L_law_392 xs L r1.1 o1 x2 y3 y6 else f_L_law_603 xs L r1.1)
theorem b_L_law_378 {p : Program} {l : Launch} {e : Env} {s : State} {m : MethodId} {below : List Frame} {meth : Method} {c : Code} {b L : Nat} {xs : Nat → Int32} {kc : Nat × Nat} {g : Ga} {A : Nat → Prop} (C : Cx l g A p s m #[Value.ref b] c cL_law 16 RL room_1 kc) (hr : meth.sig.returnType = ret) (hk : meth.locks = false) (hX : va_X b L xs s s.heap) (hbl : b < s.heap.size) (hbA : ¬ A b) (hA : ∀ q, A q → s.heap.size ≤ q) (hkc : kc.1 ≤ 600000 ∧ kc.2 ≤ 7302249)   (z : St) (o1 : Nat) (x2 : Int32) (y3 : Int64) (y6 : Int64) (ho1 : kd o1 = 10) {res : St × Int32} (hres : res.2 = 1) (hf : f_L_law_378 xs L  z o1 x2 y3 y6 = some res) : Zj p l e room_1 s m #[Value.ref b] below meth c g A 16 kc (lw_Z below #[Value.ref b] s) z 378 [(0, .ref b), (1, .ref (g.1 o1)), (2, .int x2), (3, .long y3), (6, .long y6)] [] := by
  unfold f_L_law_378 at hf
  refine z_aload_n C dL_law_378 rfl 1 rfl ?_
  refine z_iconst C dL_law_379 (v := 0) (by decide) ?_
  refine z_iconst C dL_law_380 (v := 0) (by decide) ?_
  refine z_bipush C dL_law_381 (v := 21) (by decide) ?_
  refine z_iconst C dL_law_383 (v := 0) (by decide) ?_
  obtain ⟨r1, hc2, hf⟩ := q_bd hf
  refine z_cVi C (st := []) (c_X10_job ho1 hc2) mw_X10_job ml_L_21 ho1 (by decide) rfl dL_law_384 rfl rfl rfl ⟨Nat.le_of_ble_eq_true rfl, Nat.le_of_ble_eq_true rfl⟩ rfl (Nat.le_of_ble_eq_true rfl) ?_
  refine z_bipush C dL_law_387 (v := (-2)) (by decide) ?_
  exact z_icmp_ne C dL_law_389 (by decide) (fun h => z_sub [] rfl (b_L_law_603 C hr hk hX hbl hbA hA hkc r1.1 hres (q_f hf h))) (fun h => z_sub [0, 1, 2, 3, 4] rfl (b_L_law_392 C hr hk hX hbl hbA hA hkc r1.1 o1 x2 y3 y6 ho1 hres (q_t hf h)))
def f_L_law_364 (xs : Nat → Int32) (L : Nat)  (z : St) (o1 : Nat) (x2 : Int32) (y3 : Int64) (y6 : Int64) : Option (St × Int32) :=
  ((f_X10_job z o1 0 61 1 0).bind fun r1 => if r1.2 = ((-2)) then f_L_law_378 xs L r1.1 o1 x2 y3 y6 else f_L_law_603 xs L r1.1)
theorem b_L_law_364 {p : Program} {l : Launch} {e : Env} {s : State} {m : MethodId} {below : List Frame} {meth : Method} {c : Code} {b L : Nat} {xs : Nat → Int32} {kc : Nat × Nat} {g : Ga} {A : Nat → Prop} (C : Cx l g A p s m #[Value.ref b] c cL_law 16 RL room_1 kc) (hr : meth.sig.returnType = ret) (hk : meth.locks = false) (hX : va_X b L xs s s.heap) (hbl : b < s.heap.size) (hbA : ¬ A b) (hA : ∀ q, A q → s.heap.size ≤ q) (hkc : kc.1 ≤ 600000 ∧ kc.2 ≤ 7302249)   (z : St) (o1 : Nat) (x2 : Int32) (y3 : Int64) (y6 : Int64) (ho1 : kd o1 = 10) {res : St × Int32} (hres : res.2 = 1) (hf : f_L_law_364 xs L  z o1 x2 y3 y6 = some res) : Zj p l e room_1 s m #[Value.ref b] below meth c g A 16 kc (lw_Z below #[Value.ref b] s) z 364 [(0, .ref b), (1, .ref (g.1 o1)), (2, .int x2), (3, .long y3), (6, .long y6)] [] := by
  unfold f_L_law_364 at hf
  refine z_aload_n C dL_law_364 rfl 1 rfl ?_
  refine z_iconst C dL_law_365 (v := 0) (by decide) ?_
  refine z_bipush C dL_law_366 (v := 61) (by decide) ?_
  refine z_iconst C dL_law_368 (v := 1) (by decide) ?_
  refine z_iconst C dL_law_369 (v := 0) (by decide) ?_
  obtain ⟨r1, hc2, hf⟩ := q_bd hf
  refine z_cVi C (st := []) (c_X10_job ho1 hc2) mw_X10_job ml_L_21 ho1 (by decide) rfl dL_law_370 rfl rfl rfl ⟨Nat.le_of_ble_eq_true rfl, Nat.le_of_ble_eq_true rfl⟩ rfl (Nat.le_of_ble_eq_true rfl) ?_
  refine z_bipush C dL_law_373 (v := (-2)) (by decide) ?_
  exact z_icmp_ne C dL_law_375 (by decide) (fun h => z_sub [] rfl (b_L_law_603 C hr hk hX hbl hbA hA hkc r1.1 hres (q_f hf h))) (fun h => z_sub [0, 1, 2, 3, 4] rfl (b_L_law_378 C hr hk hX hbl hbA hA hkc r1.1 o1 x2 y3 y6 ho1 hres (q_t hf h)))
def f_L_law_350 (xs : Nat → Int32) (L : Nat)  (z : St) (o1 : Nat) (x2 : Int32) (y3 : Int64) (y6 : Int64) : Option (St × Int32) :=
  ((f_X10_job z o1 6 0 1 0).bind fun r1 => if r1.2 = ((-2)) then f_L_law_364 xs L r1.1 o1 x2 y3 y6 else f_L_law_603 xs L r1.1)
theorem b_L_law_350 {p : Program} {l : Launch} {e : Env} {s : State} {m : MethodId} {below : List Frame} {meth : Method} {c : Code} {b L : Nat} {xs : Nat → Int32} {kc : Nat × Nat} {g : Ga} {A : Nat → Prop} (C : Cx l g A p s m #[Value.ref b] c cL_law 16 RL room_1 kc) (hr : meth.sig.returnType = ret) (hk : meth.locks = false) (hX : va_X b L xs s s.heap) (hbl : b < s.heap.size) (hbA : ¬ A b) (hA : ∀ q, A q → s.heap.size ≤ q) (hkc : kc.1 ≤ 600000 ∧ kc.2 ≤ 7302249)   (z : St) (o1 : Nat) (x2 : Int32) (y3 : Int64) (y6 : Int64) (ho1 : kd o1 = 10) {res : St × Int32} (hres : res.2 = 1) (hf : f_L_law_350 xs L  z o1 x2 y3 y6 = some res) : Zj p l e room_1 s m #[Value.ref b] below meth c g A 16 kc (lw_Z below #[Value.ref b] s) z 350 [(0, .ref b), (1, .ref (g.1 o1)), (2, .int x2), (3, .long y3), (6, .long y6)] [] := by
  unfold f_L_law_350 at hf
  refine z_aload_n C dL_law_350 rfl 1 rfl ?_
  refine z_bipush C dL_law_351 (v := 6) (by decide) ?_
  refine z_iconst C dL_law_353 (v := 0) (by decide) ?_
  refine z_iconst C dL_law_354 (v := 1) (by decide) ?_
  refine z_iconst C dL_law_355 (v := 0) (by decide) ?_
  obtain ⟨r1, hc2, hf⟩ := q_bd hf
  refine z_cVi C (st := []) (c_X10_job ho1 hc2) mw_X10_job ml_L_21 ho1 (by decide) rfl dL_law_356 rfl rfl rfl ⟨Nat.le_of_ble_eq_true rfl, Nat.le_of_ble_eq_true rfl⟩ rfl (Nat.le_of_ble_eq_true rfl) ?_
  refine z_bipush C dL_law_359 (v := (-2)) (by decide) ?_
  exact z_icmp_ne C dL_law_361 (by decide) (fun h => z_sub [] rfl (b_L_law_603 C hr hk hX hbl hbA hA hkc r1.1 hres (q_f hf h))) (fun h => z_sub [0, 1, 2, 3, 4] rfl (b_L_law_364 C hr hk hX hbl hbA hA hkc r1.1 o1 x2 y3 y6 ho1 hres (q_t hf h)))
def f_L_law_339 (xs : Nat → Int32) (L : Nat)  (z : St) (o1 : Nat) (x2 : Int32) (y3 : Int64) (y6 : Int64) : Option (St × Int32) :=
  ((f_X10_go z o1 61).bind fun r1 => if r1.2 = ((-2)) then f_L_law_350 xs L r1.1 o1 x2 y3 y6 else f_L_law_603 xs L r1.1)
theorem b_L_law_339 {p : Program} {l : Launch} {e : Env} {s : State} {m : MethodId} {below : List Frame} {meth : Method} {c : Code} {b L : Nat} {xs : Nat → Int32} {kc : Nat × Nat} {g : Ga} {A : Nat → Prop} (C : Cx l g A p s m #[Value.ref b] c cL_law 16 RL room_1 kc) (hr : meth.sig.returnType = ret) (hk : meth.locks = false) (hX : va_X b L xs s s.heap) (hbl : b < s.heap.size) (hbA : ¬ A b) (hA : ∀ q, A q → s.heap.size ≤ q) (hkc : kc.1 ≤ 600000 ∧ kc.2 ≤ 7302249)   (z : St) (o1 : Nat) (x2 : Int32) (y3 : Int64) (y6 : Int64) (ho1 : kd o1 = 10) {res : St × Int32} (hres : res.2 = 1) (hf : f_L_law_339 xs L  z o1 x2 y3 y6 = some res) : Zj p l e room_1 s m #[Value.ref b] below meth c g A 16 kc (lw_Z below #[Value.ref b] s) z 339 [(0, .ref b), (1, .ref (g.1 o1)), (2, .int x2), (3, .long y3), (6, .long y6)] [] := by
  unfold f_L_law_339 at hf
  refine z_aload_n C dL_law_339 rfl 1 rfl ?_
  refine z_bipush C dL_law_340 (v := 61) (by decide) ?_
  obtain ⟨r1, hc2, hf⟩ := q_bd hf
  refine z_cVi C (st := []) (c_X10_go ho1 hc2) mw_X10_go ml_L_56 ho1 (by decide) rfl dL_law_342 rfl rfl rfl ⟨Nat.le_of_ble_eq_true rfl, Nat.le_of_ble_eq_true rfl⟩ rfl (Nat.le_of_ble_eq_true rfl) ?_
  refine z_bipush C dL_law_345 (v := (-2)) (by decide) ?_
  exact z_icmp_ne C dL_law_347 (by decide) (fun h => z_sub [] rfl (b_L_law_603 C hr hk hX hbl hbA hA hkc r1.1 hres (q_f hf h))) (fun h => z_sub [0, 1, 2, 3, 4] rfl (b_L_law_350 C hr hk hX hbl hbA hA hkc r1.1 o1 x2 y3 y6 ho1 hres (q_t hf h)))
def f_L_law_329 (xs : Nat → Int32) (L : Nat)  (z : St) (o1 : Nat) (x2 : Int32) (y3 : Int64) (y6 : Int64) : Option (St × Int32) :=
  ((f_X10_go z o1 0).bind fun r1 => if r1.2 = ((-2)) then f_L_law_339 xs L r1.1 o1 x2 y3 y6 else f_L_law_603 xs L r1.1)
theorem b_L_law_329 {p : Program} {l : Launch} {e : Env} {s : State} {m : MethodId} {below : List Frame} {meth : Method} {c : Code} {b L : Nat} {xs : Nat → Int32} {kc : Nat × Nat} {g : Ga} {A : Nat → Prop} (C : Cx l g A p s m #[Value.ref b] c cL_law 16 RL room_1 kc) (hr : meth.sig.returnType = ret) (hk : meth.locks = false) (hX : va_X b L xs s s.heap) (hbl : b < s.heap.size) (hbA : ¬ A b) (hA : ∀ q, A q → s.heap.size ≤ q) (hkc : kc.1 ≤ 600000 ∧ kc.2 ≤ 7302249)   (z : St) (o1 : Nat) (x2 : Int32) (y3 : Int64) (y6 : Int64) (ho1 : kd o1 = 10) {res : St × Int32} (hres : res.2 = 1) (hf : f_L_law_329 xs L  z o1 x2 y3 y6 = some res) : Zj p l e room_1 s m #[Value.ref b] below meth c g A 16 kc (lw_Z below #[Value.ref b] s) z 329 [(0, .ref b), (1, .ref (g.1 o1)), (2, .int x2), (3, .long y3), (6, .long y6)] [] := by
  unfold f_L_law_329 at hf
  refine z_aload_n C dL_law_329 rfl 1 rfl ?_
  refine z_iconst C dL_law_330 (v := 0) (by decide) ?_
  obtain ⟨r1, hc2, hf⟩ := q_bd hf
  refine z_cVi C (st := []) (c_X10_go ho1 hc2) mw_X10_go ml_L_56 ho1 (by decide) rfl dL_law_331 rfl rfl rfl ⟨Nat.le_of_ble_eq_true rfl, Nat.le_of_ble_eq_true rfl⟩ rfl (Nat.le_of_ble_eq_true rfl) ?_
  refine z_bipush C dL_law_334 (v := (-2)) (by decide) ?_
  exact z_icmp_ne C dL_law_336 (by decide) (fun h => z_sub [] rfl (b_L_law_603 C hr hk hX hbl hbA hA hkc r1.1 hres (q_f hf h))) (fun h => z_sub [0, 1, 2, 3, 4] rfl (b_L_law_339 C hr hk hX hbl hbA hA hkc r1.1 o1 x2 y3 y6 ho1 hres (q_t hf h)))
def f_L_law_317 (xs : Nat → Int32) (L : Nat)  (z : St) (o1 : Nat) (x2 : Int32) (y3 : Int64) (y6 : Int64) : Option (St × Int32) :=
  ((f_L_state z o1).bind fun r1 => if (lg_cmp r1.2 y6) = 0 then f_L_law_329 xs L r1.1 o1 x2 y3 y6 else f_L_law_327 xs L r1.1)
theorem b_L_law_317 {p : Program} {l : Launch} {e : Env} {s : State} {m : MethodId} {below : List Frame} {meth : Method} {c : Code} {b L : Nat} {xs : Nat → Int32} {kc : Nat × Nat} {g : Ga} {A : Nat → Prop} (C : Cx l g A p s m #[Value.ref b] c cL_law 16 RL room_1 kc) (hr : meth.sig.returnType = ret) (hk : meth.locks = false) (hX : va_X b L xs s s.heap) (hbl : b < s.heap.size) (hbA : ¬ A b) (hA : ∀ q, A q → s.heap.size ≤ q) (hkc : kc.1 ≤ 600000 ∧ kc.2 ≤ 7302249)   (z : St) (o1 : Nat) (x2 : Int32) (y3 : Int64) (y6 : Int64) (ho1 : kd o1 = 10) {res : St × Int32} (hres : res.2 = 1) (hf : f_L_law_317 xs L  z o1 x2 y3 y6 = some res) : Zj p l e room_1 s m #[Value.ref b] below meth c g A 16 kc (lw_Z below #[Value.ref b] s) z 317 [(0, .ref b), (1, .ref (g.1 o1)), (2, .int x2), (3, .long y3), (6, .long y6)] [] := by
  unfold f_L_law_317 at hf
  refine z_aload_n C dL_law_317 rfl 1 rfl ?_
  obtain ⟨r1, hc2, hf⟩ := q_bd hf
  refine z_cSl C (st := []) (c_L_state ho1 hc2) mw_L_state ml_L_52 dL_law_318 rfl rfl rfl ⟨Nat.le_of_ble_eq_true rfl, Nat.le_of_ble_eq_true rfl⟩ rfl (Nat.le_of_ble_eq_true rfl) ?_
  refine z_lload C dL_law_321 4 rfl ?_
  refine z_lcmp C dL_law_323 ?_
  exact z_if_eq C dL_law_324 (by decide) (fun h => z_sub [0, 1, 2, 3, 4] rfl (b_L_law_329 C hr hk hX hbl hbA hA hkc r1.1 o1 x2 y3 y6 ho1 hres (q_t hf h))) (fun h => z_sub [] rfl (b_L_law_327 C hr hk hX hbl hbA hA hkc r1.1 hres (q_f hf h)))
def f_L_law_290 (xs : Nat → Int32) (L : Nat)  : Nat → St → Nat → Int32 → Int64 → Int32 → Int64 → Int32 → Option (St × Int32)
  | 0, _, _, _, _, _, _, _ => none
  | n + 1, z, o1, x2, y3, x5, y6, x9 => if x5 ≤ x9 then f_L_law_317 xs L z o1 x2 y3 y6 else f_L_law_297 xs L (f_L_law_290 xs L n) z o1 x2 y3 x5 y6 x9
theorem b_L_law_290 {p : Program} {l : Launch} {e : Env} {s : State} {m : MethodId} {below : List Frame} {meth : Method} {c : Code} {b L : Nat} {xs : Nat → Int32} {kc : Nat × Nat} {g : Ga} {A : Nat → Prop} (C : Cx l g A p s m #[Value.ref b] c cL_law 16 RL room_1 kc) (hr : meth.sig.returnType = ret) (hk : meth.locks = false) (hX : va_X b L xs s s.heap) (hbl : b < s.heap.size) (hbA : ¬ A b) (hA : ∀ q, A q → s.heap.size ≤ q) (hkc : kc.1 ≤ 600000 ∧ kc.2 ≤ 7302249)   : ∀ (n : Nat) (z : St) (o1 : Nat) (x2 : Int32) (y3 : Int64) (x5 : Int32) (y6 : Int64) (x9 : Int32) (_ : kd o1 = 10) {res : St × Int32} (_ : res.2 = 1) (_ : f_L_law_290 xs L  n z o1 x2 y3 x5 y6 x9 = some res), Zj p l e room_1 s m #[Value.ref b] below meth c g A 16 kc (lw_Z below #[Value.ref b] s) z 290 [(0, .ref b), (1, .ref (g.1 o1)), (2, .int x2), (3, .long y3), (5, .int x5), (6, .long y6), (9, .int x9)] [] := by
  intro n
  induction n with
  | zero =>
    intro z o1 x2 y3 x5 y6 x9 ho1 res hres hf
    cases hf
  | succ n ih =>
    intro z o1 x2 y3 x5 y6 x9 ho1 res hres hf
    rw [f_L_law_290] at hf
    refine z_iload C dL_law_290 6 rfl ?_
    refine z_iload C dL_law_292 4 rfl ?_
    exact z_icmp_ge C dL_law_294 (by decide) (fun h => z_sub [0, 1, 2, 3, 5] rfl (b_L_law_317 C hr hk hX hbl hbA hA hkc z o1 x2 y3 y6 ho1 hres (q_t hf h))) (fun h => z_sub [0, 1, 2, 3, 4, 5, 6] rfl (b_L_law_297 C hr hk hX hbl hbA hA hkc ih z o1 x2 y3 x5 y6 x9 ho1 hres (q_f hf h)))
def f_L_law_287 (xs : Nat → Int32) (L : Nat)  (z : St) (o1 : Nat) (x2 : Int32) (y3 : Int64) (x5 : Int32) (y6 : Int64) : Option (St × Int32) :=
  f_L_law_290 xs L FU z o1 x2 y3 x5 y6 0
theorem b_L_law_287 {p : Program} {l : Launch} {e : Env} {s : State} {m : MethodId} {below : List Frame} {meth : Method} {c : Code} {b L : Nat} {xs : Nat → Int32} {kc : Nat × Nat} {g : Ga} {A : Nat → Prop} (C : Cx l g A p s m #[Value.ref b] c cL_law 16 RL room_1 kc) (hr : meth.sig.returnType = ret) (hk : meth.locks = false) (hX : va_X b L xs s s.heap) (hbl : b < s.heap.size) (hbA : ¬ A b) (hA : ∀ q, A q → s.heap.size ≤ q) (hkc : kc.1 ≤ 600000 ∧ kc.2 ≤ 7302249)   (z : St) (o1 : Nat) (x2 : Int32) (y3 : Int64) (x5 : Int32) (y6 : Int64) (ho1 : kd o1 = 10) {res : St × Int32} (hres : res.2 = 1) (hf : f_L_law_287 xs L  z o1 x2 y3 x5 y6 = some res) : Zj p l e room_1 s m #[Value.ref b] below meth c g A 16 kc (lw_Z below #[Value.ref b] s) z 287 [(0, .ref b), (1, .ref (g.1 o1)), (2, .int x2), (3, .long y3), (5, .int x5), (6, .long y6)] [] := by
  unfold f_L_law_287 at hf
  refine z_iconst C dL_law_287 (v := 0) (by decide) ?_
  refine z_istore C (lv2 := [(9, .int 0), (0, .ref b), (1, .ref (g.1 o1)), (2, .int x2), (3, .long y3), (5, .int x5), (6, .long y6)]) dL_law_288 (by decide) rfl ?_
  exact z_sub [1, 2, 3, 4, 5, 6, 0] rfl (b_L_law_290 C hr hk hX hbl hbA hA hkc FU z o1 x2 y3 x5 y6 0 ho1 hres hf)
def f_L_law_276 (xs : Nat → Int32) (L : Nat)  (z : St) (o1 : Nat) (x2 : Int32) (y3 : Int64) (x5 : Int32) (y6 : Int64) : Option (St × Int32) :=
  ((f_L_state z o1).bind fun r1 => if (lg_cmp r1.2 y3) = 0 then f_L_law_287 xs L r1.1 o1 x2 y3 x5 y6 else f_L_law_285 xs L r1.1)
theorem b_L_law_276 {p : Program} {l : Launch} {e : Env} {s : State} {m : MethodId} {below : List Frame} {meth : Method} {c : Code} {b L : Nat} {xs : Nat → Int32} {kc : Nat × Nat} {g : Ga} {A : Nat → Prop} (C : Cx l g A p s m #[Value.ref b] c cL_law 16 RL room_1 kc) (hr : meth.sig.returnType = ret) (hk : meth.locks = false) (hX : va_X b L xs s s.heap) (hbl : b < s.heap.size) (hbA : ¬ A b) (hA : ∀ q, A q → s.heap.size ≤ q) (hkc : kc.1 ≤ 600000 ∧ kc.2 ≤ 7302249)   (z : St) (o1 : Nat) (x2 : Int32) (y3 : Int64) (x5 : Int32) (y6 : Int64) (ho1 : kd o1 = 10) {res : St × Int32} (hres : res.2 = 1) (hf : f_L_law_276 xs L  z o1 x2 y3 x5 y6 = some res) : Zj p l e room_1 s m #[Value.ref b] below meth c g A 16 kc (lw_Z below #[Value.ref b] s) z 276 [(0, .ref b), (1, .ref (g.1 o1)), (2, .int x2), (3, .long y3), (5, .int x5), (6, .long y6)] [] := by
  unfold f_L_law_276 at hf
  refine z_aload_n C dL_law_276 rfl 1 rfl ?_
  obtain ⟨r1, hc2, hf⟩ := q_bd hf
  refine z_cSl C (st := []) (c_L_state ho1 hc2) mw_L_state ml_L_52 dL_law_277 rfl rfl rfl ⟨Nat.le_of_ble_eq_true rfl, Nat.le_of_ble_eq_true rfl⟩ rfl (Nat.le_of_ble_eq_true rfl) ?_
  refine z_lload_n C dL_law_280 rfl 3 rfl ?_
  refine z_lcmp C dL_law_281 ?_
  exact z_if_eq C dL_law_282 (by decide) (fun h => z_sub [0, 1, 2, 3, 4, 5] rfl (b_L_law_287 C hr hk hX hbl hbA hA hkc r1.1 o1 x2 y3 x5 y6 ho1 hres (q_t hf h))) (fun h => z_sub [] rfl (b_L_law_285 C hr hk hX hbl hbA hA hkc r1.1 hres (q_f hf h)))
def f_L_law_268 (xs : Nat → Int32) (L : Nat)  (z : St) (o1 : Nat) (x2 : Int32) (y3 : Int64) (x5 : Int32) (y6 : Int64) : Option (St × Int32) :=
  ((f_X10_back z o1).bind fun r1 => if r1.2 = x2 then f_L_law_276 xs L r1.1 o1 x2 y3 x5 y6 else f_L_law_285 xs L r1.1)
theorem b_L_law_268 {p : Program} {l : Launch} {e : Env} {s : State} {m : MethodId} {below : List Frame} {meth : Method} {c : Code} {b L : Nat} {xs : Nat → Int32} {kc : Nat × Nat} {g : Ga} {A : Nat → Prop} (C : Cx l g A p s m #[Value.ref b] c cL_law 16 RL room_1 kc) (hr : meth.sig.returnType = ret) (hk : meth.locks = false) (hX : va_X b L xs s s.heap) (hbl : b < s.heap.size) (hbA : ¬ A b) (hA : ∀ q, A q → s.heap.size ≤ q) (hkc : kc.1 ≤ 600000 ∧ kc.2 ≤ 7302249)   (z : St) (o1 : Nat) (x2 : Int32) (y3 : Int64) (x5 : Int32) (y6 : Int64) (ho1 : kd o1 = 10) {res : St × Int32} (hres : res.2 = 1) (hf : f_L_law_268 xs L  z o1 x2 y3 x5 y6 = some res) : Zj p l e room_1 s m #[Value.ref b] below meth c g A 16 kc (lw_Z below #[Value.ref b] s) z 268 [(0, .ref b), (1, .ref (g.1 o1)), (2, .int x2), (3, .long y3), (5, .int x5), (6, .long y6)] [] := by
  unfold f_L_law_268 at hf
  refine z_aload_n C dL_law_268 rfl 1 rfl ?_
  obtain ⟨r1, hc2, hf⟩ := q_bd hf
  refine z_cVi C (st := []) (c_X10_back ho1 hc2) mw_X10_back ml_L_42 ho1 (by decide) rfl dL_law_269 rfl rfl rfl ⟨Nat.le_of_ble_eq_true rfl, Nat.le_of_ble_eq_true rfl⟩ rfl (Nat.le_of_ble_eq_true rfl) ?_
  refine z_iload_n C dL_law_272 rfl 2 rfl ?_
  exact z_icmp_ne C dL_law_273 (by decide) (fun h => z_sub [] rfl (b_L_law_285 C hr hk hX hbl hbA hA hkc r1.1 hres (q_f hf h))) (fun h => z_sub [0, 1, 2, 3, 4, 5] rfl (b_L_law_276 C hr hk hX hbl hbA hA hkc r1.1 o1 x2 y3 x5 y6 ho1 hres (q_t hf h)))
def f_L_law_255 (xs : Nat → Int32) (L : Nat)  (z : St) (o1 : Nat) (x2 : Int32) (y3 : Int64) (x5 : Int32) (y6 : Int64) (x8 : Int32) : Option (St × Int32) :=
  ((f_X10_bench z o1 3).bind fun r1 => if r1.2 = (x5 - x8) then f_L_law_268 xs L r1.1 o1 x2 y3 x5 y6 else f_L_law_285 xs L r1.1)
theorem b_L_law_255 {p : Program} {l : Launch} {e : Env} {s : State} {m : MethodId} {below : List Frame} {meth : Method} {c : Code} {b L : Nat} {xs : Nat → Int32} {kc : Nat × Nat} {g : Ga} {A : Nat → Prop} (C : Cx l g A p s m #[Value.ref b] c cL_law 16 RL room_1 kc) (hr : meth.sig.returnType = ret) (hk : meth.locks = false) (hX : va_X b L xs s s.heap) (hbl : b < s.heap.size) (hbA : ¬ A b) (hA : ∀ q, A q → s.heap.size ≤ q) (hkc : kc.1 ≤ 600000 ∧ kc.2 ≤ 7302249)   (z : St) (o1 : Nat) (x2 : Int32) (y3 : Int64) (x5 : Int32) (y6 : Int64) (x8 : Int32) (ho1 : kd o1 = 10) {res : St × Int32} (hres : res.2 = 1) (hf : f_L_law_255 xs L  z o1 x2 y3 x5 y6 x8 = some res) : Zj p l e room_1 s m #[Value.ref b] below meth c g A 16 kc (lw_Z below #[Value.ref b] s) z 255 [(0, .ref b), (1, .ref (g.1 o1)), (2, .int x2), (3, .long y3), (5, .int x5), (6, .long y6), (8, .int x8)] [] := by
  unfold f_L_law_255 at hf
  refine z_aload_n C dL_law_255 rfl 1 rfl ?_
  refine z_iconst C dL_law_256 (v := 3) (by decide) ?_
  obtain ⟨r1, hc2, hf⟩ := q_bd hf
  refine z_cVi C (st := []) (c_X10_bench ho1 hc2) mw_X10_bench ml_L_39 ho1 (by decide) rfl dL_law_257 rfl rfl rfl ⟨Nat.le_of_ble_eq_true rfl, Nat.le_of_ble_eq_true rfl⟩ rfl (Nat.le_of_ble_eq_true rfl) ?_
  refine z_iload C dL_law_260 4 rfl ?_
  refine z_iload C dL_law_262 6 rfl ?_
  refine z_isub C dL_law_264 ?_
  exact z_icmp_ne C dL_law_265 (by decide) (fun h => z_sub [] rfl (b_L_law_285 C hr hk hX hbl hbA hA hkc r1.1 hres (q_f hf h))) (fun h => z_sub [0, 1, 2, 3, 4, 5] rfl (b_L_law_268 C hr hk hX hbl hbA hA hkc r1.1 o1 x2 y3 x5 y6 ho1 hres (q_t hf h)))
def f_L_law_92 (xs : Nat → Int32) (L : Nat)  : Nat → St → Nat → Int32 → Int64 → Int32 → Int64 → Int32 → Int32 → Option (St × Int32)
  | 0, _, _, _, _, _, _, _, _ => none
  | n + 1, z, o1, x2, y3, x5, y6, x8, x9 => if x2 ≤ x9 then f_L_law_255 xs L z o1 x2 y3 x5 y6 x8 else f_L_law_98 xs L (f_L_law_92 xs L n) z o1 x2 y3 x5 y6 x8 x9
theorem b_L_law_92 {p : Program} {l : Launch} {e : Env} {s : State} {m : MethodId} {below : List Frame} {meth : Method} {c : Code} {b L : Nat} {xs : Nat → Int32} {kc : Nat × Nat} {g : Ga} {A : Nat → Prop} (C : Cx l g A p s m #[Value.ref b] c cL_law 16 RL room_1 kc) (hr : meth.sig.returnType = ret) (hk : meth.locks = false) (hX : va_X b L xs s s.heap) (hbl : b < s.heap.size) (hbA : ¬ A b) (hA : ∀ q, A q → s.heap.size ≤ q) (hkc : kc.1 ≤ 600000 ∧ kc.2 ≤ 7302249)   : ∀ (n : Nat) (z : St) (o1 : Nat) (x2 : Int32) (y3 : Int64) (x5 : Int32) (y6 : Int64) (x8 : Int32) (x9 : Int32) (_ : kd o1 = 10) {res : St × Int32} (_ : res.2 = 1) (_ : f_L_law_92 xs L  n z o1 x2 y3 x5 y6 x8 x9 = some res), Zj p l e room_1 s m #[Value.ref b] below meth c g A 16 kc (lw_Z below #[Value.ref b] s) z 92 [(0, .ref b), (1, .ref (g.1 o1)), (2, .int x2), (3, .long y3), (5, .int x5), (6, .long y6), (8, .int x8), (9, .int x9)] [] := by
  intro n
  induction n with
  | zero =>
    intro z o1 x2 y3 x5 y6 x8 x9 ho1 res hres hf
    cases hf
  | succ n ih =>
    intro z o1 x2 y3 x5 y6 x8 x9 ho1 res hres hf
    rw [f_L_law_92] at hf
    refine z_iload C dL_law_92 7 rfl ?_
    refine z_iload_n C dL_law_94 rfl 2 rfl ?_
    exact z_icmp_ge C dL_law_95 (by decide) (fun h => z_sub [0, 1, 2, 3, 4, 5, 6] rfl (b_L_law_255 C hr hk hX hbl hbA hA hkc z o1 x2 y3 x5 y6 x8 ho1 hres (q_t hf h))) (fun h => z_sub [0, 1, 2, 3, 4, 5, 6, 7] rfl (b_L_law_98 C hr hk hX hbl hbA hA hkc ih z o1 x2 y3 x5 y6 x8 x9 ho1 hres (q_f hf h)))
def f_L_law_80 (xs : Nat → Int32) (L : Nat)  (z : St) (o1 : Nat) (x2 : Int32) (y3 : Int64) (x5 : Int32) : Option (St × Int32) :=
  ((f_L_state z o1).bind fun r1 => f_L_law_92 xs L FU r1.1 o1 x2 y3 x5 r1.2 0 0)
theorem b_L_law_80 {p : Program} {l : Launch} {e : Env} {s : State} {m : MethodId} {below : List Frame} {meth : Method} {c : Code} {b L : Nat} {xs : Nat → Int32} {kc : Nat × Nat} {g : Ga} {A : Nat → Prop} (C : Cx l g A p s m #[Value.ref b] c cL_law 16 RL room_1 kc) (hr : meth.sig.returnType = ret) (hk : meth.locks = false) (hX : va_X b L xs s s.heap) (hbl : b < s.heap.size) (hbA : ¬ A b) (hA : ∀ q, A q → s.heap.size ≤ q) (hkc : kc.1 ≤ 600000 ∧ kc.2 ≤ 7302249)   (z : St) (o1 : Nat) (x2 : Int32) (y3 : Int64) (x5 : Int32) (ho1 : kd o1 = 10) {res : St × Int32} (hres : res.2 = 1) (hf : f_L_law_80 xs L  z o1 x2 y3 x5 = some res) : Zj p l e room_1 s m #[Value.ref b] below meth c g A 16 kc (lw_Z below #[Value.ref b] s) z 80 [(0, .ref b), (1, .ref (g.1 o1)), (2, .int x2), (3, .long y3), (5, .int x5)] [] := by
  unfold f_L_law_80 at hf
  refine z_aload_n C dL_law_80 rfl 1 rfl ?_
  obtain ⟨r1, hc2, hf⟩ := q_bd hf
  refine z_cSl C (st := []) (c_L_state ho1 hc2) mw_L_state ml_L_52 dL_law_81 rfl rfl rfl ⟨Nat.le_of_ble_eq_true rfl, Nat.le_of_ble_eq_true rfl⟩ rfl (Nat.le_of_ble_eq_true rfl) ?_
  refine z_lstore C (lv2 := [(6, .long r1.2), (0, .ref b), (1, .ref (g.1 o1)), (2, .int x2), (3, .long y3), (5, .int x5)]) dL_law_84 (by decide) rfl ?_
  refine z_iconst C dL_law_86 (v := 0) (by decide) ?_
  refine z_istore C (lv2 := [(8, .int 0), (6, .long r1.2), (0, .ref b), (1, .ref (g.1 o1)), (2, .int x2), (3, .long y3), (5, .int x5)]) dL_law_87 (by decide) rfl ?_
  refine z_iconst C dL_law_89 (v := 0) (by decide) ?_
  refine z_istore C (lv2 := [(9, .int 0), (8, .int 0), (6, .long r1.2), (0, .ref b), (1, .ref (g.1 o1)), (2, .int x2), (3, .long y3), (5, .int x5)]) dL_law_90 (by decide) rfl ?_
  exact z_sub [3, 4, 5, 6, 7, 2, 1, 0] rfl (b_L_law_92 C hr hk hX hbl hbA hA hkc FU r1.1 o1 x2 y3 x5 r1.2 0 0 ho1 hres hf)
def f_L_law_68 (xs : Nat → Int32) (L : Nat)  (z : St) (o1 : Nat) (x2 : Int32) (y3 : Int64) (x5 : Int32) : Option (St × Int32) :=
  ((f_X10_bench z o1 0).bind fun r1 => if r1.2 = x5 then f_L_law_80 xs L r1.1 o1 x2 y3 x5 else f_L_law_78 xs L r1.1)
theorem b_L_law_68 {p : Program} {l : Launch} {e : Env} {s : State} {m : MethodId} {below : List Frame} {meth : Method} {c : Code} {b L : Nat} {xs : Nat → Int32} {kc : Nat × Nat} {g : Ga} {A : Nat → Prop} (C : Cx l g A p s m #[Value.ref b] c cL_law 16 RL room_1 kc) (hr : meth.sig.returnType = ret) (hk : meth.locks = false) (hX : va_X b L xs s s.heap) (hbl : b < s.heap.size) (hbA : ¬ A b) (hA : ∀ q, A q → s.heap.size ≤ q) (hkc : kc.1 ≤ 600000 ∧ kc.2 ≤ 7302249)   (z : St) (o1 : Nat) (x2 : Int32) (y3 : Int64) (x5 : Int32) (ho1 : kd o1 = 10) {res : St × Int32} (hres : res.2 = 1) (hf : f_L_law_68 xs L  z o1 x2 y3 x5 = some res) : Zj p l e room_1 s m #[Value.ref b] below meth c g A 16 kc (lw_Z below #[Value.ref b] s) z 68 [(0, .ref b), (1, .ref (g.1 o1)), (2, .int x2), (3, .long y3), (5, .int x5)] [] := by
  unfold f_L_law_68 at hf
  refine z_aload_n C dL_law_68 rfl 1 rfl ?_
  refine z_iconst C dL_law_69 (v := 0) (by decide) ?_
  obtain ⟨r1, hc2, hf⟩ := q_bd hf
  refine z_cVi C (st := []) (c_X10_bench ho1 hc2) mw_X10_bench ml_L_39 ho1 (by decide) rfl dL_law_70 rfl rfl rfl ⟨Nat.le_of_ble_eq_true rfl, Nat.le_of_ble_eq_true rfl⟩ rfl (Nat.le_of_ble_eq_true rfl) ?_
  refine z_iload C dL_law_73 4 rfl ?_
  exact z_icmp_eq C dL_law_75 (by decide) (fun h => z_sub [0, 1, 2, 3, 4] rfl (b_L_law_80 C hr hk hX hbl hbA hA hkc r1.1 o1 x2 y3 x5 ho1 hres (q_t hf h))) (fun h => z_sub [] rfl (b_L_law_78 C hr hk hX hbl hbA hA hkc r1.1 hres (q_f hf h)))
def f_L_law_38 (xs : Nat → Int32) (L : Nat)  (z : St) (o1 : Nat) (x2 : Int32) : Option (St × Int32) :=
  ((f_L_state z o1).bind fun r1 => ((f_L_at xs L r1.1 3).bind fun r3 => ((f_L_some r3.1 r3.2 60).bind fun r5 => ((f_X10_go r5.1 o1 (1 + r5.2)).bind fun r7 => if r7.2 = (1 + r5.2) then f_L_law_68 xs L r7.1 o1 x2 r1.2 (1 + r5.2) else f_L_law_78 xs L r7.1))))
theorem b_L_law_38 {p : Program} {l : Launch} {e : Env} {s : State} {m : MethodId} {below : List Frame} {meth : Method} {c : Code} {b L : Nat} {xs : Nat → Int32} {kc : Nat × Nat} {g : Ga} {A : Nat → Prop} (C : Cx l g A p s m #[Value.ref b] c cL_law 16 RL room_1 kc) (hr : meth.sig.returnType = ret) (hk : meth.locks = false) (hX : va_X b L xs s s.heap) (hbl : b < s.heap.size) (hbA : ¬ A b) (hA : ∀ q, A q → s.heap.size ≤ q) (hkc : kc.1 ≤ 600000 ∧ kc.2 ≤ 7302249)   (z : St) (o1 : Nat) (x2 : Int32) (ho1 : kd o1 = 10) {res : St × Int32} (hres : res.2 = 1) (hf : f_L_law_38 xs L  z o1 x2 = some res) : Zj p l e room_1 s m #[Value.ref b] below meth c g A 16 kc (lw_Z below #[Value.ref b] s) z 38 [(0, .ref b), (1, .ref (g.1 o1)), (2, .int x2)] [] := by
  unfold f_L_law_38 at hf
  refine z_aload_n C dL_law_38 rfl 1 rfl ?_
  obtain ⟨r1, hc2, hf⟩ := q_bd hf
  refine z_cSl C (st := []) (c_L_state ho1 hc2) mw_L_state ml_L_52 dL_law_39 rfl rfl rfl ⟨Nat.le_of_ble_eq_true rfl, Nat.le_of_ble_eq_true rfl⟩ rfl (Nat.le_of_ble_eq_true rfl) ?_
  refine z_lstore_n C (lv2 := [(3, .long r1.2), (0, .ref b), (1, .ref (g.1 o1)), (2, .int x2)]) dL_law_42 rfl (by decide) rfl ?_
  refine z_iconst C dL_law_43 (v := 1) (by decide) ?_
  refine z_aload_n C dL_law_44 rfl 1 rfl ?_
  refine z_iconst C dL_law_45 (v := 3) (by decide) ?_
  obtain ⟨r3, hc4, hf⟩ := q_bd hf
  refine z_cXi C hX hbl hbA (st := [.int 1]) (c_L_at  hc4) mw_L_at ml_L_10 dL_law_46 rfl rfl rfl ⟨Nat.le_of_ble_eq_true rfl, Nat.le_of_ble_eq_true rfl⟩ rfl (Nat.le_of_ble_eq_true rfl) ?_
  refine z_bipush C dL_law_49 (v := 60) (by decide) ?_
  obtain ⟨r5, hc6, hf⟩ := q_bd hf
  refine z_cSi C (st := [.int 1]) (c_L_some  hc6) mw_L_some ml_L_16 dL_law_51 rfl rfl rfl ⟨Nat.le_of_ble_eq_true rfl, Nat.le_of_ble_eq_true rfl⟩ rfl (Nat.le_of_ble_eq_true rfl) ?_
  refine z_iadd C dL_law_54 ?_
  refine z_istore C (lv2 := [(5, .int (1 + r5.2)), (3, .long r1.2), (0, .ref b), (1, .ref (g.1 o1)), (2, .int x2)]) dL_law_55 (by decide) rfl ?_
  refine z_aload_n C dL_law_57 rfl 3 rfl ?_
  refine z_iload C dL_law_58 0 rfl ?_
  obtain ⟨r7, hc8, hf⟩ := q_bd hf
  refine z_cVi C (st := []) (c_X10_go ho1 hc8) mw_X10_go ml_L_56 ho1 (by decide) rfl dL_law_60 rfl rfl rfl ⟨Nat.le_of_ble_eq_true rfl, Nat.le_of_ble_eq_true rfl⟩ rfl (Nat.le_of_ble_eq_true rfl) ?_
  refine z_iload C dL_law_63 0 rfl ?_
  exact z_icmp_ne C dL_law_65 (by decide) (fun h => z_sub [] rfl (b_L_law_78 C hr hk hX hbl hbA hA hkc r7.1 hres (q_f hf h))) (fun h => z_sub [2, 3, 4, 1, 0] rfl (b_L_law_68 C hr hk hX hbl hbA hA hkc r7.1 o1 x2 r1.2 (1 + r5.2) ho1 hres (q_t hf h)))
def f_L_law_22 (xs : Nat → Int32) (L : Nat)  (z : St) (o1 : Nat) : Option (St × Int32) :=
  ((f_X10_count z o1 0).bind fun r1 => ((f_X10_image r1.1 o1).bind fun r3 => if r3.2 = r1.2 then f_L_law_38 xs L r3.1 o1 r1.2 else f_L_law_36 xs L r3.1))
theorem b_L_law_22 {p : Program} {l : Launch} {e : Env} {s : State} {m : MethodId} {below : List Frame} {meth : Method} {c : Code} {b L : Nat} {xs : Nat → Int32} {kc : Nat × Nat} {g : Ga} {A : Nat → Prop} (C : Cx l g A p s m #[Value.ref b] c cL_law 16 RL room_1 kc) (hr : meth.sig.returnType = ret) (hk : meth.locks = false) (hX : va_X b L xs s s.heap) (hbl : b < s.heap.size) (hbA : ¬ A b) (hA : ∀ q, A q → s.heap.size ≤ q) (hkc : kc.1 ≤ 600000 ∧ kc.2 ≤ 7302249)   (z : St) (o1 : Nat) (ho1 : kd o1 = 10) {res : St × Int32} (hres : res.2 = 1) (hf : f_L_law_22 xs L  z o1 = some res) : Zj p l e room_1 s m #[Value.ref b] below meth c g A 16 kc (lw_Z below #[Value.ref b] s) z 22 [(0, .ref b), (1, .ref (g.1 o1))] [] := by
  unfold f_L_law_22 at hf
  refine z_aload_n C dL_law_22 rfl 1 rfl ?_
  refine z_iconst C dL_law_23 (v := 0) (by decide) ?_
  obtain ⟨r1, hc2, hf⟩ := q_bd hf
  refine z_cVi C (st := []) (c_X10_count ho1 hc2) mw_X10_count ml_L_27 ho1 (by decide) rfl dL_law_24 rfl rfl rfl ⟨Nat.le_of_ble_eq_true rfl, Nat.le_of_ble_eq_true rfl⟩ rfl (Nat.le_of_ble_eq_true rfl) ?_
  refine z_istore_n C (lv2 := [(2, .int r1.2), (0, .ref b), (1, .ref (g.1 o1))]) dL_law_27 rfl (by decide) rfl ?_
  refine z_aload_n C dL_law_28 rfl 2 rfl ?_
  obtain ⟨r3, hc4, hf⟩ := q_bd hf
  refine z_cVi C (st := []) (c_X10_image ho1 hc4) mw_X10_image ml_L_49 ho1 (by decide) rfl dL_law_29 rfl rfl rfl ⟨Nat.le_of_ble_eq_true rfl, Nat.le_of_ble_eq_true rfl⟩ rfl (Nat.le_of_ble_eq_true rfl) ?_
  refine z_iload_n C dL_law_32 rfl 0 rfl ?_
  exact z_icmp_eq C dL_law_33 (by decide) (fun h => z_sub [1, 2, 0] rfl (b_L_law_38 C hr hk hX hbl hbA hA hkc r3.1 o1 r1.2 ho1 hres (q_t hf h))) (fun h => z_sub [] rfl (b_L_law_36 C hr hk hX hbl hbA hA hkc r3.1 hres (q_f hf h)))
