theorem ml_X6_20 : (RX6, 20, yX0_init, "BenchWithTails") ∈ nwM := by decide +kernel
theorem ml_X10_51 : (RX10, 51, yX0_init, "BenchWithTails") ∈ nwM := by decide +kernel
theorem z_sub0 {P : Prop} (h : P) : P := h
theorem oi_1 : Cond.instanceMethod Lib.objectInit ∈ wAll ∧ Cond.code Lib.objectInit ⟨#[0xb1]⟩ 1 none ∈ wAll := ⟨(wa 41 (by decide +kernel) (by decide +kernel)), (wa 42 (by decide +kernel) (by decide +kernel))⟩
theorem ar_J : Cond.arrayClass .long ∈ wAll := (wa 311 (by decide +kernel) (by decide +kernel))
theorem ar_I : Cond.arrayClass .int ∈ wAll := (wa 60 (by decide +kernel) (by decide +kernel))
theorem cn_X6_9 : Cond.classLink RX6 9 RX3 ∈ wAll ∧ Cond.instantiable RX3 8 ∈ wAll ∧ Cond.initialized RX3 ∈ wAll := ⟨(wa 193 (by decide +kernel) (by decide +kernel)), (wa 100 (by decide +kernel) (by decide +kernel)), (wa 25 (by decide +kernel) (by decide +kernel))⟩
theorem mi_X3_init : Cond.instanceMethod yX3_init ∈ wAll ∧ Cond.initialized (yX3_init).cls ∈ wAll ∧ Cond.code yX3_init cX3_init 1 none ∈ wAll ∧ (yX3_init).name = "<init>" ∧ ((yX3_init).cls ≠ "java/lang/invoke/MethodHandle" ∧ (yX3_init).cls ≠ "java/lang/invoke/VarHandle" ∧ (parseMethodDescriptor (yX3_init).desc).map (fun d => d.parameters.length) = some 0) := ⟨(wa 102 (by decide +kernel) (by decide +kernel)), (wa 25 (by decide +kernel) (by decide +kernel)), (wa 103 (by decide +kernel) (by decide +kernel)), rfl, by decide +kernel, by decide +kernel, by decide +kernel⟩
theorem ml_X6_11 : Cond.methodLink RX6 11 yX3_init ∈ wAll := (wa 194 (by decide +kernel) (by decide +kernel))
theorem cn_X6_18 : Cond.classLink RX6 18 RX0 ∈ wAll ∧ Cond.instantiable RX0 7 ∈ wAll ∧ Cond.initialized RX0 ∈ wAll := ⟨(wa 195 (by decide +kernel) (by decide +kernel)), (wa 138 (by decide +kernel) (by decide +kernel)), (wa 26 (by decide +kernel) (by decide +kernel))⟩
theorem mi_X0_init : Cond.instanceMethod yX0_init ∈ wAll ∧ Cond.initialized (yX0_init).cls ∈ wAll ∧ Cond.code yX0_init cX0_init 1 none ∈ wAll ∧ (yX0_init).name = "<init>" ∧ ((yX0_init).cls ≠ "java/lang/invoke/MethodHandle" ∧ (yX0_init).cls ≠ "java/lang/invoke/VarHandle" ∧ (parseMethodDescriptor (yX0_init).desc).map (fun d => d.parameters.length) = some 0) := ⟨(wa 140 (by decide +kernel) (by decide +kernel)), (wa 26 (by decide +kernel) (by decide +kernel)), (wa 141 (by decide +kernel) (by decide +kernel)), rfl, by decide +kernel, by decide +kernel, by decide +kernel⟩
theorem cn_X6_25 : Cond.classLink RX6 25 RX1 ∈ wAll ∧ Cond.instantiable RX1 3 ∈ wAll ∧ Cond.initialized RX1 ∈ wAll := ⟨(wa 197 (by decide +kernel) (by decide +kernel)), (wa 169 (by decide +kernel) (by decide +kernel)), (wa 27 (by decide +kernel) (by decide +kernel))⟩
theorem mi_X1_init : Cond.instanceMethod yX1_init ∈ wAll ∧ Cond.initialized (yX1_init).cls ∈ wAll ∧ Cond.code yX1_init cX1_init 1 none ∈ wAll ∧ (yX1_init).name = "<init>" ∧ ((yX1_init).cls ≠ "java/lang/invoke/MethodHandle" ∧ (yX1_init).cls ≠ "java/lang/invoke/VarHandle" ∧ (parseMethodDescriptor (yX1_init).desc).map (fun d => d.parameters.length) = some 0) := ⟨(wa 171 (by decide +kernel) (by decide +kernel)), (wa 27 (by decide +kernel) (by decide +kernel)), (wa 172 (by decide +kernel) (by decide +kernel)), rfl, by decide +kernel, by decide +kernel, by decide +kernel⟩
theorem ml_X6_27 : Cond.methodLink RX6 27 yX1_init ∈ wAll := (wa 198 (by decide +kernel) (by decide +kernel))
theorem cm_X2_9 : Cond.classLink RX2 9 "[[I" ∈ wAll := (wa 49 (by decide +kernel) (by decide +kernel))
theorem cn_X10_7 : Cond.classLink RX10 7 RX2 ∈ wAll ∧ Cond.instantiable RX2 2 ∈ wAll ∧ Cond.initialized RX2 ∈ wAll := ⟨(wa 43 (by decide +kernel) (by decide +kernel)), (wa 44 (by decide +kernel) (by decide +kernel)), (wa 22 (by decide +kernel) (by decide +kernel))⟩
theorem mi_X2_init : Cond.instanceMethod yX2_init ∈ wAll ∧ Cond.initialized (yX2_init).cls ∈ wAll ∧ Cond.code yX2_init cX2_init 1 none ∈ wAll ∧ (yX2_init).name = "<init>" ∧ ((yX2_init).cls ≠ "java/lang/invoke/MethodHandle" ∧ (yX2_init).cls ≠ "java/lang/invoke/VarHandle" ∧ (parseMethodDescriptor (yX2_init).desc).map (fun d => d.parameters.length) = some 0) := ⟨(wa 46 (by decide +kernel) (by decide +kernel)), (wa 22 (by decide +kernel) (by decide +kernel)), (wa 47 (by decide +kernel) (by decide +kernel)), rfl, by decide +kernel, by decide +kernel, by decide +kernel⟩
theorem ml_X10_9 : Cond.methodLink RX10 9 yX2_init ∈ wAll := (wa 45 (by decide +kernel) (by decide +kernel))
theorem cn_X10_22 : Cond.classLink RX10 22 RX8 ∈ wAll ∧ Cond.instantiable RX8 3 ∈ wAll ∧ Cond.initialized RX8 ∈ wAll := ⟨(wa 61 (by decide +kernel) (by decide +kernel)), (wa 62 (by decide +kernel) (by decide +kernel)), (wa 23 (by decide +kernel) (by decide +kernel))⟩
theorem mi_X8_init : Cond.instanceMethod yX8_init ∈ wAll ∧ Cond.initialized (yX8_init).cls ∈ wAll ∧ Cond.code yX8_init cX8_init 1 none ∈ wAll ∧ (yX8_init).name = "<init>" ∧ ((yX8_init).cls ≠ "java/lang/invoke/MethodHandle" ∧ (yX8_init).cls ≠ "java/lang/invoke/VarHandle" ∧ (parseMethodDescriptor (yX8_init).desc).map (fun d => d.parameters.length) = some 0) := ⟨(wa 64 (by decide +kernel) (by decide +kernel)), (wa 23 (by decide +kernel) (by decide +kernel)), (wa 65 (by decide +kernel) (by decide +kernel)), rfl, by decide +kernel, by decide +kernel, by decide +kernel⟩
theorem ml_X10_24 : Cond.methodLink RX10 24 yX8_init ∈ wAll := (wa 63 (by decide +kernel) (by decide +kernel))
theorem cn_X10_29 : Cond.classLink RX10 29 RX4 ∈ wAll ∧ Cond.instantiable RX4 4 ∈ wAll ∧ Cond.initialized RX4 ∈ wAll := ⟨(wa 78 (by decide +kernel) (by decide +kernel)), (wa 79 (by decide +kernel) (by decide +kernel)), (wa 24 (by decide +kernel) (by decide +kernel))⟩
theorem mi_X4_init : Cond.instanceMethod yX4_init ∈ wAll ∧ Cond.initialized (yX4_init).cls ∈ wAll ∧ Cond.code yX4_init cX4_init 1 none ∈ wAll ∧ (yX4_init).name = "<init>" ∧ ((yX4_init).cls ≠ "java/lang/invoke/MethodHandle" ∧ (yX4_init).cls ≠ "java/lang/invoke/VarHandle" ∧ (parseMethodDescriptor (yX4_init).desc).map (fun d => d.parameters.length) = some 0) := ⟨(wa 81 (by decide +kernel) (by decide +kernel)), (wa 24 (by decide +kernel) (by decide +kernel)), (wa 82 (by decide +kernel) (by decide +kernel)), rfl, by decide +kernel, by decide +kernel, by decide +kernel⟩
theorem ml_X10_31 : Cond.methodLink RX10 31 yX4_init ∈ wAll := (wa 80 (by decide +kernel) (by decide +kernel))
theorem cn_X10_39 : Cond.classLink RX10 39 RX3 ∈ wAll ∧ Cond.instantiable RX3 8 ∈ wAll ∧ Cond.initialized RX3 ∈ wAll := ⟨(wa 99 (by decide +kernel) (by decide +kernel)), (wa 100 (by decide +kernel) (by decide +kernel)), (wa 25 (by decide +kernel) (by decide +kernel))⟩
theorem ml_X10_41 : Cond.methodLink RX10 41 yX3_init ∈ wAll := (wa 101 (by decide +kernel) (by decide +kernel))
theorem cn_X10_49 : Cond.classLink RX10 49 RX0 ∈ wAll ∧ Cond.instantiable RX0 7 ∈ wAll ∧ Cond.initialized RX0 ∈ wAll := ⟨(wa 137 (by decide +kernel) (by decide +kernel)), (wa 138 (by decide +kernel) (by decide +kernel)), (wa 26 (by decide +kernel) (by decide +kernel))⟩
theorem cn_X10_56 : Cond.classLink RX10 56 RX1 ∈ wAll ∧ Cond.instantiable RX1 3 ∈ wAll ∧ Cond.initialized RX1 ∈ wAll := ⟨(wa 168 (by decide +kernel) (by decide +kernel)), (wa 169 (by decide +kernel) (by decide +kernel)), (wa 27 (by decide +kernel) (by decide +kernel))⟩
theorem ml_X10_58 : Cond.methodLink RX10 58 yX1_init ∈ wAll := (wa 170 (by decide +kernel) (by decide +kernel))
theorem cn_X10_63 : Cond.classLink RX10 63 RX6 ∈ wAll ∧ Cond.instantiable RX6 11 ∈ wAll ∧ Cond.initialized RX6 ∈ wAll := ⟨(wa 187 (by decide +kernel) (by decide +kernel)), (wa 188 (by decide +kernel) (by decide +kernel)), (wa 28 (by decide +kernel) (by decide +kernel))⟩
theorem mi_X6_init : Cond.instanceMethod yX6_init ∈ wAll ∧ Cond.initialized (yX6_init).cls ∈ wAll ∧ Cond.code yX6_init cX6_init 1 none ∈ wAll ∧ (yX6_init).name = "<init>" ∧ ((yX6_init).cls ≠ "java/lang/invoke/MethodHandle" ∧ (yX6_init).cls ≠ "java/lang/invoke/VarHandle" ∧ (parseMethodDescriptor (yX6_init).desc).map (fun d => d.parameters.length) = some 0) := ⟨(wa 190 (by decide +kernel) (by decide +kernel)), (wa 28 (by decide +kernel) (by decide +kernel)), (wa 191 (by decide +kernel) (by decide +kernel)), rfl, by decide +kernel, by decide +kernel, by decide +kernel⟩
theorem ml_X10_65 : Cond.methodLink RX10 65 yX6_init ∈ wAll := (wa 189 (by decide +kernel) (by decide +kernel))
theorem cn_X10_70 : Cond.classLink RX10 70 RX5 ∈ wAll ∧ Cond.instantiable RX5 6 ∈ wAll ∧ Cond.initialized RX5 ∈ wAll := ⟨(wa 236 (by decide +kernel) (by decide +kernel)), (wa 237 (by decide +kernel) (by decide +kernel)), (wa 29 (by decide +kernel) (by decide +kernel))⟩
theorem mi_X5_init : Cond.instanceMethod yX5_init ∈ wAll ∧ Cond.initialized (yX5_init).cls ∈ wAll ∧ Cond.code yX5_init cX5_init 1 none ∈ wAll ∧ (yX5_init).name = "<init>" ∧ ((yX5_init).cls ≠ "java/lang/invoke/MethodHandle" ∧ (yX5_init).cls ≠ "java/lang/invoke/VarHandle" ∧ (parseMethodDescriptor (yX5_init).desc).map (fun d => d.parameters.length) = some 0) := ⟨(wa 239 (by decide +kernel) (by decide +kernel)), (wa 29 (by decide +kernel) (by decide +kernel)), (wa 240 (by decide +kernel) (by decide +kernel)), rfl, by decide +kernel, by decide +kernel, by decide +kernel⟩
theorem ml_X10_72 : Cond.methodLink RX10 72 yX5_init ∈ wAll := (wa 238 (by decide +kernel) (by decide +kernel))
theorem cn_X10_77 : Cond.classLink RX10 77 RX9 ∈ wAll ∧ Cond.instantiable RX9 7 ∈ wAll ∧ Cond.initialized RX9 ∈ wAll := ⟨(wa 261 (by decide +kernel) (by decide +kernel)), (wa 262 (by decide +kernel) (by decide +kernel)), (wa 30 (by decide +kernel) (by decide +kernel))⟩
theorem mi_X9_init : Cond.instanceMethod yX9_init ∈ wAll ∧ Cond.initialized (yX9_init).cls ∈ wAll ∧ Cond.code yX9_init cX9_init 1 none ∈ wAll ∧ (yX9_init).name = "<init>" ∧ ((yX9_init).cls ≠ "java/lang/invoke/MethodHandle" ∧ (yX9_init).cls ≠ "java/lang/invoke/VarHandle" ∧ (parseMethodDescriptor (yX9_init).desc).map (fun d => d.parameters.length) = some 0) := ⟨(wa 264 (by decide +kernel) (by decide +kernel)), (wa 30 (by decide +kernel) (by decide +kernel)), (wa 265 (by decide +kernel) (by decide +kernel)), rfl, by decide +kernel, by decide +kernel, by decide +kernel⟩
theorem ml_X10_79 : Cond.methodLink RX10 79 yX9_init ∈ wAll := (wa 263 (by decide +kernel) (by decide +kernel))
theorem cs_X10_84 : Cond.classLink RX10 84 "BenchWithTails$Sheet" ∈ wAll := (wa 293 (by decide +kernel) (by decide +kernel))
theorem cn_X10_84 : Cond.classLink RX10 84 RX7 ∈ wAll ∧ Cond.instantiable RX7 3 ∈ wAll ∧ Cond.initialized RX7 ∈ wAll := ⟨(wa 293 (by decide +kernel) (by decide +kernel)), (wa 295 (by decide +kernel) (by decide +kernel)), (wa 31 (by decide +kernel) (by decide +kernel))⟩
theorem mi_X7_init : Cond.instanceMethod yX7_init ∈ wAll ∧ Cond.initialized (yX7_init).cls ∈ wAll ∧ Cond.code yX7_init cX7_init 1 none ∈ wAll ∧ (yX7_init).name = "<init>" ∧ ((yX7_init).cls ≠ "java/lang/invoke/MethodHandle" ∧ (yX7_init).cls ≠ "java/lang/invoke/VarHandle" ∧ (parseMethodDescriptor (yX7_init).desc).map (fun d => d.parameters.length) = some 0) := ⟨(wa 297 (by decide +kernel) (by decide +kernel)), (wa 31 (by decide +kernel) (by decide +kernel)), (wa 298 (by decide +kernel) (by decide +kernel)), rfl, by decide +kernel, by decide +kernel, by decide +kernel⟩
theorem ml_X10_90 : Cond.methodLink RX10 90 yX7_init ∈ wAll := (wa 296 (by decide +kernel) (by decide +kernel))
set_option maxRecDepth 20000 in
set_option maxHeartbeats 4000000 in
theorem ci_66 {l : Launch} {g : Ga} {A : Nat → Prop} {B : Nat} (hB : Bok g A B) (z : St) (hz : Zf z 67) : CK l g A B yX7_init cX7_init 1 { frames := 1, cells := 1, slots := 40, locals := 20 } [.ref (g.1 66)] z 67 53 (zI z 66 1 (-1)) 68 54 1 40 := by
  refine e_CK hB (by decide) (by decide) rfl (fun p e s m args below meth c C hin hr hk => ?_)
  refine k_aload_n C dX7_init_0 rfl 0 rfl ?_
  refine k_objInit C (st := []) dX7_init_1 (wa 299 (by decide +kernel) (by decide +kernel)) oi_1.1 oi_1.2 ⟨by decide, by decide⟩ (Nat.le_of_ble_eq_true rfl) ?_
  refine k_aload_n C dX7_init_4 rfl 0 rfl ?_
  refine k_bipush C dX7_init_5 (v := 40) (by decide) ?_
  refine k_newaJ C (N := 40) dX7_init_7 (by decide) (by decide) (by decide) (by decide) ar_J (show Zf _ 67 from (Zf.up hz (by decide))) (by decide) ⟨by decide, by decide⟩ ?_
  refine k_putA C hin (ci := 7) (k := 0) dX7_init_9 (by decide) (by decide) (by decide) rfl in_X7 tyX7 tyX7_ok nmX7 (by decide) (wa 300 (by decide +kernel) (by decide +kernel)) rfl rfl rfl (tyX7_ok 0 (by decide)) (fun _ => rfl) (fun _ => rfl) (by decide +kernel) (by decide) (fun _ _ _ _ => Nat.le_of_ble_eq_true rfl) (fun _ _ => rfl) ?_
  refine k_aload_n C dX7_init_12 rfl 0 rfl ?_
  refine k_iconst C dX7_init_13 (v := (-1)) (by decide) ?_
  refine k_putI C (ci := 7) (k := 1) dX7_init_14 (by decide) (by decide) (by decide) rfl in_X7 tyX7 tyX7_ok nmX7 (by decide) (wa 301 (by decide +kernel) (by decide +kernel)) rfl rfl (tyX7_ok 1 (by decide)) rfl rfl (fun _ _ _ _ => Nat.le_of_ble_eq_true rfl) (fun _ _ => rfl) ?_
  exact z_sub0 (k_vret C hr hk dX7_init_17)
set_option maxRecDepth 20000 in
set_option maxHeartbeats 4000000 in
theorem ci_64 {l : Launch} {g : Ga} {A : Nat → Prop} {B : Nat} (hB : Bok g A B) (z : St) (hz : Zf z 65) : CK l g A B yX7_init cX7_init 1 { frames := 1, cells := 1, slots := 40, locals := 20 } [.ref (g.1 64)] z 65 51 (zI z 64 1 (-1)) 66 52 1 40 := by
  refine e_CK hB (by decide) (by decide) rfl (fun p e s m args below meth c C hin hr hk => ?_)
  refine k_aload_n C dX7_init_0 rfl 0 rfl ?_
  refine k_objInit C (st := []) dX7_init_1 (wa 299 (by decide +kernel) (by decide +kernel)) oi_1.1 oi_1.2 ⟨by decide, by decide⟩ (Nat.le_of_ble_eq_true rfl) ?_
  refine k_aload_n C dX7_init_4 rfl 0 rfl ?_
  refine k_bipush C dX7_init_5 (v := 40) (by decide) ?_
  refine k_newaJ C (N := 40) dX7_init_7 (by decide) (by decide) (by decide) (by decide) ar_J (show Zf _ 65 from (Zf.up hz (by decide))) (by decide) ⟨by decide, by decide⟩ ?_
  refine k_putA C hin (ci := 7) (k := 0) dX7_init_9 (by decide) (by decide) (by decide) rfl in_X7 tyX7 tyX7_ok nmX7 (by decide) (wa 300 (by decide +kernel) (by decide +kernel)) rfl rfl rfl (tyX7_ok 0 (by decide)) (fun _ => rfl) (fun _ => rfl) (by decide +kernel) (by decide) (fun _ _ _ _ => Nat.le_of_ble_eq_true rfl) (fun _ _ => rfl) ?_
  refine k_aload_n C dX7_init_12 rfl 0 rfl ?_
  refine k_iconst C dX7_init_13 (v := (-1)) (by decide) ?_
  refine k_putI C (ci := 7) (k := 1) dX7_init_14 (by decide) (by decide) (by decide) rfl in_X7 tyX7 tyX7_ok nmX7 (by decide) (wa 301 (by decide +kernel) (by decide +kernel)) rfl rfl (tyX7_ok 1 (by decide)) rfl rfl (fun _ _ _ _ => Nat.le_of_ble_eq_true rfl) (fun _ _ => rfl) ?_
  exact z_sub0 (k_vret C hr hk dX7_init_17)
set_option maxRecDepth 20000 in
set_option maxHeartbeats 4000000 in
theorem ci_62 {l : Launch} {g : Ga} {A : Nat → Prop} {B : Nat} (hB : Bok g A B) (z : St) (hz : Zf z 63) : CK l g A B yX7_init cX7_init 1 { frames := 1, cells := 1, slots := 40, locals := 20 } [.ref (g.1 62)] z 63 49 (zI z 62 1 (-1)) 64 50 1 40 := by
  refine e_CK hB (by decide) (by decide) rfl (fun p e s m args below meth c C hin hr hk => ?_)
  refine k_aload_n C dX7_init_0 rfl 0 rfl ?_
  refine k_objInit C (st := []) dX7_init_1 (wa 299 (by decide +kernel) (by decide +kernel)) oi_1.1 oi_1.2 ⟨by decide, by decide⟩ (Nat.le_of_ble_eq_true rfl) ?_
  refine k_aload_n C dX7_init_4 rfl 0 rfl ?_
  refine k_bipush C dX7_init_5 (v := 40) (by decide) ?_
  refine k_newaJ C (N := 40) dX7_init_7 (by decide) (by decide) (by decide) (by decide) ar_J (show Zf _ 63 from (Zf.up hz (by decide))) (by decide) ⟨by decide, by decide⟩ ?_
  refine k_putA C hin (ci := 7) (k := 0) dX7_init_9 (by decide) (by decide) (by decide) rfl in_X7 tyX7 tyX7_ok nmX7 (by decide) (wa 300 (by decide +kernel) (by decide +kernel)) rfl rfl rfl (tyX7_ok 0 (by decide)) (fun _ => rfl) (fun _ => rfl) (by decide +kernel) (by decide) (fun _ _ _ _ => Nat.le_of_ble_eq_true rfl) (fun _ _ => rfl) ?_
  refine k_aload_n C dX7_init_12 rfl 0 rfl ?_
  refine k_iconst C dX7_init_13 (v := (-1)) (by decide) ?_
  refine k_putI C (ci := 7) (k := 1) dX7_init_14 (by decide) (by decide) (by decide) rfl in_X7 tyX7 tyX7_ok nmX7 (by decide) (wa 301 (by decide +kernel) (by decide +kernel)) rfl rfl (tyX7_ok 1 (by decide)) rfl rfl (fun _ _ _ _ => Nat.le_of_ble_eq_true rfl) (fun _ _ => rfl) ?_
  exact z_sub0 (k_vret C hr hk dX7_init_17)
set_option maxRecDepth 20000 in
set_option maxHeartbeats 4000000 in
theorem ci_60 {l : Launch} {g : Ga} {A : Nat → Prop} {B : Nat} (hB : Bok g A B) (z : St) (hz : Zf z 61) : CK l g A B yX7_init cX7_init 1 { frames := 1, cells := 1, slots := 40, locals := 20 } [.ref (g.1 60)] z 61 47 (zI z 60 1 (-1)) 62 48 1 40 := by
  refine e_CK hB (by decide) (by decide) rfl (fun p e s m args below meth c C hin hr hk => ?_)
  refine k_aload_n C dX7_init_0 rfl 0 rfl ?_
  refine k_objInit C (st := []) dX7_init_1 (wa 299 (by decide +kernel) (by decide +kernel)) oi_1.1 oi_1.2 ⟨by decide, by decide⟩ (Nat.le_of_ble_eq_true rfl) ?_
  refine k_aload_n C dX7_init_4 rfl 0 rfl ?_
  refine k_bipush C dX7_init_5 (v := 40) (by decide) ?_
  refine k_newaJ C (N := 40) dX7_init_7 (by decide) (by decide) (by decide) (by decide) ar_J (show Zf _ 61 from (Zf.up hz (by decide))) (by decide) ⟨by decide, by decide⟩ ?_
  refine k_putA C hin (ci := 7) (k := 0) dX7_init_9 (by decide) (by decide) (by decide) rfl in_X7 tyX7 tyX7_ok nmX7 (by decide) (wa 300 (by decide +kernel) (by decide +kernel)) rfl rfl rfl (tyX7_ok 0 (by decide)) (fun _ => rfl) (fun _ => rfl) (by decide +kernel) (by decide) (fun _ _ _ _ => Nat.le_of_ble_eq_true rfl) (fun _ _ => rfl) ?_
  refine k_aload_n C dX7_init_12 rfl 0 rfl ?_
  refine k_iconst C dX7_init_13 (v := (-1)) (by decide) ?_
  refine k_putI C (ci := 7) (k := 1) dX7_init_14 (by decide) (by decide) (by decide) rfl in_X7 tyX7 tyX7_ok nmX7 (by decide) (wa 301 (by decide +kernel) (by decide +kernel)) rfl rfl (tyX7_ok 1 (by decide)) rfl rfl (fun _ _ _ _ => Nat.le_of_ble_eq_true rfl) (fun _ _ => rfl) ?_
  exact z_sub0 (k_vret C hr hk dX7_init_17)
set_option maxRecDepth 20000 in
set_option maxHeartbeats 4000000 in
theorem ci_57 {l : Launch} {g : Ga} {A : Nat → Prop} {B : Nat} (hB : Bok g A B) (z : St) (hz : Zf z 58) : CK l g A B yX9_init cX9_init 1 { frames := 1, cells := 1, slots := 8, locals := 20 } [.ref (g.1 57)] z 58 44 (zI z 57 2 (-1)) 59 45 1 8 := by
  refine e_CK hB (by decide) (by decide) rfl (fun p e s m args below meth c C hin hr hk => ?_)
  refine k_aload_n C dX9_init_0 rfl 0 rfl ?_
  refine k_objInit C (st := []) dX9_init_1 (wa 266 (by decide +kernel) (by decide +kernel)) oi_1.1 oi_1.2 ⟨by decide, by decide⟩ (Nat.le_of_ble_eq_true rfl) ?_
  refine k_aload_n C dX9_init_4 rfl 0 rfl ?_
  refine k_bipush C dX9_init_5 (v := 8) (by decide) ?_
  refine k_newa C (N := 8) dX9_init_7 (by decide) (by decide) (by decide) (by decide) ar_I (show Zf _ 58 from (Zf.up hz (by decide))) (by decide) ⟨by decide, by decide⟩ ?_
  refine k_putA C hin (ci := 9) (k := 0) dX9_init_9 (by decide) (by decide) (by decide) rfl in_X9 tyX9 tyX9_ok nmX9 (by decide) (wa 267 (by decide +kernel) (by decide +kernel)) rfl rfl rfl (tyX9_ok 0 (by decide)) (fun _ => rfl) (fun _ => rfl) (by decide +kernel) (by decide) (fun _ _ _ _ => Nat.le_of_ble_eq_true rfl) (fun _ _ => rfl) ?_
  refine k_aload_n C dX9_init_12 rfl 0 rfl ?_
  refine k_iconst C dX9_init_13 (v := (-1)) (by decide) ?_
  refine k_putI C (ci := 9) (k := 2) dX9_init_14 (by decide) (by decide) (by decide) rfl in_X9 tyX9 tyX9_ok nmX9 (by decide) (wa 270 (by decide +kernel) (by decide +kernel)) rfl rfl (tyX9_ok 2 (by decide)) rfl rfl (fun _ _ _ _ => Nat.le_of_ble_eq_true rfl) (fun _ _ => rfl) ?_
  exact z_sub0 (k_vret C hr hk dX9_init_17)
set_option maxRecDepth 20000 in
set_option maxHeartbeats 4000000 in
theorem ci_52 {l : Launch} {g : Ga} {A : Nat → Prop} {B : Nat} (hB : Bok g A B) (z : St) (hz : Zf z 53) : CK l g A B yX5_init cX5_init 1 { frames := 1, cells := 4, slots := 1536, locals := 20 } [.ref (g.1 52)] z 53 39 z 57 43 4 1536 := by
  refine e_CK hB (by decide) (by decide) rfl (fun p e s m args below meth c C hin hr hk => ?_)
  refine k_aload_n C dX5_init_0 rfl 0 rfl ?_
  refine k_objInit C (st := []) dX5_init_1 (wa 241 (by decide +kernel) (by decide +kernel)) oi_1.1 oi_1.2 ⟨by decide, by decide⟩ (Nat.le_of_ble_eq_true rfl) ?_
  refine k_aload_n C dX5_init_4 rfl 0 rfl ?_
  refine k_sipush C dX5_init_5 (v := 256) (by decide) ?_
  refine k_newa C (N := 256) dX5_init_8 (by decide) (by decide) (by decide) (by decide) ar_I (show Zf _ 53 from (Zf.up hz (by decide))) (by decide) ⟨by decide, by decide⟩ ?_
  refine k_putA C hin (ci := 5) (k := 0) dX5_init_10 (by decide) (by decide) (by decide) rfl in_X5 tyX5 tyX5_ok nmX5 (by decide) (wa 242 (by decide +kernel) (by decide +kernel)) rfl rfl rfl (tyX5_ok 0 (by decide)) (fun _ => rfl) (fun _ => rfl) (by decide +kernel) (by decide) (fun _ _ _ _ => Nat.le_of_ble_eq_true rfl) (fun _ _ => rfl) ?_
  refine k_aload_n C dX5_init_13 rfl 0 rfl ?_
  refine k_sipush C dX5_init_14 (v := 256) (by decide) ?_
  refine k_newa C (N := 256) dX5_init_17 (by decide) (by decide) (by decide) (by decide) ar_I (show Zf _ 54 from (Zf.up hz (by decide))) (by decide) ⟨by decide, by decide⟩ ?_
  refine k_putA C hin (ci := 5) (k := 1) dX5_init_19 (by decide) (by decide) (by decide) rfl in_X5 tyX5 tyX5_ok nmX5 (by decide) (wa 243 (by decide +kernel) (by decide +kernel)) rfl rfl rfl (tyX5_ok 1 (by decide)) (fun _ => rfl) (fun _ => rfl) (by decide +kernel) (by decide) (fun _ _ _ _ => Nat.le_of_ble_eq_true rfl) (fun _ _ => rfl) ?_
  refine k_aload_n C dX5_init_22 rfl 0 rfl ?_
  refine k_sipush C dX5_init_23 (v := 512) (by decide) ?_
  refine k_newa C (N := 512) dX5_init_26 (by decide) (by decide) (by decide) (by decide) ar_I (show Zf _ 55 from (Zf.up hz (by decide))) (by decide) ⟨by decide, by decide⟩ ?_
  refine k_putA C hin (ci := 5) (k := 2) dX5_init_28 (by decide) (by decide) (by decide) rfl in_X5 tyX5 tyX5_ok nmX5 (by decide) (wa 244 (by decide +kernel) (by decide +kernel)) rfl rfl rfl (tyX5_ok 2 (by decide)) (fun _ => rfl) (fun _ => rfl) (by decide +kernel) (by decide) (fun _ _ _ _ => Nat.le_of_ble_eq_true rfl) (fun _ _ => rfl) ?_
  refine k_aload_n C dX5_init_31 rfl 0 rfl ?_
  refine k_sipush C dX5_init_32 (v := 512) (by decide) ?_
  refine k_newa C (N := 512) dX5_init_35 (by decide) (by decide) (by decide) (by decide) ar_I (show Zf _ 56 from (Zf.up hz (by decide))) (by decide) ⟨by decide, by decide⟩ ?_
  refine k_putA C hin (ci := 5) (k := 3) dX5_init_37 (by decide) (by decide) (by decide) rfl in_X5 tyX5 tyX5_ok nmX5 (by decide) (wa 245 (by decide +kernel) (by decide +kernel)) rfl rfl rfl (tyX5_ok 3 (by decide)) (fun _ => rfl) (fun _ => rfl) (by decide +kernel) (by decide) (fun _ _ _ _ => Nat.le_of_ble_eq_true rfl) (fun _ _ => rfl) ?_
  exact z_sub0 (k_vret C hr hk dX5_init_40)
set_option maxRecDepth 20000 in
set_option maxHeartbeats 4000000 in
theorem ci_46 {l : Launch} {g : Ga} {A : Nat → Prop} {B : Nat} (hB : Bok g A B) (z : St) (hz : Zf z 47) : CK l g A B yX1_init cX1_init 1 { frames := 1, cells := 1, slots := 8, locals := 20 } [.ref (g.1 46)] z 47 32 z 48 33 1 8 := by
  refine e_CK hB (by decide) (by decide) rfl (fun p e s m args below meth c C hin hr hk => ?_)
  refine k_aload_n C dX1_init_0 rfl 0 rfl ?_
  refine k_objInit C (st := []) dX1_init_1 (wa 173 (by decide +kernel) (by decide +kernel)) oi_1.1 oi_1.2 ⟨by decide, by decide⟩ (Nat.le_of_ble_eq_true rfl) ?_
  refine k_aload_n C dX1_init_4 rfl 0 rfl ?_
  refine k_bipush C dX1_init_5 (v := 8) (by decide) ?_
  refine k_newa C (N := 8) dX1_init_7 (by decide) (by decide) (by decide) (by decide) ar_I (show Zf _ 47 from (Zf.up hz (by decide))) (by decide) ⟨by decide, by decide⟩ ?_
  refine k_putA C hin (ci := 1) (k := 0) dX1_init_9 (by decide) (by decide) (by decide) rfl in_X1 tyX1 tyX1_ok nmX1 (by decide) (wa 174 (by decide +kernel) (by decide +kernel)) rfl rfl rfl (tyX1_ok 0 (by decide)) (fun _ => rfl) (fun _ => rfl) (by decide +kernel) (by decide) (fun _ _ _ _ => Nat.le_of_ble_eq_true rfl) (fun _ _ => rfl) ?_
  exact z_sub0 (k_vret C hr hk dX1_init_12)
set_option maxRecDepth 20000 in
set_option maxHeartbeats 4000000 in
theorem ci_45 {l : Launch} {g : Ga} {A : Nat → Prop} {B : Nat} (hB : Bok g A B) (z : St) (hz : Zf z 46) : CK l g A B yX0_init cX0_init 1 { frames := 1, cells := 0, slots := 0, locals := 20 } [.ref (g.1 45)] z 46 31 z 46 31 0 0 := by
  refine e_CK hB (by decide) (by decide) rfl (fun p e s m args below meth c C hin hr hk => ?_)
  refine k_aload_n C dX0_init_0 rfl 0 rfl ?_
  refine k_objInit C (st := []) dX0_init_1 (wa 142 (by decide +kernel) (by decide +kernel)) oi_1.1 oi_1.2 ⟨by decide, by decide⟩ (Nat.le_of_ble_eq_true rfl) ?_
  exact z_sub0 (k_vret C hr hk dX0_init_4)
set_option maxRecDepth 20000 in
set_option maxHeartbeats 4000000 in
theorem ci_41 {l : Launch} {g : Ga} {A : Nat → Prop} {B : Nat} (hB : Bok g A B) (z : St) (hz : Zf z 42) : CK l g A B yX3_init cX3_init 1 { frames := 1, cells := 3, slots := 24, locals := 20 } [.ref (g.1 41)] z 42 27 z 45 30 3 24 := by
  refine e_CK hB (by decide) (by decide) rfl (fun p e s m args below meth c C hin hr hk => ?_)
  refine k_aload_n C dX3_init_0 rfl 0 rfl ?_
  refine k_objInit C (st := []) dX3_init_1 (wa 104 (by decide +kernel) (by decide +kernel)) oi_1.1 oi_1.2 ⟨by decide, by decide⟩ (Nat.le_of_ble_eq_true rfl) ?_
  refine k_aload_n C dX3_init_4 rfl 0 rfl ?_
  refine k_bipush C dX3_init_5 (v := 8) (by decide) ?_
  refine k_newa C (N := 8) dX3_init_7 (by decide) (by decide) (by decide) (by decide) ar_I (show Zf _ 42 from (Zf.up hz (by decide))) (by decide) ⟨by decide, by decide⟩ ?_
  refine k_putA C hin (ci := 3) (k := 0) dX3_init_9 (by decide) (by decide) (by decide) rfl in_X3 tyX3 tyX3_ok nmX3 (by decide) (wa 105 (by decide +kernel) (by decide +kernel)) rfl rfl rfl (tyX3_ok 0 (by decide)) (fun _ => rfl) (fun _ => rfl) (by decide +kernel) (by decide) (fun _ _ _ _ => Nat.le_of_ble_eq_true rfl) (fun _ _ => rfl) ?_
  refine k_aload_n C dX3_init_12 rfl 0 rfl ?_
  refine k_bipush C dX3_init_13 (v := 8) (by decide) ?_
  refine k_newa C (N := 8) dX3_init_15 (by decide) (by decide) (by decide) (by decide) ar_I (show Zf _ 43 from (Zf.up hz (by decide))) (by decide) ⟨by decide, by decide⟩ ?_
  refine k_putA C hin (ci := 3) (k := 1) dX3_init_17 (by decide) (by decide) (by decide) rfl in_X3 tyX3 tyX3_ok nmX3 (by decide) (wa 106 (by decide +kernel) (by decide +kernel)) rfl rfl rfl (tyX3_ok 1 (by decide)) (fun _ => rfl) (fun _ => rfl) (by decide +kernel) (by decide) (fun _ _ _ _ => Nat.le_of_ble_eq_true rfl) (fun _ _ => rfl) ?_
  refine k_aload_n C dX3_init_20 rfl 0 rfl ?_
  refine k_bipush C dX3_init_21 (v := 8) (by decide) ?_
  refine k_newa C (N := 8) dX3_init_23 (by decide) (by decide) (by decide) (by decide) ar_I (show Zf _ 44 from (Zf.up hz (by decide))) (by decide) ⟨by decide, by decide⟩ ?_
  refine k_putA C hin (ci := 3) (k := 2) dX3_init_25 (by decide) (by decide) (by decide) rfl in_X3 tyX3 tyX3_ok nmX3 (by decide) (wa 107 (by decide +kernel) (by decide +kernel)) rfl rfl rfl (tyX3_ok 2 (by decide)) (fun _ => rfl) (fun _ => rfl) (by decide +kernel) (by decide) (fun _ _ _ _ => Nat.le_of_ble_eq_true rfl) (fun _ _ => rfl) ?_
  exact z_sub0 (k_vret C hr hk dX3_init_28)
set_option maxRecDepth 20000 in
set_option maxHeartbeats 4000000 in
theorem ci_40 {l : Launch} {g : Ga} {A : Nat → Prop} {B : Nat} (hB : Bok g A B) (z : St) (hz : Zf z 41) : CK l g A B yX6_init cX6_init 1 { frames := 2, cells := 11, slots := 6650, locals := 40 } [.ref (g.1 40)] z 41 27 z 52 38 11 6650 := by
  refine e_CK hB (by decide) (by decide) rfl (fun p e s m args below meth c C hin hr hk => ?_)
  refine k_aload_n C dX6_init_0 rfl 0 rfl ?_
  refine k_objInit C (st := []) dX6_init_1 (wa 192 (by decide +kernel) (by decide +kernel)) oi_1.1 oi_1.2 ⟨by decide, by decide⟩ (Nat.le_of_ble_eq_true rfl) ?_
  refine k_aload_n C dX6_init_4 rfl 0 rfl ?_
  refine k_new C dX6_init_5 (ci := 3) (by decide) (by decide) rfl in_X3 tyX3 tyX3_ok cn_X6_9.1 cn_X6_9.2.1 cn_X6_9.2.2 (show Zf _ 41 from (Zf.up hz (by decide))) (by decide +kernel) (fun a j hj => by rcases (show j = 0 ∨ j = 1 ∨ j = 2 ∨ j = 3 ∨ j = 4 ∨ j = 5 ∨ j = 6 ∨ j = 7 by omega) with rfl | rfl | rfl | rfl | rfl | rfl | rfl | rfl <;> rfl) (by decide) ⟨by decide, by decide⟩ ?_
  refine k_dup C dX6_init_8 rfl ?_
  refine k_callI C (st := [.ref (g.1 41), .ref (g.1 40)]) (ci_41 hB z (show Zf _ 42 from (Zf.up hz (by decide)))) mi_X3_init ml_X6_11 dX6_init_9 rfl rfl ⟨by decide, by decide⟩ (Nat.le_of_ble_eq_true rfl) (by decide) ⟨by decide, by decide⟩ ?_
  refine k_putA C hin (ci := 6) (k := 0) dX6_init_12 (by decide) (by decide) (by decide) rfl in_X6 tyX6 tyX6_ok nmX6 (by decide) (wa 199 (by decide +kernel) (by decide +kernel)) rfl rfl rfl (tyX6_ok 0 (by decide)) (fun _ => rfl) (fun _ => rfl) (by decide +kernel) (by decide) (fun _ _ _ _ => Nat.le_of_ble_eq_true rfl) (fun _ _ => rfl) ?_
  refine k_aload_n C dX6_init_15 rfl 0 rfl ?_
  refine k_new C dX6_init_16 (ci := 0) (by decide) (by decide) rfl in_X0 tyX0 tyX0_ok cn_X6_18.1 cn_X6_18.2.1 cn_X6_18.2.2 (show Zf _ 45 from (Zf.up hz (by decide))) (by decide +kernel) (fun a j hj => by rcases (show j = 0 ∨ j = 1 ∨ j = 2 ∨ j = 3 ∨ j = 4 ∨ j = 5 ∨ j = 6 by omega) with rfl | rfl | rfl | rfl | rfl | rfl | rfl <;> rfl) (by decide) ⟨by decide, by decide⟩ ?_
  refine k_dup C dX6_init_19 rfl ?_
  refine k_callIN C (st := [.ref (g.1 45), .ref (g.1 40)]) (ci_45 hB z (show Zf _ 46 from (Zf.up hz (by decide)))) mi_X0_init ml_X6_20 dX6_init_20 rfl rfl ⟨by decide, by decide⟩ (Nat.le_of_ble_eq_true rfl) (by decide) ⟨by decide, by decide⟩ ?_
  refine k_putA C hin (ci := 6) (k := 1) dX6_init_23 (by decide) (by decide) (by decide) rfl in_X6 tyX6 tyX6_ok nmX6 (by decide) (wa 200 (by decide +kernel) (by decide +kernel)) rfl rfl rfl (tyX6_ok 1 (by decide)) (fun _ => rfl) (fun _ => rfl) (by decide +kernel) (by decide) (fun _ _ _ _ => Nat.le_of_ble_eq_true rfl) (fun _ _ => rfl) ?_
  refine k_aload_n C dX6_init_26 rfl 0 rfl ?_
  refine k_new C dX6_init_27 (ci := 1) (by decide) (by decide) rfl in_X1 tyX1 tyX1_ok cn_X6_25.1 cn_X6_25.2.1 cn_X6_25.2.2 (show Zf _ 46 from (Zf.up hz (by decide))) (by decide +kernel) (fun a j hj => by rcases (show j = 0 ∨ j = 1 ∨ j = 2 by omega) with rfl | rfl | rfl <;> rfl) (by decide) ⟨by decide, by decide⟩ ?_
  refine k_dup C dX6_init_30 rfl ?_
  refine k_callI C (st := [.ref (g.1 46), .ref (g.1 40)]) (ci_46 hB z (show Zf _ 47 from (Zf.up hz (by decide)))) mi_X1_init ml_X6_27 dX6_init_31 rfl rfl ⟨by decide, by decide⟩ (Nat.le_of_ble_eq_true rfl) (by decide) ⟨by decide, by decide⟩ ?_
  refine k_putA C hin (ci := 6) (k := 2) dX6_init_34 (by decide) (by decide) (by decide) rfl in_X6 tyX6 tyX6_ok nmX6 (by decide) (wa 201 (by decide +kernel) (by decide +kernel)) rfl rfl rfl (tyX6_ok 2 (by decide)) (fun _ => rfl) (fun _ => rfl) (by decide +kernel) (by decide) (fun _ _ _ _ => Nat.le_of_ble_eq_true rfl) (fun _ _ => rfl) ?_
  refine k_aload_n C dX6_init_37 rfl 0 rfl ?_
  refine k_sipush C dX6_init_38 (v := 1650) (by decide) ?_
  refine k_newa C (N := 1650) dX6_init_41 (by decide) (by decide) (by decide) (by decide) ar_I (show Zf _ 48 from (Zf.up hz (by decide))) (by decide) ⟨by decide, by decide⟩ ?_
  refine k_putA C hin (ci := 6) (k := 3) dX6_init_43 (by decide) (by decide) (by decide) rfl in_X6 tyX6 tyX6_ok nmX6 (by decide) (wa 202 (by decide +kernel) (by decide +kernel)) rfl rfl rfl (tyX6_ok 3 (by decide)) (fun _ => rfl) (fun _ => rfl) (by decide +kernel) (by decide) (fun _ _ _ _ => Nat.le_of_ble_eq_true rfl) (fun _ _ => rfl) ?_
  refine k_aload_n C dX6_init_46 rfl 0 rfl ?_
  refine k_sipush C dX6_init_47 (v := 1650) (by decide) ?_
  refine k_newa C (N := 1650) dX6_init_50 (by decide) (by decide) (by decide) (by decide) ar_I (show Zf _ 49 from (Zf.up hz (by decide))) (by decide) ⟨by decide, by decide⟩ ?_
  refine k_putA C hin (ci := 6) (k := 4) dX6_init_52 (by decide) (by decide) (by decide) rfl in_X6 tyX6 tyX6_ok nmX6 (by decide) (wa 203 (by decide +kernel) (by decide +kernel)) rfl rfl rfl (tyX6_ok 4 (by decide)) (fun _ => rfl) (fun _ => rfl) (by decide +kernel) (by decide) (fun _ _ _ _ => Nat.le_of_ble_eq_true rfl) (fun _ _ => rfl) ?_
  refine k_aload_n C dX6_init_55 rfl 0 rfl ?_
  refine k_sipush C dX6_init_56 (v := 1650) (by decide) ?_
  refine k_newa C (N := 1650) dX6_init_59 (by decide) (by decide) (by decide) (by decide) ar_I (show Zf _ 50 from (Zf.up hz (by decide))) (by decide) ⟨by decide, by decide⟩ ?_
  refine k_putA C hin (ci := 6) (k := 5) dX6_init_61 (by decide) (by decide) (by decide) rfl in_X6 tyX6 tyX6_ok nmX6 (by decide) (wa 204 (by decide +kernel) (by decide +kernel)) rfl rfl rfl (tyX6_ok 5 (by decide)) (fun _ => rfl) (fun _ => rfl) (by decide +kernel) (by decide) (fun _ _ _ _ => Nat.le_of_ble_eq_true rfl) (fun _ _ => rfl) ?_
  refine k_aload_n C dX6_init_64 rfl 0 rfl ?_
  refine k_sipush C dX6_init_65 (v := 1650) (by decide) ?_
  refine k_newa C (N := 1650) dX6_init_68 (by decide) (by decide) (by decide) (by decide) ar_I (show Zf _ 51 from (Zf.up hz (by decide))) (by decide) ⟨by decide, by decide⟩ ?_
  refine k_putA C hin (ci := 6) (k := 6) dX6_init_70 (by decide) (by decide) (by decide) rfl in_X6 tyX6 tyX6_ok nmX6 (by decide) (wa 205 (by decide +kernel) (by decide +kernel)) rfl rfl rfl (tyX6_ok 6 (by decide)) (fun _ => rfl) (fun _ => rfl) (by decide +kernel) (by decide) (fun _ _ _ _ => Nat.le_of_ble_eq_true rfl) (fun _ _ => rfl) ?_
  exact z_sub0 (k_vret C hr hk dX6_init_73)
set_option maxRecDepth 20000 in
set_option maxHeartbeats 4000000 in
theorem ci_38 {l : Launch} {g : Ga} {A : Nat → Prop} {B : Nat} (hB : Bok g A B) (z : St) (hz : Zf z 39) : CK l g A B yX1_init cX1_init 1 { frames := 1, cells := 1, slots := 8, locals := 20 } [.ref (g.1 38)] z 39 25 z 40 26 1 8 := by
  refine e_CK hB (by decide) (by decide) rfl (fun p e s m args below meth c C hin hr hk => ?_)
  refine k_aload_n C dX1_init_0 rfl 0 rfl ?_
  refine k_objInit C (st := []) dX1_init_1 (wa 173 (by decide +kernel) (by decide +kernel)) oi_1.1 oi_1.2 ⟨by decide, by decide⟩ (Nat.le_of_ble_eq_true rfl) ?_
  refine k_aload_n C dX1_init_4 rfl 0 rfl ?_
  refine k_bipush C dX1_init_5 (v := 8) (by decide) ?_
  refine k_newa C (N := 8) dX1_init_7 (by decide) (by decide) (by decide) (by decide) ar_I (show Zf _ 39 from (Zf.up hz (by decide))) (by decide) ⟨by decide, by decide⟩ ?_
  refine k_putA C hin (ci := 1) (k := 0) dX1_init_9 (by decide) (by decide) (by decide) rfl in_X1 tyX1 tyX1_ok nmX1 (by decide) (wa 174 (by decide +kernel) (by decide +kernel)) rfl rfl rfl (tyX1_ok 0 (by decide)) (fun _ => rfl) (fun _ => rfl) (by decide +kernel) (by decide) (fun _ _ _ _ => Nat.le_of_ble_eq_true rfl) (fun _ _ => rfl) ?_
  exact z_sub0 (k_vret C hr hk dX1_init_12)
set_option maxRecDepth 20000 in
set_option maxHeartbeats 4000000 in
theorem ci_37 {l : Launch} {g : Ga} {A : Nat → Prop} {B : Nat} (hB : Bok g A B) (z : St) (hz : Zf z 38) : CK l g A B yX0_init cX0_init 1 { frames := 1, cells := 0, slots := 0, locals := 20 } [.ref (g.1 37)] z 38 24 z 38 24 0 0 := by
  refine e_CK hB (by decide) (by decide) rfl (fun p e s m args below meth c C hin hr hk => ?_)
  refine k_aload_n C dX0_init_0 rfl 0 rfl ?_
  refine k_objInit C (st := []) dX0_init_1 (wa 142 (by decide +kernel) (by decide +kernel)) oi_1.1 oi_1.2 ⟨by decide, by decide⟩ (Nat.le_of_ble_eq_true rfl) ?_
  exact z_sub0 (k_vret C hr hk dX0_init_4)
set_option maxRecDepth 20000 in
set_option maxHeartbeats 4000000 in
theorem ci_33 {l : Launch} {g : Ga} {A : Nat → Prop} {B : Nat} (hB : Bok g A B) (z : St) (hz : Zf z 34) : CK l g A B yX3_init cX3_init 1 { frames := 1, cells := 3, slots := 24, locals := 20 } [.ref (g.1 33)] z 34 20 z 37 23 3 24 := by
  refine e_CK hB (by decide) (by decide) rfl (fun p e s m args below meth c C hin hr hk => ?_)
  refine k_aload_n C dX3_init_0 rfl 0 rfl ?_
  refine k_objInit C (st := []) dX3_init_1 (wa 104 (by decide +kernel) (by decide +kernel)) oi_1.1 oi_1.2 ⟨by decide, by decide⟩ (Nat.le_of_ble_eq_true rfl) ?_
  refine k_aload_n C dX3_init_4 rfl 0 rfl ?_
  refine k_bipush C dX3_init_5 (v := 8) (by decide) ?_
  refine k_newa C (N := 8) dX3_init_7 (by decide) (by decide) (by decide) (by decide) ar_I (show Zf _ 34 from (Zf.up hz (by decide))) (by decide) ⟨by decide, by decide⟩ ?_
  refine k_putA C hin (ci := 3) (k := 0) dX3_init_9 (by decide) (by decide) (by decide) rfl in_X3 tyX3 tyX3_ok nmX3 (by decide) (wa 105 (by decide +kernel) (by decide +kernel)) rfl rfl rfl (tyX3_ok 0 (by decide)) (fun _ => rfl) (fun _ => rfl) (by decide +kernel) (by decide) (fun _ _ _ _ => Nat.le_of_ble_eq_true rfl) (fun _ _ => rfl) ?_
  refine k_aload_n C dX3_init_12 rfl 0 rfl ?_
  refine k_bipush C dX3_init_13 (v := 8) (by decide) ?_
  refine k_newa C (N := 8) dX3_init_15 (by decide) (by decide) (by decide) (by decide) ar_I (show Zf _ 35 from (Zf.up hz (by decide))) (by decide) ⟨by decide, by decide⟩ ?_
  refine k_putA C hin (ci := 3) (k := 1) dX3_init_17 (by decide) (by decide) (by decide) rfl in_X3 tyX3 tyX3_ok nmX3 (by decide) (wa 106 (by decide +kernel) (by decide +kernel)) rfl rfl rfl (tyX3_ok 1 (by decide)) (fun _ => rfl) (fun _ => rfl) (by decide +kernel) (by decide) (fun _ _ _ _ => Nat.le_of_ble_eq_true rfl) (fun _ _ => rfl) ?_
  refine k_aload_n C dX3_init_20 rfl 0 rfl ?_
  refine k_bipush C dX3_init_21 (v := 8) (by decide) ?_
  refine k_newa C (N := 8) dX3_init_23 (by decide) (by decide) (by decide) (by decide) ar_I (show Zf _ 36 from (Zf.up hz (by decide))) (by decide) ⟨by decide, by decide⟩ ?_
  refine k_putA C hin (ci := 3) (k := 2) dX3_init_25 (by decide) (by decide) (by decide) rfl in_X3 tyX3 tyX3_ok nmX3 (by decide) (wa 107 (by decide +kernel) (by decide +kernel)) rfl rfl rfl (tyX3_ok 2 (by decide)) (fun _ => rfl) (fun _ => rfl) (by decide +kernel) (by decide) (fun _ _ _ _ => Nat.le_of_ble_eq_true rfl) (fun _ _ => rfl) ?_
  exact z_sub0 (k_vret C hr hk dX3_init_28)
set_option maxRecDepth 20000 in
set_option maxHeartbeats 4000000 in
theorem ci_29 {l : Launch} {g : Ga} {A : Nat → Prop} {B : Nat} (hB : Bok g A B) (z : St) (hz : Zf z 30) : CK l g A B yX3_init cX3_init 1 { frames := 1, cells := 3, slots := 24, locals := 20 } [.ref (g.1 29)] z 30 16 z 33 19 3 24 := by
  refine e_CK hB (by decide) (by decide) rfl (fun p e s m args below meth c C hin hr hk => ?_)
  refine k_aload_n C dX3_init_0 rfl 0 rfl ?_
  refine k_objInit C (st := []) dX3_init_1 (wa 104 (by decide +kernel) (by decide +kernel)) oi_1.1 oi_1.2 ⟨by decide, by decide⟩ (Nat.le_of_ble_eq_true rfl) ?_
  refine k_aload_n C dX3_init_4 rfl 0 rfl ?_
  refine k_bipush C dX3_init_5 (v := 8) (by decide) ?_
  refine k_newa C (N := 8) dX3_init_7 (by decide) (by decide) (by decide) (by decide) ar_I (show Zf _ 30 from (Zf.up hz (by decide))) (by decide) ⟨by decide, by decide⟩ ?_
  refine k_putA C hin (ci := 3) (k := 0) dX3_init_9 (by decide) (by decide) (by decide) rfl in_X3 tyX3 tyX3_ok nmX3 (by decide) (wa 105 (by decide +kernel) (by decide +kernel)) rfl rfl rfl (tyX3_ok 0 (by decide)) (fun _ => rfl) (fun _ => rfl) (by decide +kernel) (by decide) (fun _ _ _ _ => Nat.le_of_ble_eq_true rfl) (fun _ _ => rfl) ?_
  refine k_aload_n C dX3_init_12 rfl 0 rfl ?_
  refine k_bipush C dX3_init_13 (v := 8) (by decide) ?_
  refine k_newa C (N := 8) dX3_init_15 (by decide) (by decide) (by decide) (by decide) ar_I (show Zf _ 31 from (Zf.up hz (by decide))) (by decide) ⟨by decide, by decide⟩ ?_
  refine k_putA C hin (ci := 3) (k := 1) dX3_init_17 (by decide) (by decide) (by decide) rfl in_X3 tyX3 tyX3_ok nmX3 (by decide) (wa 106 (by decide +kernel) (by decide +kernel)) rfl rfl rfl (tyX3_ok 1 (by decide)) (fun _ => rfl) (fun _ => rfl) (by decide +kernel) (by decide) (fun _ _ _ _ => Nat.le_of_ble_eq_true rfl) (fun _ _ => rfl) ?_
  refine k_aload_n C dX3_init_20 rfl 0 rfl ?_
  refine k_bipush C dX3_init_21 (v := 8) (by decide) ?_
  refine k_newa C (N := 8) dX3_init_23 (by decide) (by decide) (by decide) (by decide) ar_I (show Zf _ 32 from (Zf.up hz (by decide))) (by decide) ⟨by decide, by decide⟩ ?_
  refine k_putA C hin (ci := 3) (k := 2) dX3_init_25 (by decide) (by decide) (by decide) rfl in_X3 tyX3 tyX3_ok nmX3 (by decide) (wa 107 (by decide +kernel) (by decide +kernel)) rfl rfl rfl (tyX3_ok 2 (by decide)) (fun _ => rfl) (fun _ => rfl) (by decide +kernel) (by decide) (fun _ _ _ _ => Nat.le_of_ble_eq_true rfl) (fun _ _ => rfl) ?_
  exact z_sub0 (k_vret C hr hk dX3_init_28)
set_option maxRecDepth 20000 in
set_option maxHeartbeats 4000000 in
theorem ci_25 {l : Launch} {g : Ga} {A : Nat → Prop} {B : Nat} (hB : Bok g A B) (z : St) (hz : Zf z 26) : CK l g A B yX4_init cX4_init 1 { frames := 1, cells := 3, slots := 24, locals := 20 } [.ref (g.1 25)] z 26 12 z 29 15 3 24 := by
  refine e_CK hB (by decide) (by decide) rfl (fun p e s m args below meth c C hin hr hk => ?_)
  refine k_aload_n C dX4_init_0 rfl 0 rfl ?_
  refine k_objInit C (st := []) dX4_init_1 (wa 83 (by decide +kernel) (by decide +kernel)) oi_1.1 oi_1.2 ⟨by decide, by decide⟩ (Nat.le_of_ble_eq_true rfl) ?_
  refine k_aload_n C dX4_init_4 rfl 0 rfl ?_
  refine k_bipush C dX4_init_5 (v := 8) (by decide) ?_
  refine k_newa C (N := 8) dX4_init_7 (by decide) (by decide) (by decide) (by decide) ar_I (show Zf _ 26 from (Zf.up hz (by decide))) (by decide) ⟨by decide, by decide⟩ ?_
  refine k_putA C hin (ci := 4) (k := 0) dX4_init_9 (by decide) (by decide) (by decide) rfl in_X4 tyX4 tyX4_ok nmX4 (by decide) (wa 84 (by decide +kernel) (by decide +kernel)) rfl rfl rfl (tyX4_ok 0 (by decide)) (fun _ => rfl) (fun _ => rfl) (by decide +kernel) (by decide) (fun _ _ _ _ => Nat.le_of_ble_eq_true rfl) (fun _ _ => rfl) ?_
  refine k_aload_n C dX4_init_12 rfl 0 rfl ?_
  refine k_bipush C dX4_init_13 (v := 8) (by decide) ?_
  refine k_newa C (N := 8) dX4_init_15 (by decide) (by decide) (by decide) (by decide) ar_I (show Zf _ 27 from (Zf.up hz (by decide))) (by decide) ⟨by decide, by decide⟩ ?_
  refine k_putA C hin (ci := 4) (k := 1) dX4_init_17 (by decide) (by decide) (by decide) rfl in_X4 tyX4 tyX4_ok nmX4 (by decide) (wa 85 (by decide +kernel) (by decide +kernel)) rfl rfl rfl (tyX4_ok 1 (by decide)) (fun _ => rfl) (fun _ => rfl) (by decide +kernel) (by decide) (fun _ _ _ _ => Nat.le_of_ble_eq_true rfl) (fun _ _ => rfl) ?_
  refine k_aload_n C dX4_init_20 rfl 0 rfl ?_
  refine k_bipush C dX4_init_21 (v := 8) (by decide) ?_
  refine k_newa C (N := 8) dX4_init_23 (by decide) (by decide) (by decide) (by decide) ar_I (show Zf _ 28 from (Zf.up hz (by decide))) (by decide) ⟨by decide, by decide⟩ ?_
  refine k_putA C hin (ci := 4) (k := 2) dX4_init_25 (by decide) (by decide) (by decide) rfl in_X4 tyX4 tyX4_ok nmX4 (by decide) (wa 86 (by decide +kernel) (by decide +kernel)) rfl rfl rfl (tyX4_ok 2 (by decide)) (fun _ => rfl) (fun _ => rfl) (by decide +kernel) (by decide) (fun _ _ _ _ => Nat.le_of_ble_eq_true rfl) (fun _ _ => rfl) ?_
  exact z_sub0 (k_vret C hr hk dX4_init_28)
set_option maxRecDepth 20000 in
set_option maxHeartbeats 4000000 in
theorem ci_21 {l : Launch} {g : Ga} {A : Nat → Prop} {B : Nat} (hB : Bok g A B) (z : St) (hz : Zf z 22) : CK l g A B yX4_init cX4_init 1 { frames := 1, cells := 3, slots := 24, locals := 20 } [.ref (g.1 21)] z 22 8 z 25 11 3 24 := by
  refine e_CK hB (by decide) (by decide) rfl (fun p e s m args below meth c C hin hr hk => ?_)
  refine k_aload_n C dX4_init_0 rfl 0 rfl ?_
  refine k_objInit C (st := []) dX4_init_1 (wa 83 (by decide +kernel) (by decide +kernel)) oi_1.1 oi_1.2 ⟨by decide, by decide⟩ (Nat.le_of_ble_eq_true rfl) ?_
  refine k_aload_n C dX4_init_4 rfl 0 rfl ?_
  refine k_bipush C dX4_init_5 (v := 8) (by decide) ?_
  refine k_newa C (N := 8) dX4_init_7 (by decide) (by decide) (by decide) (by decide) ar_I (show Zf _ 22 from (Zf.up hz (by decide))) (by decide) ⟨by decide, by decide⟩ ?_
  refine k_putA C hin (ci := 4) (k := 0) dX4_init_9 (by decide) (by decide) (by decide) rfl in_X4 tyX4 tyX4_ok nmX4 (by decide) (wa 84 (by decide +kernel) (by decide +kernel)) rfl rfl rfl (tyX4_ok 0 (by decide)) (fun _ => rfl) (fun _ => rfl) (by decide +kernel) (by decide) (fun _ _ _ _ => Nat.le_of_ble_eq_true rfl) (fun _ _ => rfl) ?_
  refine k_aload_n C dX4_init_12 rfl 0 rfl ?_
  refine k_bipush C dX4_init_13 (v := 8) (by decide) ?_
  refine k_newa C (N := 8) dX4_init_15 (by decide) (by decide) (by decide) (by decide) ar_I (show Zf _ 23 from (Zf.up hz (by decide))) (by decide) ⟨by decide, by decide⟩ ?_
  refine k_putA C hin (ci := 4) (k := 1) dX4_init_17 (by decide) (by decide) (by decide) rfl in_X4 tyX4 tyX4_ok nmX4 (by decide) (wa 85 (by decide +kernel) (by decide +kernel)) rfl rfl rfl (tyX4_ok 1 (by decide)) (fun _ => rfl) (fun _ => rfl) (by decide +kernel) (by decide) (fun _ _ _ _ => Nat.le_of_ble_eq_true rfl) (fun _ _ => rfl) ?_
  refine k_aload_n C dX4_init_20 rfl 0 rfl ?_
  refine k_bipush C dX4_init_21 (v := 8) (by decide) ?_
  refine k_newa C (N := 8) dX4_init_23 (by decide) (by decide) (by decide) (by decide) ar_I (show Zf _ 24 from (Zf.up hz (by decide))) (by decide) ⟨by decide, by decide⟩ ?_
  refine k_putA C hin (ci := 4) (k := 2) dX4_init_25 (by decide) (by decide) (by decide) rfl in_X4 tyX4 tyX4_ok nmX4 (by decide) (wa 86 (by decide +kernel) (by decide +kernel)) rfl rfl rfl (tyX4_ok 2 (by decide)) (fun _ => rfl) (fun _ => rfl) (by decide +kernel) (by decide) (fun _ _ _ _ => Nat.le_of_ble_eq_true rfl) (fun _ _ => rfl) ?_
  exact z_sub0 (k_vret C hr hk dX4_init_28)
set_option maxRecDepth 20000 in
set_option maxHeartbeats 4000000 in
theorem ci_19 {l : Launch} {g : Ga} {A : Nat → Prop} {B : Nat} (hB : Bok g A B) (z : St) (hz : Zf z 20) : CK l g A B yX8_init cX8_init 1 { frames := 1, cells := 1, slots := 60, locals := 20 } [.ref (g.1 19)] z 20 6 z 21 7 1 60 := by
  refine e_CK hB (by decide) (by decide) rfl (fun p e s m args below meth c C hin hr hk => ?_)
  refine k_aload_n C dX8_init_0 rfl 0 rfl ?_
  refine k_objInit C (st := []) dX8_init_1 (wa 66 (by decide +kernel) (by decide +kernel)) oi_1.1 oi_1.2 ⟨by decide, by decide⟩ (Nat.le_of_ble_eq_true rfl) ?_
  refine k_aload_n C dX8_init_4 rfl 0 rfl ?_
  refine k_bipush C dX8_init_5 (v := 60) (by decide) ?_
  refine k_newa C (N := 60) dX8_init_7 (by decide) (by decide) (by decide) (by decide) ar_I (show Zf _ 20 from (Zf.up hz (by decide))) (by decide) ⟨by decide, by decide⟩ ?_
  refine k_putA C hin (ci := 8) (k := 0) dX8_init_9 (by decide) (by decide) (by decide) rfl in_X8 tyX8 tyX8_ok nmX8 (by decide) (wa 67 (by decide +kernel) (by decide +kernel)) rfl rfl rfl (tyX8_ok 0 (by decide)) (fun _ => rfl) (fun _ => rfl) (by decide +kernel) (by decide) (fun _ _ _ _ => Nat.le_of_ble_eq_true rfl) (fun _ _ => rfl) ?_
  exact z_sub0 (k_vret C hr hk dX8_init_12)
set_option maxRecDepth 20000 in
set_option maxHeartbeats 4000000 in
theorem ci_13 {l : Launch} {g : Ga} {A : Nat → Prop} {B : Nat} (hB : Bok g A B) (z : St) (hz : Zf z 14) : CK l g A B yX2_init cX2_init 1 { frames := 1, cells := 5, slots := 36, locals := 20 } [.ref (g.1 13)] z 14 4 z 19 5 5 36 := by
  refine e_CK hB (by decide) (by decide) rfl (fun p e s m args below meth c C hin hr hk => ?_)
  refine k_aload_n C dX2_init_0 rfl 0 rfl ?_
  refine k_objInit C (st := []) dX2_init_1 (wa 48 (by decide +kernel) (by decide +kernel)) oi_1.1 oi_1.2 ⟨by decide, by decide⟩ (Nat.le_of_ble_eq_true rfl) ?_
  refine k_aload_n C dX2_init_4 rfl 0 rfl ?_
  refine k_iconst C dX2_init_5 (v := 4) (by decide) ?_
  refine k_bipush C dX2_init_6 (v := 8) (by decide) ?_
  refine k_mna C dX2_init_8 (by decide) (by decide) cm_X2_9 ar_I (show Zf _ 14 from (Zf.up hz (by decide))) (by decide) ⟨by decide, by decide⟩ ?_
  refine k_putA C hin (ci := 2) (k := 0) dX2_init_12 (by decide) (by decide) (by decide) rfl in_X2 tyX2 tyX2_ok nmX2 (by decide) (wa 51 (by decide +kernel) (by decide +kernel)) rfl rfl rfl (tyX2_ok 0 (by decide)) (fun _ => rfl) (fun _ => rfl) (by decide +kernel) (by decide) (fun _ _ _ _ => Nat.le_of_ble_eq_true rfl) (fun _ _ => rfl) ?_
  exact z_sub0 (k_vret C hr hk dX2_init_15)
set_option maxRecDepth 20000 in
set_option maxHeartbeats 4000000 in
theorem ci_7 {l : Launch} {g : Ga} {A : Nat → Prop} {B : Nat} (hB : Bok g A B) (z : St) (hz : Zf z 8) : CK l g A B yX2_init cX2_init 1 { frames := 1, cells := 5, slots := 36, locals := 20 } [.ref (g.1 7)] z 8 2 z 13 3 5 36 := by
  refine e_CK hB (by decide) (by decide) rfl (fun p e s m args below meth c C hin hr hk => ?_)
  refine k_aload_n C dX2_init_0 rfl 0 rfl ?_
  refine k_objInit C (st := []) dX2_init_1 (wa 48 (by decide +kernel) (by decide +kernel)) oi_1.1 oi_1.2 ⟨by decide, by decide⟩ (Nat.le_of_ble_eq_true rfl) ?_
  refine k_aload_n C dX2_init_4 rfl 0 rfl ?_
  refine k_iconst C dX2_init_5 (v := 4) (by decide) ?_
  refine k_bipush C dX2_init_6 (v := 8) (by decide) ?_
  refine k_mna C dX2_init_8 (by decide) (by decide) cm_X2_9 ar_I (show Zf _ 8 from (Zf.up hz (by decide))) (by decide) ⟨by decide, by decide⟩ ?_
  refine k_putA C hin (ci := 2) (k := 0) dX2_init_12 (by decide) (by decide) (by decide) rfl in_X2 tyX2 tyX2_ok nmX2 (by decide) (wa 51 (by decide +kernel) (by decide +kernel)) rfl rfl rfl (tyX2_ok 0 (by decide)) (fun _ => rfl) (fun _ => rfl) (by decide +kernel) (by decide) (fun _ _ _ _ => Nat.le_of_ble_eq_true rfl) (fun _ _ => rfl) ?_
  exact z_sub0 (k_vret C hr hk dX2_init_15)
set_option maxRecDepth 20000 in
set_option maxHeartbeats 4000000 in
theorem ci_1 {l : Launch} {g : Ga} {A : Nat → Prop} {B : Nat} (hB : Bok g A B) (z : St) (hz : Zf z 2) : CK l g A B yX2_init cX2_init 1 { frames := 1, cells := 5, slots := 36, locals := 20 } [.ref (g.1 1)] z 2 0 z 7 1 5 36 := by
  refine e_CK hB (by decide) (by decide) rfl (fun p e s m args below meth c C hin hr hk => ?_)
  refine k_aload_n C dX2_init_0 rfl 0 rfl ?_
  refine k_objInit C (st := []) dX2_init_1 (wa 48 (by decide +kernel) (by decide +kernel)) oi_1.1 oi_1.2 ⟨by decide, by decide⟩ (Nat.le_of_ble_eq_true rfl) ?_
  refine k_aload_n C dX2_init_4 rfl 0 rfl ?_
  refine k_iconst C dX2_init_5 (v := 4) (by decide) ?_
  refine k_bipush C dX2_init_6 (v := 8) (by decide) ?_
  refine k_mna C dX2_init_8 (by decide) (by decide) cm_X2_9 ar_I (show Zf _ 2 from (Zf.up hz (by decide))) (by decide) ⟨by decide, by decide⟩ ?_
  refine k_putA C hin (ci := 2) (k := 0) dX2_init_12 (by decide) (by decide) (by decide) rfl in_X2 tyX2 tyX2_ok nmX2 (by decide) (wa 51 (by decide +kernel) (by decide +kernel)) rfl rfl rfl (tyX2_ok 0 (by decide)) (fun _ => rfl) (fun _ => rfl) (by decide +kernel) (by decide) (fun _ _ _ _ => Nat.le_of_ble_eq_true rfl) (fun _ _ => rfl) ?_
  exact z_sub0 (k_vret C hr hk dX2_init_15)
set_option maxRecDepth 20000 in
set_option maxHeartbeats 4000000 in
theorem ci_0 {l : Launch} {g : Ga} {A : Nat → Prop} {B : Nat} (hB : Bok g A B) (z : St) (hz : Zf z 1) : CK l g A B yX10_init cX10_init 2 { frames := 3, cells := 67, slots := 8709, locals := 60 } [.ref (g.1 0)] z 1 0 ((zI ((zI ((zI ((zI ((zI z 57 2 (-1))) 60 1 (-1))) 62 1 (-1))) 64 1 (-1))) 66 1 (-1))) 68 55 67 8709 := by
  refine e_CK hB (by decide) (by decide) rfl (fun p e s m args below meth c C hin hr hk => ?_)
  refine k_aload_n C dX10_init_0 rfl 0 rfl ?_
  refine k_objInit C (st := []) dX10_init_1 (wa 40 (by decide +kernel) (by decide +kernel)) oi_1.1 oi_1.2 ⟨by decide, by decide⟩ (Nat.le_of_ble_eq_true rfl) ?_
  refine k_aload_n C dX10_init_4 rfl 0 rfl ?_
  refine k_new C dX10_init_5 (ci := 2) (by decide) (by decide) rfl in_X2 tyX2 tyX2_ok cn_X10_7.1 cn_X10_7.2.1 cn_X10_7.2.2 (show Zf _ 1 from (Zf.up hz (by decide))) (by decide +kernel) (fun a j hj => by rcases (show j = 0 ∨ j = 1 by omega) with rfl | rfl <;> rfl) (by decide) ⟨by decide, by decide⟩ ?_
  refine k_dup C dX10_init_8 rfl ?_
  refine k_callI C (st := [.ref (g.1 1), .ref (g.1 0)]) (ci_1 hB z (show Zf _ 2 from (Zf.up hz (by decide)))) mi_X2_init ml_X10_9 dX10_init_9 rfl rfl ⟨by decide, by decide⟩ (Nat.le_of_ble_eq_true rfl) (by decide) ⟨by decide, by decide⟩ ?_
  refine k_putA C hin (ci := 10) (k := 0) dX10_init_12 (by decide) (by decide) (by decide) rfl in_X10 tyX10 tyX10_ok nmX10 (by decide) (wa 312 (by decide +kernel) (by decide +kernel)) rfl rfl rfl (tyX10_ok 0 (by decide)) (fun _ => rfl) (fun _ => rfl) (by decide +kernel) (by decide) (fun _ _ _ _ => Nat.le_of_ble_eq_true rfl) (fun _ _ => rfl) ?_
  refine k_aload_n C dX10_init_15 rfl 0 rfl ?_
  refine k_new C dX10_init_16 (ci := 2) (by decide) (by decide) rfl in_X2 tyX2 tyX2_ok cn_X10_7.1 cn_X10_7.2.1 cn_X10_7.2.2 (show Zf _ 7 from (Zf.up hz (by decide))) (by decide +kernel) (fun a j hj => by rcases (show j = 0 ∨ j = 1 by omega) with rfl | rfl <;> rfl) (by decide) ⟨by decide, by decide⟩ ?_
  refine k_dup C dX10_init_19 rfl ?_
  refine k_callI C (st := [.ref (g.1 7), .ref (g.1 0)]) (ci_7 hB z (show Zf _ 8 from (Zf.up hz (by decide)))) mi_X2_init ml_X10_9 dX10_init_20 rfl rfl ⟨by decide, by decide⟩ (Nat.le_of_ble_eq_true rfl) (by decide) ⟨by decide, by decide⟩ ?_
  refine k_putA C hin (ci := 10) (k := 1) dX10_init_23 (by decide) (by decide) (by decide) rfl in_X10 tyX10 tyX10_ok nmX10 (by decide) (wa 313 (by decide +kernel) (by decide +kernel)) rfl rfl rfl (tyX10_ok 1 (by decide)) (fun _ => rfl) (fun _ => rfl) (by decide +kernel) (by decide) (fun _ _ _ _ => Nat.le_of_ble_eq_true rfl) (fun _ _ => rfl) ?_
  refine k_aload_n C dX10_init_26 rfl 0 rfl ?_
  refine k_new C dX10_init_27 (ci := 2) (by decide) (by decide) rfl in_X2 tyX2 tyX2_ok cn_X10_7.1 cn_X10_7.2.1 cn_X10_7.2.2 (show Zf _ 13 from (Zf.up hz (by decide))) (by decide +kernel) (fun a j hj => by rcases (show j = 0 ∨ j = 1 by omega) with rfl | rfl <;> rfl) (by decide) ⟨by decide, by decide⟩ ?_
  refine k_dup C dX10_init_30 rfl ?_
  refine k_callI C (st := [.ref (g.1 13), .ref (g.1 0)]) (ci_13 hB z (show Zf _ 14 from (Zf.up hz (by decide)))) mi_X2_init ml_X10_9 dX10_init_31 rfl rfl ⟨by decide, by decide⟩ (Nat.le_of_ble_eq_true rfl) (by decide) ⟨by decide, by decide⟩ ?_
  refine k_putA C hin (ci := 10) (k := 2) dX10_init_34 (by decide) (by decide) (by decide) rfl in_X10 tyX10 tyX10_ok nmX10 (by decide) (wa 314 (by decide +kernel) (by decide +kernel)) rfl rfl rfl (tyX10_ok 2 (by decide)) (fun _ => rfl) (fun _ => rfl) (by decide +kernel) (by decide) (fun _ _ _ _ => Nat.le_of_ble_eq_true rfl) (fun _ _ => rfl) ?_
  refine k_aload_n C dX10_init_37 rfl 0 rfl ?_
  refine k_new C dX10_init_38 (ci := 8) (by decide) (by decide) rfl in_X8 tyX8 tyX8_ok cn_X10_22.1 cn_X10_22.2.1 cn_X10_22.2.2 (show Zf _ 19 from (Zf.up hz (by decide))) (by decide +kernel) (fun a j hj => by rcases (show j = 0 ∨ j = 1 ∨ j = 2 by omega) with rfl | rfl | rfl <;> rfl) (by decide) ⟨by decide, by decide⟩ ?_
  refine k_dup C dX10_init_41 rfl ?_
  refine k_callI C (st := [.ref (g.1 19), .ref (g.1 0)]) (ci_19 hB z (show Zf _ 20 from (Zf.up hz (by decide)))) mi_X8_init ml_X10_24 dX10_init_42 rfl rfl ⟨by decide, by decide⟩ (Nat.le_of_ble_eq_true rfl) (by decide) ⟨by decide, by decide⟩ ?_
  refine k_putA C hin (ci := 10) (k := 3) dX10_init_45 (by decide) (by decide) (by decide) rfl in_X10 tyX10 tyX10_ok nmX10 (by decide) (wa 315 (by decide +kernel) (by decide +kernel)) rfl rfl rfl (tyX10_ok 3 (by decide)) (fun _ => rfl) (fun _ => rfl) (by decide +kernel) (by decide) (fun _ _ _ _ => Nat.le_of_ble_eq_true rfl) (fun _ _ => rfl) ?_
  refine k_aload_n C dX10_init_48 rfl 0 rfl ?_
  refine k_new C dX10_init_49 (ci := 4) (by decide) (by decide) rfl in_X4 tyX4 tyX4_ok cn_X10_29.1 cn_X10_29.2.1 cn_X10_29.2.2 (show Zf _ 21 from (Zf.up hz (by decide))) (by decide +kernel) (fun a j hj => by rcases (show j = 0 ∨ j = 1 ∨ j = 2 ∨ j = 3 by omega) with rfl | rfl | rfl | rfl <;> rfl) (by decide) ⟨by decide, by decide⟩ ?_
  refine k_dup C dX10_init_52 rfl ?_
  refine k_callI C (st := [.ref (g.1 21), .ref (g.1 0)]) (ci_21 hB z (show Zf _ 22 from (Zf.up hz (by decide)))) mi_X4_init ml_X10_31 dX10_init_53 rfl rfl ⟨by decide, by decide⟩ (Nat.le_of_ble_eq_true rfl) (by decide) ⟨by decide, by decide⟩ ?_
  refine k_putA C hin (ci := 10) (k := 4) dX10_init_56 (by decide) (by decide) (by decide) rfl in_X10 tyX10 tyX10_ok nmX10 (by decide) (wa 316 (by decide +kernel) (by decide +kernel)) rfl rfl rfl (tyX10_ok 4 (by decide)) (fun _ => rfl) (fun _ => rfl) (by decide +kernel) (by decide) (fun _ _ _ _ => Nat.le_of_ble_eq_true rfl) (fun _ _ => rfl) ?_
  refine k_aload_n C dX10_init_59 rfl 0 rfl ?_
  refine k_new C dX10_init_60 (ci := 4) (by decide) (by decide) rfl in_X4 tyX4 tyX4_ok cn_X10_29.1 cn_X10_29.2.1 cn_X10_29.2.2 (show Zf _ 25 from (Zf.up hz (by decide))) (by decide +kernel) (fun a j hj => by rcases (show j = 0 ∨ j = 1 ∨ j = 2 ∨ j = 3 by omega) with rfl | rfl | rfl | rfl <;> rfl) (by decide) ⟨by decide, by decide⟩ ?_
  refine k_dup C dX10_init_63 rfl ?_
  refine k_callI C (st := [.ref (g.1 25), .ref (g.1 0)]) (ci_25 hB z (show Zf _ 26 from (Zf.up hz (by decide)))) mi_X4_init ml_X10_31 dX10_init_64 rfl rfl ⟨by decide, by decide⟩ (Nat.le_of_ble_eq_true rfl) (by decide) ⟨by decide, by decide⟩ ?_
  refine k_putA C hin (ci := 10) (k := 5) dX10_init_67 (by decide) (by decide) (by decide) rfl in_X10 tyX10 tyX10_ok nmX10 (by decide) (wa 317 (by decide +kernel) (by decide +kernel)) rfl rfl rfl (tyX10_ok 5 (by decide)) (fun _ => rfl) (fun _ => rfl) (by decide +kernel) (by decide) (fun _ _ _ _ => Nat.le_of_ble_eq_true rfl) (fun _ _ => rfl) ?_
  refine k_aload_n C dX10_init_70 rfl 0 rfl ?_
  refine k_new C dX10_init_71 (ci := 3) (by decide) (by decide) rfl in_X3 tyX3 tyX3_ok cn_X10_39.1 cn_X10_39.2.1 cn_X10_39.2.2 (show Zf _ 29 from (Zf.up hz (by decide))) (by decide +kernel) (fun a j hj => by rcases (show j = 0 ∨ j = 1 ∨ j = 2 ∨ j = 3 ∨ j = 4 ∨ j = 5 ∨ j = 6 ∨ j = 7 by omega) with rfl | rfl | rfl | rfl | rfl | rfl | rfl | rfl <;> rfl) (by decide) ⟨by decide, by decide⟩ ?_
  refine k_dup C dX10_init_74 rfl ?_
  refine k_callI C (st := [.ref (g.1 29), .ref (g.1 0)]) (ci_29 hB z (show Zf _ 30 from (Zf.up hz (by decide)))) mi_X3_init ml_X10_41 dX10_init_75 rfl rfl ⟨by decide, by decide⟩ (Nat.le_of_ble_eq_true rfl) (by decide) ⟨by decide, by decide⟩ ?_
  refine k_putA C hin (ci := 10) (k := 6) dX10_init_78 (by decide) (by decide) (by decide) rfl in_X10 tyX10 tyX10_ok nmX10 (by decide) (wa 318 (by decide +kernel) (by decide +kernel)) rfl rfl rfl (tyX10_ok 6 (by decide)) (fun _ => rfl) (fun _ => rfl) (by decide +kernel) (by decide) (fun _ _ _ _ => Nat.le_of_ble_eq_true rfl) (fun _ _ => rfl) ?_
  refine k_aload_n C dX10_init_81 rfl 0 rfl ?_
  refine k_new C dX10_init_82 (ci := 3) (by decide) (by decide) rfl in_X3 tyX3 tyX3_ok cn_X10_39.1 cn_X10_39.2.1 cn_X10_39.2.2 (show Zf _ 33 from (Zf.up hz (by decide))) (by decide +kernel) (fun a j hj => by rcases (show j = 0 ∨ j = 1 ∨ j = 2 ∨ j = 3 ∨ j = 4 ∨ j = 5 ∨ j = 6 ∨ j = 7 by omega) with rfl | rfl | rfl | rfl | rfl | rfl | rfl | rfl <;> rfl) (by decide) ⟨by decide, by decide⟩ ?_
  refine k_dup C dX10_init_85 rfl ?_
  refine k_callI C (st := [.ref (g.1 33), .ref (g.1 0)]) (ci_33 hB z (show Zf _ 34 from (Zf.up hz (by decide)))) mi_X3_init ml_X10_41 dX10_init_86 rfl rfl ⟨by decide, by decide⟩ (Nat.le_of_ble_eq_true rfl) (by decide) ⟨by decide, by decide⟩ ?_
  refine k_putA C hin (ci := 10) (k := 7) dX10_init_89 (by decide) (by decide) (by decide) rfl in_X10 tyX10 tyX10_ok nmX10 (by decide) (wa 319 (by decide +kernel) (by decide +kernel)) rfl rfl rfl (tyX10_ok 7 (by decide)) (fun _ => rfl) (fun _ => rfl) (by decide +kernel) (by decide) (fun _ _ _ _ => Nat.le_of_ble_eq_true rfl) (fun _ _ => rfl) ?_
  refine k_aload_n C dX10_init_92 rfl 0 rfl ?_
  refine k_new C dX10_init_93 (ci := 0) (by decide) (by decide) rfl in_X0 tyX0 tyX0_ok cn_X10_49.1 cn_X10_49.2.1 cn_X10_49.2.2 (show Zf _ 37 from (Zf.up hz (by decide))) (by decide +kernel) (fun a j hj => by rcases (show j = 0 ∨ j = 1 ∨ j = 2 ∨ j = 3 ∨ j = 4 ∨ j = 5 ∨ j = 6 by omega) with rfl | rfl | rfl | rfl | rfl | rfl | rfl <;> rfl) (by decide) ⟨by decide, by decide⟩ ?_
  refine k_dup C dX10_init_96 rfl ?_
  refine k_callIN C (st := [.ref (g.1 37), .ref (g.1 0)]) (ci_37 hB z (show Zf _ 38 from (Zf.up hz (by decide)))) mi_X0_init ml_X10_51 dX10_init_97 rfl rfl ⟨by decide, by decide⟩ (Nat.le_of_ble_eq_true rfl) (by decide) ⟨by decide, by decide⟩ ?_
  refine k_putA C hin (ci := 10) (k := 8) dX10_init_100 (by decide) (by decide) (by decide) rfl in_X10 tyX10 tyX10_ok nmX10 (by decide) (wa 320 (by decide +kernel) (by decide +kernel)) rfl rfl rfl (tyX10_ok 8 (by decide)) (fun _ => rfl) (fun _ => rfl) (by decide +kernel) (by decide) (fun _ _ _ _ => Nat.le_of_ble_eq_true rfl) (fun _ _ => rfl) ?_
  refine k_aload_n C dX10_init_103 rfl 0 rfl ?_
  refine k_new C dX10_init_104 (ci := 1) (by decide) (by decide) rfl in_X1 tyX1 tyX1_ok cn_X10_56.1 cn_X10_56.2.1 cn_X10_56.2.2 (show Zf _ 38 from (Zf.up hz (by decide))) (by decide +kernel) (fun a j hj => by rcases (show j = 0 ∨ j = 1 ∨ j = 2 by omega) with rfl | rfl | rfl <;> rfl) (by decide) ⟨by decide, by decide⟩ ?_
  refine k_dup C dX10_init_107 rfl ?_
  refine k_callI C (st := [.ref (g.1 38), .ref (g.1 0)]) (ci_38 hB z (show Zf _ 39 from (Zf.up hz (by decide)))) mi_X1_init ml_X10_58 dX10_init_108 rfl rfl ⟨by decide, by decide⟩ (Nat.le_of_ble_eq_true rfl) (by decide) ⟨by decide, by decide⟩ ?_
  refine k_putA C hin (ci := 10) (k := 9) dX10_init_111 (by decide) (by decide) (by decide) rfl in_X10 tyX10 tyX10_ok nmX10 (by decide) (wa 321 (by decide +kernel) (by decide +kernel)) rfl rfl rfl (tyX10_ok 9 (by decide)) (fun _ => rfl) (fun _ => rfl) (by decide +kernel) (by decide) (fun _ _ _ _ => Nat.le_of_ble_eq_true rfl) (fun _ _ => rfl) ?_
  refine k_aload_n C dX10_init_114 rfl 0 rfl ?_
  refine k_new C dX10_init_115 (ci := 6) (by decide) (by decide) rfl in_X6 tyX6 tyX6_ok cn_X10_63.1 cn_X10_63.2.1 cn_X10_63.2.2 (show Zf _ 40 from (Zf.up hz (by decide))) (by decide +kernel) (fun a j hj => by rcases (show j = 0 ∨ j = 1 ∨ j = 2 ∨ j = 3 ∨ j = 4 ∨ j = 5 ∨ j = 6 ∨ j = 7 ∨ j = 8 ∨ j = 9 ∨ j = 10 by omega) with rfl | rfl | rfl | rfl | rfl | rfl | rfl | rfl | rfl | rfl | rfl <;> rfl) (by decide) ⟨by decide, by decide⟩ ?_
  refine k_dup C dX10_init_118 rfl ?_
  refine k_callI C (st := [.ref (g.1 40), .ref (g.1 0)]) (ci_40 hB z (show Zf _ 41 from (Zf.up hz (by decide)))) mi_X6_init ml_X10_65 dX10_init_119 rfl rfl ⟨by decide, by decide⟩ (Nat.le_of_ble_eq_true rfl) (by decide) ⟨by decide, by decide⟩ ?_
  refine k_putA C hin (ci := 10) (k := 10) dX10_init_122 (by decide) (by decide) (by decide) rfl in_X10 tyX10 tyX10_ok nmX10 (by decide) (wa 322 (by decide +kernel) (by decide +kernel)) rfl rfl rfl (tyX10_ok 10 (by decide)) (fun _ => rfl) (fun _ => rfl) (by decide +kernel) (by decide) (fun _ _ _ _ => Nat.le_of_ble_eq_true rfl) (fun _ _ => rfl) ?_
  refine k_aload_n C dX10_init_125 rfl 0 rfl ?_
  refine k_new C dX10_init_126 (ci := 5) (by decide) (by decide) rfl in_X5 tyX5 tyX5_ok cn_X10_70.1 cn_X10_70.2.1 cn_X10_70.2.2 (show Zf _ 52 from (Zf.up hz (by decide))) (by decide +kernel) (fun a j hj => by rcases (show j = 0 ∨ j = 1 ∨ j = 2 ∨ j = 3 ∨ j = 4 ∨ j = 5 by omega) with rfl | rfl | rfl | rfl | rfl | rfl <;> rfl) (by decide) ⟨by decide, by decide⟩ ?_
  refine k_dup C dX10_init_129 rfl ?_
  refine k_callI C (st := [.ref (g.1 52), .ref (g.1 0)]) (ci_52 hB z (show Zf _ 53 from (Zf.up hz (by decide)))) mi_X5_init ml_X10_72 dX10_init_130 rfl rfl ⟨by decide, by decide⟩ (Nat.le_of_ble_eq_true rfl) (by decide) ⟨by decide, by decide⟩ ?_
  refine k_putA C hin (ci := 10) (k := 11) dX10_init_133 (by decide) (by decide) (by decide) rfl in_X10 tyX10 tyX10_ok nmX10 (by decide) (wa 323 (by decide +kernel) (by decide +kernel)) rfl rfl rfl (tyX10_ok 11 (by decide)) (fun _ => rfl) (fun _ => rfl) (by decide +kernel) (by decide) (fun _ _ _ _ => Nat.le_of_ble_eq_true rfl) (fun _ _ => rfl) ?_
  refine k_aload_n C dX10_init_136 rfl 0 rfl ?_
  refine k_new C dX10_init_137 (ci := 9) (by decide) (by decide) rfl in_X9 tyX9 tyX9_ok cn_X10_77.1 cn_X10_77.2.1 cn_X10_77.2.2 (show Zf _ 57 from (Zf.up hz (by decide))) (by decide +kernel) (fun a j hj => by rcases (show j = 0 ∨ j = 1 ∨ j = 2 ∨ j = 3 ∨ j = 4 ∨ j = 5 ∨ j = 6 by omega) with rfl | rfl | rfl | rfl | rfl | rfl | rfl <;> rfl) (by decide) ⟨by decide, by decide⟩ ?_
  refine k_dup C dX10_init_140 rfl ?_
  refine k_callI C (st := [.ref (g.1 57), .ref (g.1 0)]) (ci_57 hB z (show Zf _ 58 from (Zf.up hz (by decide)))) mi_X9_init ml_X10_79 dX10_init_141 rfl rfl ⟨by decide, by decide⟩ (Nat.le_of_ble_eq_true rfl) (by decide) ⟨by decide, by decide⟩ ?_
  refine k_putA C hin (ci := 10) (k := 12) dX10_init_144 (by decide) (by decide) (by decide) rfl in_X10 tyX10 tyX10_ok nmX10 (by decide) (wa 324 (by decide +kernel) (by decide +kernel)) rfl rfl rfl (tyX10_ok 12 (by decide)) (fun _ => rfl) (fun _ => rfl) (by decide +kernel) (by decide) (fun _ _ _ _ => Nat.le_of_ble_eq_true rfl) (fun _ _ => rfl) ?_
  refine k_aload_n C dX10_init_147 rfl 0 rfl ?_
  refine k_iconst C dX10_init_148 (v := 4) (by decide) ?_
  refine k_anew C dX10_init_149 (by decide) (by decide) (by decide) cs_X10_84 (by decide +kernel) (by decide) ⟨by decide, by decide⟩ ?_
  refine k_putA C hin (ci := 10) (k := 13) dX10_init_152 (by decide) (by decide) (by decide) rfl in_X10 tyX10 tyX10_ok nmX10 (by decide) (wa 325 (by decide +kernel) (by decide +kernel)) rfl rfl rfl (tyX10_ok 13 (by decide)) (fun _ => rfl) (fun _ => rfl) (by decide +kernel) (by decide) (fun _ _ _ _ => Nat.le_of_ble_eq_true rfl) (fun _ _ => rfl) ?_
  refine k_iconst C dX10_init_155 (v := 0) (by decide) ?_
  refine k_istore_n C (lv2 := [(1, .int 0), (0, .ref (g.1 0))]) dX10_init_156 rfl (by decide) rfl ?_
  refine k_iload_n C dX10_init_157 rfl 0 rfl ?_
  refine k_aload_n C dX10_init_158 rfl 1 rfl ?_
  refine k_getA C (ci := 10) (v := 59) (k := 13) dX10_init_159 (by decide) (by decide) (by decide) rfl in_X10 (by decide) (wa 325 (by decide +kernel) (by decide +kernel)) rfl (fun _ => rfl) ?_
  refine k_alenS C dX10_init_162 (by decide) (by decide) ?_
  refine k_geF C (tgt := 185) dX10_init_163 (by decide) (by decide) ?_
  refine k_aload_n C dX10_init_166 rfl 1 rfl ?_
  refine k_getA C (ci := 10) (v := 59) (k := 13) dX10_init_167 (by decide) (by decide) (by decide) rfl in_X10 (by decide) (wa 325 (by decide +kernel) (by decide +kernel)) rfl (fun _ => rfl) ?_
  refine k_iload_n C dX10_init_170 rfl 0 rfl ?_
  refine k_new C dX10_init_171 (ci := 7) (by decide) (by decide) rfl in_X7 tyX7 tyX7_ok cn_X10_84.1 cn_X10_84.2.1 cn_X10_84.2.2 (show Zf _ 60 from (Zf.I (Zf.up hz (by decide)) (by decide))) (by decide +kernel) (fun a j hj => by rcases (show j = 0 ∨ j = 1 ∨ j = 2 by omega) with rfl | rfl | rfl <;> rfl) (by decide) ⟨by decide, by decide⟩ ?_
  refine k_dup C dX10_init_174 rfl ?_
  refine k_callI C (st := [.ref (g.1 60), .int 0, .ref (g.1 59)]) (ci_60 hB ((zI z 57 2 (-1))) (show Zf _ 61 from (Zf.I (Zf.up hz (by decide)) (by decide)))) mi_X7_init ml_X10_90 dX10_init_175 rfl rfl ⟨by decide, by decide⟩ (Nat.le_of_ble_eq_true rfl) (by decide) ⟨by decide, by decide⟩ ?_
  refine k_aast C (j := 0) dX10_init_178 (by decide) (by decide) (by decide) (by decide) (by decide) (by decide) (by decide) (by decide +kernel) ?_
  refine k_iinc C (k := 0) (v := 1) (lv2 := [(1, .int 1), (0, .ref (g.1 0))]) dX10_init_179 rfl (by decide) (by decide) rfl ?_
  refine k_goto C (tgt := 157) dX10_init_182 (by decide) ?_
  refine k_iload_n C dX10_init_157 rfl 0 rfl ?_
  refine k_aload_n C dX10_init_158 rfl 1 rfl ?_
  refine k_getA C (ci := 10) (v := 59) (k := 13) dX10_init_159 (by decide) (by decide) (by decide) rfl in_X10 (by decide) (wa 325 (by decide +kernel) (by decide +kernel)) rfl (fun _ => rfl) ?_
  refine k_alenS C dX10_init_162 (by decide) (by decide) ?_
  refine k_geF C (tgt := 185) dX10_init_163 (by decide) (by decide) ?_
  refine k_aload_n C dX10_init_166 rfl 1 rfl ?_
  refine k_getA C (ci := 10) (v := 59) (k := 13) dX10_init_167 (by decide) (by decide) (by decide) rfl in_X10 (by decide) (wa 325 (by decide +kernel) (by decide +kernel)) rfl (fun _ => rfl) ?_
  refine k_iload_n C dX10_init_170 rfl 0 rfl ?_
  refine k_new C dX10_init_171 (ci := 7) (by decide) (by decide) rfl in_X7 tyX7 tyX7_ok cn_X10_84.1 cn_X10_84.2.1 cn_X10_84.2.2 (show Zf _ 62 from (Zf.I (Zf.I (Zf.up hz (by decide)) (by decide)) (by decide))) (by decide +kernel) (fun a j hj => by rcases (show j = 0 ∨ j = 1 ∨ j = 2 by omega) with rfl | rfl | rfl <;> rfl) (by decide) ⟨by decide, by decide⟩ ?_
  refine k_dup C dX10_init_174 rfl ?_
  refine k_callI C (st := [.ref (g.1 62), .int 1, .ref (g.1 59)]) (ci_62 hB ((zI ((zI z 57 2 (-1))) 60 1 (-1))) (show Zf _ 63 from (Zf.I (Zf.I (Zf.up hz (by decide)) (by decide)) (by decide)))) mi_X7_init ml_X10_90 dX10_init_175 rfl rfl ⟨by decide, by decide⟩ (Nat.le_of_ble_eq_true rfl) (by decide) ⟨by decide, by decide⟩ ?_
  refine k_aast C (j := 1) dX10_init_178 (by decide) (by decide) (by decide) (by decide) (by decide) (by decide) (by decide) (by decide +kernel) ?_
  refine k_iinc C (k := 0) (v := 2) (lv2 := [(1, .int 2), (0, .ref (g.1 0))]) dX10_init_179 rfl (by decide) (by decide) rfl ?_
  refine k_goto C (tgt := 157) dX10_init_182 (by decide) ?_
  refine k_iload_n C dX10_init_157 rfl 0 rfl ?_
  refine k_aload_n C dX10_init_158 rfl 1 rfl ?_
  refine k_getA C (ci := 10) (v := 59) (k := 13) dX10_init_159 (by decide) (by decide) (by decide) rfl in_X10 (by decide) (wa 325 (by decide +kernel) (by decide +kernel)) rfl (fun _ => rfl) ?_
  refine k_alenS C dX10_init_162 (by decide) (by decide) ?_
  refine k_geF C (tgt := 185) dX10_init_163 (by decide) (by decide) ?_
  refine k_aload_n C dX10_init_166 rfl 1 rfl ?_
  refine k_getA C (ci := 10) (v := 59) (k := 13) dX10_init_167 (by decide) (by decide) (by decide) rfl in_X10 (by decide) (wa 325 (by decide +kernel) (by decide +kernel)) rfl (fun _ => rfl) ?_
  refine k_iload_n C dX10_init_170 rfl 0 rfl ?_
  refine k_new C dX10_init_171 (ci := 7) (by decide) (by decide) rfl in_X7 tyX7 tyX7_ok cn_X10_84.1 cn_X10_84.2.1 cn_X10_84.2.2 (show Zf _ 64 from (Zf.I (Zf.I (Zf.I (Zf.up hz (by decide)) (by decide)) (by decide)) (by decide))) (by decide +kernel) (fun a j hj => by rcases (show j = 0 ∨ j = 1 ∨ j = 2 by omega) with rfl | rfl | rfl <;> rfl) (by decide) ⟨by decide, by decide⟩ ?_
  refine k_dup C dX10_init_174 rfl ?_
  refine k_callI C (st := [.ref (g.1 64), .int 2, .ref (g.1 59)]) (ci_64 hB ((zI ((zI ((zI z 57 2 (-1))) 60 1 (-1))) 62 1 (-1))) (show Zf _ 65 from (Zf.I (Zf.I (Zf.I (Zf.up hz (by decide)) (by decide)) (by decide)) (by decide)))) mi_X7_init ml_X10_90 dX10_init_175 rfl rfl ⟨by decide, by decide⟩ (Nat.le_of_ble_eq_true rfl) (by decide) ⟨by decide, by decide⟩ ?_
  refine k_aast C (j := 2) dX10_init_178 (by decide) (by decide) (by decide) (by decide) (by decide) (by decide) (by decide) (by decide +kernel) ?_
  refine k_iinc C (k := 0) (v := 3) (lv2 := [(1, .int 3), (0, .ref (g.1 0))]) dX10_init_179 rfl (by decide) (by decide) rfl ?_
  refine k_goto C (tgt := 157) dX10_init_182 (by decide) ?_
  refine k_iload_n C dX10_init_157 rfl 0 rfl ?_
  refine k_aload_n C dX10_init_158 rfl 1 rfl ?_
  refine k_getA C (ci := 10) (v := 59) (k := 13) dX10_init_159 (by decide) (by decide) (by decide) rfl in_X10 (by decide) (wa 325 (by decide +kernel) (by decide +kernel)) rfl (fun _ => rfl) ?_
  refine k_alenS C dX10_init_162 (by decide) (by decide) ?_
  refine k_geF C (tgt := 185) dX10_init_163 (by decide) (by decide) ?_
  refine k_aload_n C dX10_init_166 rfl 1 rfl ?_
  refine k_getA C (ci := 10) (v := 59) (k := 13) dX10_init_167 (by decide) (by decide) (by decide) rfl in_X10 (by decide) (wa 325 (by decide +kernel) (by decide +kernel)) rfl (fun _ => rfl) ?_
  refine k_iload_n C dX10_init_170 rfl 0 rfl ?_
  refine k_new C dX10_init_171 (ci := 7) (by decide) (by decide) rfl in_X7 tyX7 tyX7_ok cn_X10_84.1 cn_X10_84.2.1 cn_X10_84.2.2 (show Zf _ 66 from (Zf.I (Zf.I (Zf.I (Zf.I (Zf.up hz (by decide)) (by decide)) (by decide)) (by decide)) (by decide))) (by decide +kernel) (fun a j hj => by rcases (show j = 0 ∨ j = 1 ∨ j = 2 by omega) with rfl | rfl | rfl <;> rfl) (by decide) ⟨by decide, by decide⟩ ?_
  refine k_dup C dX10_init_174 rfl ?_
  refine k_callI C (st := [.ref (g.1 66), .int 3, .ref (g.1 59)]) (ci_66 hB ((zI ((zI ((zI ((zI z 57 2 (-1))) 60 1 (-1))) 62 1 (-1))) 64 1 (-1))) (show Zf _ 67 from (Zf.I (Zf.I (Zf.I (Zf.I (Zf.up hz (by decide)) (by decide)) (by decide)) (by decide)) (by decide)))) mi_X7_init ml_X10_90 dX10_init_175 rfl rfl ⟨by decide, by decide⟩ (Nat.le_of_ble_eq_true rfl) (by decide) ⟨by decide, by decide⟩ ?_
  refine k_aast C (j := 3) dX10_init_178 (by decide) (by decide) (by decide) (by decide) (by decide) (by decide) (by decide) (by decide +kernel) ?_
  refine k_iinc C (k := 0) (v := 4) (lv2 := [(1, .int 4), (0, .ref (g.1 0))]) dX10_init_179 rfl (by decide) (by decide) rfl ?_
  refine k_goto C (tgt := 157) dX10_init_182 (by decide) ?_
  refine k_iload_n C dX10_init_157 rfl 0 rfl ?_
  refine k_aload_n C dX10_init_158 rfl 1 rfl ?_
  refine k_getA C (ci := 10) (v := 59) (k := 13) dX10_init_159 (by decide) (by decide) (by decide) rfl in_X10 (by decide) (wa 325 (by decide +kernel) (by decide +kernel)) rfl (fun _ => rfl) ?_
  refine k_alenS C dX10_init_162 (by decide) (by decide) ?_
  refine k_geT C (tgt := 185) dX10_init_163 (by decide) (by decide) ?_
  exact z_sub0 (k_vret C hr hk dX10_init_185)
