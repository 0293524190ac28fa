theorem inst_X0 : Cond.instantiable RX0 7 ∈ wAll := (wa 138 (by decide +kernel) (by decide +kernel))
theorem inst_X1 : Cond.instantiable RX1 3 ∈ wAll := (wa 169 (by decide +kernel) (by decide +kernel))
theorem inst_X2 : Cond.instantiable RX2 2 ∈ wAll := (wa 44 (by decide +kernel) (by decide +kernel))
theorem inst_X3 : Cond.instantiable RX3 8 ∈ wAll := (wa 100 (by decide +kernel) (by decide +kernel))
theorem inst_X4 : Cond.instantiable RX4 4 ∈ wAll := (wa 79 (by decide +kernel) (by decide +kernel))
theorem inst_X5 : Cond.instantiable RX5 6 ∈ wAll := (wa 237 (by decide +kernel) (by decide +kernel))
theorem inst_X6 : Cond.instantiable RX6 11 ∈ wAll := (wa 188 (by decide +kernel) (by decide +kernel))
theorem inst_X7 : Cond.instantiable RX7 3 ∈ wAll := (wa 295 (by decide +kernel) (by decide +kernel))
theorem inst_X8 : Cond.instantiable RX8 3 ∈ wAll := (wa 62 (by decide +kernel) (by decide +kernel))
theorem inst_X9 : Cond.instantiable RX9 7 ∈ wAll := (wa 262 (by decide +kernel) (by decide +kernel))
theorem inst_X10 : Cond.instantiable RX10 19 ∈ wAll := (wa 36 (by decide +kernel) (by decide +kernel))
def z00 : St := (fun _ _ => 0, fun _ _ => 0)
theorem z00_f (n : Nat) : Zf z00 n := fun _ _ => ⟨rfl, rfl⟩
/-- the state behind new BenchWithTails() -/
def zX : St := ((zI ((zI ((zI ((zI ((zI z00 57 2 (-1))) 60 1 (-1))) 62 1 (-1))) 64 1 (-1))) 66 1 (-1)))
theorem st_T0 {args : Array Value} {s : State} {A : Nat → Prop} (hs : ∀ c ∈ flatC (Jvm.Cond.and given_1 narrow_1), c.before args s = true) (hA : ∀ a : Nat, a < s.heap.size → ¬ A a) : ∃ t : Nat, (Term.static "BenchWithTails$Jobs" "UNDER" "[I").eval args s none [] s = some (.ref t) ∧ va_T .int t 6 (fun j => .int (tb0 j)) A s s.heap := by
  refine va_Tof (by decide) (hs (Cond.arrayOf (Term.static "BenchWithTails$Jobs" "UNDER" "[I") .int) (by decide +kernel)) (va_eqt (z := Int32.ofNat 6) (hs (Cond.eq (.length (Term.static "BenchWithTails$Jobs" "UNDER" "[I")) (.int (Int32.ofNat 6))) (by decide +kernel))) (fun j hj => ?_) hA
  rcases (show j = 0 ∨ j = 1 ∨ j = 2 ∨ j = 3 ∨ j = 4 ∨ j = 5 by omega) with rfl | rfl | rfl | rfl | rfl | rfl
  · exact va_eqt (z := tb0 0) (hs (Cond.eq (.elem (Term.static "BenchWithTails$Jobs" "UNDER" "[I") (.int (Int32.ofNat 0))) (.int (tb0 0))) (by decide +kernel))
  · exact va_eqt (z := tb0 1) (hs (Cond.eq (.elem (Term.static "BenchWithTails$Jobs" "UNDER" "[I") (.int (Int32.ofNat 1))) (.int (tb0 1))) (by decide +kernel))
  · exact va_eqt (z := tb0 2) (hs (Cond.eq (.elem (Term.static "BenchWithTails$Jobs" "UNDER" "[I") (.int (Int32.ofNat 2))) (.int (tb0 2))) (by decide +kernel))
  · exact va_eqt (z := tb0 3) (hs (Cond.eq (.elem (Term.static "BenchWithTails$Jobs" "UNDER" "[I") (.int (Int32.ofNat 3))) (.int (tb0 3))) (by decide +kernel))
  · exact va_eqt (z := tb0 4) (hs (Cond.eq (.elem (Term.static "BenchWithTails$Jobs" "UNDER" "[I") (.int (Int32.ofNat 4))) (.int (tb0 4))) (by decide +kernel))
  · exact va_eqt (z := tb0 5) (hs (Cond.eq (.elem (Term.static "BenchWithTails$Jobs" "UNDER" "[I") (.int (Int32.ofNat 5))) (.int (tb0 5))) (by decide +kernel))
theorem st_T1 {args : Array Value} {s : State} {A : Nat → Prop} (hs : ∀ c ∈ flatC (Jvm.Cond.and given_1 narrow_1), c.before args s = true) (hA : ∀ a : Nat, a < s.heap.size → ¬ A a) : ∃ t : Nat, (Term.static "BenchWithTails$Jobs" "LEAST_TOLD" "[I").eval args s none [] s = some (.ref t) ∧ va_T .int t 4 (fun j => .int (tb1 j)) A s s.heap := by
  refine va_Tof (by decide) (hs (Cond.arrayOf (Term.static "BenchWithTails$Jobs" "LEAST_TOLD" "[I") .int) (by decide +kernel)) (va_eqt (z := Int32.ofNat 4) (hs (Cond.eq (.length (Term.static "BenchWithTails$Jobs" "LEAST_TOLD" "[I")) (.int (Int32.ofNat 4))) (by decide +kernel))) (fun j hj => ?_) hA
  rcases (show j = 0 ∨ j = 1 ∨ j = 2 ∨ j = 3 by omega) with rfl | rfl | rfl | rfl
  · exact va_eqt (z := tb1 0) (hs (Cond.eq (.elem (Term.static "BenchWithTails$Jobs" "LEAST_TOLD" "[I") (.int (Int32.ofNat 0))) (.int (tb1 0))) (by decide +kernel))
  · exact va_eqt (z := tb1 1) (hs (Cond.eq (.elem (Term.static "BenchWithTails$Jobs" "LEAST_TOLD" "[I") (.int (Int32.ofNat 1))) (.int (tb1 1))) (by decide +kernel))
  · exact va_eqt (z := tb1 2) (hs (Cond.eq (.elem (Term.static "BenchWithTails$Jobs" "LEAST_TOLD" "[I") (.int (Int32.ofNat 2))) (.int (tb1 2))) (by decide +kernel))
  · exact va_eqt (z := tb1 3) (hs (Cond.eq (.elem (Term.static "BenchWithTails$Jobs" "LEAST_TOLD" "[I") (.int (Int32.ofNat 3))) (.int (tb1 3))) (by decide +kernel))
theorem st_T2 {args : Array Value} {s : State} {A : Nat → Prop} (hs : ∀ c ∈ flatC (Jvm.Cond.and given_1 narrow_1), c.before args s = true) (hA : ∀ a : Nat, a < s.heap.size → ¬ A a) : ∃ t : Nat, (Term.static "BenchWithTails$Jobs" "MOST_TOLD" "[I").eval args s none [] s = some (.ref t) ∧ va_T .int t 4 (fun j => .int (tb2 j)) A s s.heap := by
  refine va_Tof (by decide) (hs (Cond.arrayOf (Term.static "BenchWithTails$Jobs" "MOST_TOLD" "[I") .int) (by decide +kernel)) (va_eqt (z := Int32.ofNat 4) (hs (Cond.eq (.length (Term.static "BenchWithTails$Jobs" "MOST_TOLD" "[I")) (.int (Int32.ofNat 4))) (by decide +kernel))) (fun j hj => ?_) hA
  rcases (show j = 0 ∨ j = 1 ∨ j = 2 ∨ j = 3 by omega) with rfl | rfl | rfl | rfl
  · exact va_eqt (z := tb2 0) (hs (Cond.eq (.elem (Term.static "BenchWithTails$Jobs" "MOST_TOLD" "[I") (.int (Int32.ofNat 0))) (.int (tb2 0))) (by decide +kernel))
  · exact va_eqt (z := tb2 1) (hs (Cond.eq (.elem (Term.static "BenchWithTails$Jobs" "MOST_TOLD" "[I") (.int (Int32.ofNat 1))) (.int (tb2 1))) (by decide +kernel))
  · exact va_eqt (z := tb2 2) (hs (Cond.eq (.elem (Term.static "BenchWithTails$Jobs" "MOST_TOLD" "[I") (.int (Int32.ofNat 2))) (.int (tb2 2))) (by decide +kernel))
  · exact va_eqt (z := tb2 3) (hs (Cond.eq (.elem (Term.static "BenchWithTails$Jobs" "MOST_TOLD" "[I") (.int (Int32.ofNat 3))) (.int (tb2 3))) (by decide +kernel))
theorem AOG_spec {U : State} (h : AOG U) : ∃ (comp c : ClassId) (k : Class), U.vm.findClass (FieldType.array .int).toString = some comp ∧ U.vm.classes[c]? = some k ∧ k.kind = .array comp (.array .int) ∧ U.vm.findClass ("[" ++ (FieldType.array .int).toString) = some c := by
  unfold AOG Cond.before at h
  simp only [Cond.holds, Cond.value, beq_iff_eq, Option.bind_eq_some_iff, Option.map_eq_some_iff] at h
  obtain ⟨comp, hc, c, hi, k, hk, hb⟩ := h
  obtain ⟨hlt, hp, -⟩ := Array.findIdx?_eq_some_iff_getElem.mp hi
  have hkk : U.vm.classes[c] = k := (Array.getElem?_eq_some_iff.mp hk).2
  rw [hkk] at hp
  cases hkind : k.kind with
  | array component ty =>
    rw [hkind] at hb hp
    simp at hb hp
    exact ⟨comp, c, k, hc, hk, by rw [hkind, hp, hb.1], hb.2⟩
  | _ => rw [hkind] at hb; simp at hb
theorem nw_F : ∀ w ∈ nwF.map (fun q => Cond.fieldLinkNest q.1 q.2.1 q.2.2.1 q.2.2.2.1 q.2.2.2.2.1 q.2.2.2.2.2), w ∈ lw_tbl := in_pos [52, 54, 69, 88, 89, 109, 111, 113, 115, 116, 117, 119, 145, 149, 151, 176, 177, 179, 208, 210, 212, 269, 271, 275, 277, 303] (by decide +kernel)
theorem nw_M : ∀ w ∈ nwM.map (fun q => Cond.methodLinkNest q.1 q.2.1 q.2.2.1 q.2.2.2), w ∈ lw_tbl := in_pos [139, 196] (by decide +kernel)
theorem nw_ok {args : Array Value} {s : State} (hts : ∀ w ∈ lw_tbl, w.before args s = true) : nwOk s := ⟨fun q hq => va_Nw.of rfl (hts _ (nw_F _ (List.mem_map.mpr ⟨q, hq, rfl⟩))), fun q hq => va_Nw.of rfl (hts _ (nw_M _ (List.mem_map.mpr ⟨q, hq, rfl⟩)))⟩
theorem kn_all {args : Array Value} {s : State} (hA : ∀ w ∈ wAll, w.before args s = true) : ∃ (dC : Nat → ClassId) (dI : Nat → Nat → Nat), ∀ (k : Nat) (q : vw_C), vwCl[k]? = some q → u_Kn s q.1 q.2.1 q.2.2 (dC k) (dI k) := by
  obtain ⟨c0, i0, h0⟩ := u_known (C := RX0) (T := TX0) (N := 7) (n := 7) hA in_X0 (hA _ inst_X0)
  obtain ⟨c1, i1, h1⟩ := u_known (C := RX1) (T := TX1) (N := 3) (n := 3) hA in_X1 (hA _ inst_X1)
  obtain ⟨c2, i2, h2⟩ := u_known (C := RX2) (T := TX2) (N := 2) (n := 2) hA in_X2 (hA _ inst_X2)
  obtain ⟨c3, i3, h3⟩ := u_known (C := RX3) (T := TX3) (N := 8) (n := 8) hA in_X3 (hA _ inst_X3)
  obtain ⟨c4, i4, h4⟩ := u_known (C := RX4) (T := TX4) (N := 4) (n := 4) hA in_X4 (hA _ inst_X4)
  obtain ⟨c5, i5, h5⟩ := u_known (C := RX5) (T := TX5) (N := 6) (n := 6) hA in_X5 (hA _ inst_X5)
  obtain ⟨c6, i6, h6⟩ := u_known (C := RX6) (T := TX6) (N := 11) (n := 11) hA in_X6 (hA _ inst_X6)
  obtain ⟨c7, i7, h7⟩ := u_known (C := RX7) (T := TX7) (N := 3) (n := 3) hA in_X7 (hA _ inst_X7)
  obtain ⟨c8, i8, h8⟩ := u_known (C := RX8) (T := TX8) (N := 3) (n := 3) hA in_X8 (hA _ inst_X8)
  obtain ⟨c9, i9, h9⟩ := u_known (C := RX9) (T := TX9) (N := 7) (n := 7) hA in_X9 (hA _ inst_X9)
  obtain ⟨c10, i10, h10⟩ := u_known (C := RX10) (T := TX10) (N := 19) (n := 19) hA in_X10 (hA _ inst_X10)
  refine ⟨fun k => [c0, c1, c2, c3, c4, c5, c6, c7, c8, c9, c10].getD k 0, fun k => [i0, i1, i2, i3, i4, i5, i6, i7, i8, i9, i10].getD k (fun _ => 0), ?_⟩
  intro k q hq
  match k, hq with
  | 0, hq => cases hq; exact h0
  | 1, hq => cases hq; exact h1
  | 2, hq => cases hq; exact h2
  | 3, hq => cases hq; exact h3
  | 4, hq => cases hq; exact h4
  | 5, hq => cases hq; exact h5
  | 6, hq => cases hq; exact h6
  | 7, hq => cases hq; exact h7
  | 8, hq => cases hq; exact h8
  | 9, hq => cases hq; exact h9
  | 10, hq => cases hq; exact h10
  | k + 11, hq => exact absurd hq (by simp)
theorem sok_all {b : Nat} {s : State} (hts : ∀ w ∈ lw_tbl, w.before #[Value.ref b] s = true) (hgv : (Jvm.Cond.and given_1 narrow_1).before #[Value.ref b] s = true) (ad : Nat → Nat) : ∃ g : Ga, g.1 = ad ∧ Sok g (fun q => s.heap.size ≤ q) s ∧ AOk s := by
  have hA : ∀ w ∈ wAll, w.before #[Value.ref b] s = true := fun w h => hts w (List.mem_filter.mp h).1
  have hs := flat_of_before _ hgv
  obtain ⟨dC, dI, hK⟩ := kn_all hA
  obtain ⟨cI, kI, mI, hI1, hI2, hI3⟩ := Cond.arrayClass_spec (show (Cond.arrayClass .int).holds #[Value.ref b] s none s [] = true from hA _ ar_I)
  obtain ⟨cJ, kJ, mJ, hJ1, hJ2, hJ3⟩ := Cond.arrayClass_spec (show (Cond.arrayClass .long).holds #[Value.ref b] s none s [] = true from hA _ ar_J)
  have hoS : va_AO "BenchWithTails$Sheet" s := hts (Cond.arrayOver (.object "BenchWithTails$Sheet")) (List.mem_of_getElem? (i := 294) (by decide +kernel))
  have hoG : AOG s := hts (Cond.arrayOver (.array .int)) (List.mem_of_getElem? (i := 50) (by decide +kernel))
  obtain ⟨mS, cS, kS, hS1, -, hS2, hS3, hS4⟩ := Cond.arrayOver_spec hoS
  obtain ⟨mG, cG, kG, -, hG2, hG3, hG4⟩ := AOG_spec hoG
  have nA : ∀ a : Nat, a < s.heap.size → ¬ (fun q => s.heap.size ≤ q) a := fun a h q => absurd q (Nat.not_le.mpr h)
  obtain ⟨t0, e0, T0⟩ := st_T0 hs nA
  obtain ⟨t1, e1, T1⟩ := st_T1 hs nA
  obtain ⟨t2, e2, T2⟩ := st_T2 hs nA
  have hini := hA (Cond.initialized "BenchWithTails$Jobs") (wa 22 (by decide +kernel) (by decide +kernel))
  refine ⟨(ad, (dC, dI), (cI, cJ, cS, cG), (t0, t1, t2)), rfl, ⟨⟨hK, ?_⟩, nw_ok hts, va_Zref (hts (Cond.laysStatic "BenchWithTails$Jobs" "UNDER" "[I") (List.mem_of_getElem? (i := 474) (by decide +kernel))) hini e0 nA, va_Zref (hts (Cond.laysStatic "BenchWithTails$Jobs" "LEAST_TOLD" "[I") (List.mem_of_getElem? (i := 420) (by decide +kernel))) hini e1 nA, va_Zref (hts (Cond.laysStatic "BenchWithTails$Jobs" "MOST_TOLD" "[I") (List.mem_of_getElem? (i := 422) (by decide +kernel))) hini e2 nA, T0, T1, T2⟩, hoS, hoG⟩
  intro k q hk
  match k, hk with
  | 0, hk => cases hk; exact ⟨fun n z => ⟨(fun q h => by cases h), kI, hI2, mI, hI3⟩, hI1⟩
  | 1, hk => cases hk; exact ⟨fun n z => ⟨(fun q h => by cases h), kJ, hJ2, mJ, hJ3⟩, hJ1⟩
  | 2, hk => cases hk; exact ⟨fun n z => ⟨(fun q h => by cases h), kS, hS2, mS, hS3⟩, kS, mS, hS2, hS3, hS1, hS4⟩
  | 3, hk => cases hk; exact ⟨fun n z => ⟨(fun q h => by cases h), kG, hG2, mG, hG3⟩, hG4⟩
  | k + 4, hk => exact absurd hk (by simp [tysG])
set_option maxRecDepth 20000 in
set_option maxHeartbeats 4000000 in
/-- the method bench -/
theorem c_L_bench {l : Launch} {g : Ga} {A : Nat → Prop} {B b L : Nat} {xs : Nat → Int32} {res : St × Nat} (hB : Bok g A B) (hf : f_L_bench_8 xs L zX 0 = some res) : CBn l g A B b L xs yL_bench cL_bench 6 (some (.object "BenchWithTails")) rm_L_bench res := by
  refine Met.ofW (cc := cL_bench) (maxL := 6) (ret := some (.object "BenchWithTails")) (by decide) rfl ?_
  intro p e s m args below meth c s₁ Bd hml hv
  obtain ⟨rfl, hsz, hO, hAO, hX, hbl, hbA⟩ := hv
  have hts := atoms_spec (ws := Cond.code yL_bench cL_bench 6 (some (.object "BenchWithTails")) :: wAll) Bd.pre
  have hl := lv_entry ([.ref b]) (n := 6) (Nat.le_of_ble_eq_true rfl)
  rw [lg_entry_eq]
  have hA : ∀ w ∈ wAll, w.before #[Value.ref b] s = true := fun w h => hts w (List.mem_cons_of_mem _ h)
  have hown := findClass_of_methodNamed Bd.named
  have C : Ck l g A B p s m #[Value.ref b] meth c cL_bench 6 RL 0 := ⟨Bd.exec, Bd.bytes, hml, hown, hA, hB, hO, hAO, hsz⟩
  have key : Zk p l e rm_L_bench s m #[Value.ref b] below meth c g A B 6 (QB g A below #[Value.ref b] s res) 0 0 z00 0 0 0 [(0, .ref b)] [] := by
    refine k_new C dL_bench_0 (ci := 10) (by decide) (by decide) rfl in_X10 tyX10 tyX10_ok cn_L_7.1 cn_L_7.2.1 cn_L_7.2.2 (z00_f 0) (by decide +kernel) (fun a j hj => by rcases (show j = 0 ∨ j = 1 ∨ j = 2 ∨ j = 3 ∨ j = 4 ∨ j = 5 ∨ j = 6 ∨ j = 7 ∨ j = 8 ∨ j = 9 ∨ j = 10 ∨ j = 11 ∨ j = 12 ∨ j = 13 ∨ j = 14 ∨ j = 15 ∨ j = 16 ∨ j = 17 ∨ j = 18 by omega) with rfl | rfl | rfl | rfl | rfl | rfl | rfl | rfl | rfl | rfl | rfl | rfl | rfl | rfl | rfl | rfl | rfl | rfl | rfl <;> rfl) (by decide) ⟨Nat.le_of_ble_eq_true rfl, Nat.le_of_ble_eq_true rfl⟩ ?_
    refine k_dup C dL_bench_3 rfl ?_
    refine k_callI C (st := [.ref (g.1 0)]) (ci_0 hB z00 (z00_f 1)) mi_X10_init ml_Li_9 dL_bench_4 rfl rfl ⟨Nat.le_of_ble_eq_true rfl, Nat.le_of_ble_eq_true rfl⟩ (Nat.le_of_ble_eq_true rfl) (by decide) ⟨Nat.le_of_ble_eq_true rfl, Nat.le_of_ble_eq_true rfl⟩ ?_
    refine k_astore_n C (lv2 := [(1, .ref (g.1 0)), (0, .ref b)]) dL_bench_7 rfl (by decide) rfl ?_
    intro H locs ls hP hS hl1
    exact (z_sub [1, 0] rfl (b_L_bench_8 ⟨Bd.exec, Bd.bytes, hml, hown, hA, hB.G, hO, Nat.le_of_ble_eq_true rfl, Nat.le_of_ble_eq_true rfl⟩ Bd.returns Bd.notSynchronized hX hbl hbA zX 0 (by decide) hf)) H locs ls (by rw [← w_full]; exact hP) hS hl1
  exact key s.heap [] _ (fun k q h => by simp [worldN] at h) va_S.rf hl
set_option maxRecDepth 20000 in
set_option maxHeartbeats 4000000 in
/-- the claim's body, but for what the shallow law answers -/
theorem law_open (hback : ∃ z1, f_X10_back zX 0 = some (z1, -3)) (hlaw : ∀ (xs : Nat → Int32) (L : Nat), L ≤ 260 → ∃ zb, f_L_bench_8 xs L zX 0 = some (zb, 0) ∧ ∃ res, f_L_law_22 xs L zb 0 = some res ∧ res.2 = 1) {p : Program} {e : Env} {s : State} {m : MethodId} {below : List Frame} {meth : Method} {c : Code} (l : Launch) {b L : Nat} {xs : Nat → Int32} (hL : L ≤ 260) (C0 : lw_At p s m meth c b L xs) : W p l e room_1 s m #[Value.ref b] below meth c s.heap [] 0 0 (lw_Z below #[Value.ref b] s) (entryFrame m ([Value.ref b] : List Value).toArray 16) := by
  obtain ⟨hx, hb, hr, hml, hown, hts, hX, hbl, hlocks, hgv⟩ := C0
  have hA : ∀ w ∈ wAll, w.before #[Value.ref b] s = true := fun w h => hts w (List.mem_filter.mp h).1
  obtain ⟨g, hg, hO, hAO⟩ := sok_all hts hgv (fun k => s.heap.size + k)
  have hB : Bok g (fun q => s.heap.size ≤ q) s.heap.size := ⟨fun k => by rw [hg], fun q h => h⟩
  have hbA : ¬ s.heap.size ≤ b := by omega
  obtain ⟨z1, hz1⟩ := hback
  obtain ⟨zb, hzb, res, hres, hone⟩ := hlaw xs L hL
  have hl := lv_entry ([.ref b]) (n := 16) (Nat.le_of_ble_eq_true rfl)
  rw [lg_entry_eq]
  have C : Ck l g (fun q => s.heap.size ≤ q) s.heap.size p s m #[Value.ref b] meth c cL_law 16 RL 0 := ⟨hx, hb, hml, hown, hA, hB, hO, hAO, rfl⟩
  have key : Zk p l e room_1 s m #[Value.ref b] below meth c g (fun q => s.heap.size ≤ q) s.heap.size 16 (lw_Z below #[Value.ref b] s) 0 0 z00 0 0 0 [(0, .ref b)] [] := by
    refine k_new C dL_law_0 (ci := 10) (by decide) (by decide) rfl in_X10 tyX10 tyX10_ok cn_L_7.1 cn_L_7.2.1 cn_L_7.2.2 (z00_f 0) (by decide +kernel) (fun a j hj => by rcases (show j = 0 ∨ j = 1 ∨ j = 2 ∨ j = 3 ∨ j = 4 ∨ j = 5 ∨ j = 6 ∨ j = 7 ∨ j = 8 ∨ j = 9 ∨ j = 10 ∨ j = 11 ∨ j = 12 ∨ j = 13 ∨ j = 14 ∨ j = 15 ∨ j = 16 ∨ j = 17 ∨ j = 18 by omega) with rfl | rfl | rfl | rfl | rfl | rfl | rfl | rfl | rfl | rfl | rfl | rfl | rfl | rfl | rfl | rfl | rfl | rfl | rfl <;> rfl) (by decide) ⟨Nat.le_of_ble_eq_true rfl, Nat.le_of_ble_eq_true rfl⟩ ?_
    refine k_dup C dL_law_3 rfl ?_
    refine k_callI C (st := [.ref (g.1 0)]) (ci_0 hB z00 (z00_f 1)) mi_X10_init ml_Li_9 dL_law_4 rfl rfl ⟨Nat.le_of_ble_eq_true rfl, Nat.le_of_ble_eq_true rfl⟩ (Nat.le_of_ble_eq_true rfl) (by decide) ⟨Nat.le_of_ble_eq_true rfl, Nat.le_of_ble_eq_true rfl⟩ ?_
    intro H locs ls hP hS hl1
    have CX : Cx l g (fun q => s.heap.size ≤ q) p s m #[Value.ref b] c cL_law 16 RL room_1 (68, 8728) := ⟨hx, hb, hml, hown, hA, hB.G, hO, Nat.le_of_ble_eq_true rfl, Nat.le_of_ble_eq_true rfl⟩
    refine (?_ : Zj p l e room_1 s m #[Value.ref b] below meth c g (fun q => s.heap.size ≤ q) 16 (68, 8728) (lw_Z below #[Value.ref b] s) zX 7 [(0, .ref b)] [.ref (g.1 0)]) H locs ls (by rw [← w_full]; exact hP) hS hl1
    refine z_cVi CX (ci := 10) (st := []) (c_X10_back (by decide) hz1) mw_X10_back ml_L_42 (by decide) (by decide) rfl dL_law_7 rfl rfl rfl ⟨Nat.le_of_ble_eq_true rfl, Nat.le_of_ble_eq_true rfl⟩ rfl (Nat.le_of_ble_eq_true rfl) ?_
    refine z_bipush CX dL_law_10 (v := (-3)) (by decide) ?_
    refine z_icmp_eq CX (tgt := 17) dL_law_12 (by decide) (fun _ => ?_) (fun h => absurd rfl h)
    refine z_aload_n CX dL_law_17 rfl 0 rfl ?_
    refine z_cBn CX hX hbl hbA (fun q h => h) hAO (fun B2 g2 h2 => c_L_bench h2 hzb) mw_L_bench ml_Li_46 dL_law_18 rfl rfl ⟨Nat.le_of_ble_eq_true rfl, Nat.le_of_ble_eq_true rfl⟩ (Nat.le_of_ble_eq_true rfl) ⟨Nat.le_of_ble_eq_true rfl, Nat.le_of_ble_eq_true rfl⟩ (fun g2 hG2 hO2 => ?_)
    have CY : Cx l g2 (fun q => s.heap.size ≤ q) p s m #[Value.ref b] c cL_law 16 RL room_1 (136, 17456) := ⟨hx, hb, hml, hown, hA, hG2, hO2, Nat.le_of_ble_eq_true rfl, Nat.le_of_ble_eq_true rfl⟩
    refine z_astore_n CY (lv2 := [(1, .ref (g2.1 0)), (0, .ref b)]) dL_law_21 rfl (by decide) rfl ?_
    exact z_sub [1, 0] rfl (b_L_law_22 CY hr hlocks hX hbl hbA (fun q h => h) ⟨Nat.le_of_ble_eq_true rfl, Nat.le_of_ble_eq_true rfl⟩ zb 0 (by decide) hone hres)
  exact key s.heap [] _ (fun k q h => by simp [worldN] at h) va_S.rf hl
