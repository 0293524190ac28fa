def nr (b : Bool) (x : Nat) : Value := match b with | true => .ref x | false => .null
def evs : List (Nat × Nat) := [(1, 0), (0, 0), (7, 0), (0, 1), (13, 0), (0, 2), (19, 0), (0, 3), (21, 0), (21, 1), (21, 2), (0, 4), (25, 0), (25, 1), (25, 2), (0, 5), (29, 0), (29, 1), (29, 2), (0, 6), (33, 0), (33, 1), (33, 2), (0, 7), (0, 8), (38, 0), (0, 9), (41, 0), (41, 1), (41, 2), (40, 0), (40, 1), (46, 0), (40, 2), (40, 3), (40, 4), (40, 5), (40, 6), (0, 10), (52, 0), (52, 1), (52, 2), (52, 3), (0, 11), (57, 0), (0, 12), (0, 13), (60, 0), (59, 0), (62, 0), (59, 1), (64, 0), (59, 2), (66, 0), (59, 3)]
def bA (t o k : Nat) : Bool := (evs.take t).contains (o, k)
theorem bA_succ {t o k : Nat} (h : evs[t]? = some (o, k)) (a j : Nat) : bA (t + 1) a j = if a = o ∧ j = k then true else bA t a j := by
  unfold bA
  rw [List.take_add_one, h]
  show ((evs.take t) ++ [(o, k)]).contains (a, j) = _
  rw [List.contains_eq_mem, List.contains_eq_mem]
  by_cases q : a = o ∧ j = k
  · rw [if_pos q, q.1, q.2]
    simp
  · rw [if_neg q]
    have e : ¬ ((a, j) = (o, k)) := fun w => q (by cases w; exact ⟨rfl, rfl⟩)
    simp only [List.mem_append, List.mem_singleton, e, or_false]
theorem bA_new {t n : Nat} (h : (evs.take t).all (fun q => decide (q.1 ≠ n)) = true) : bA t n = fun _ => false := by
  funext j
  unfold bA
  rw [List.contains_eq_mem]
  refine decide_eq_false (fun q => ?_)
  exact absurd rfl (of_decide_eq_true (List.all_eq_true.mp h _ q))
theorem bA_o {t o k : Nat} (h : evs[t]? = some (o, k)) : bA (t + 1) o = fun j => if j = k then true else bA t o j := by
  funext j
  rw [bA_succ h]
  simp
theorem bA_n {t o k a : Nat} (h : evs[t]? = some (o, k)) (hn : a ≠ o) : bA (t + 1) a = bA t a := by
  funext j
  rw [bA_succ h, if_neg (fun q => hn q.1)]
def flN (c : Nat) (ad : Nat → Nat) (o : Nat) (f : Nat → Int32) (b : Nat → Bool) : List Value := match c with
  | 0 => [.int (f 0), .int (f 1), .int (f 2), .int (f 3), .int (f 4), .int (f 5), .int (f 6)]
  | 1 => [nr (b 0) (ad (rf o 0)), .int (f 1), .int (f 2)]
  | 2 => [nr (b 0) (ad (rf o 0)), .int (f 1)]
  | 3 => [nr (b 0) (ad (rf o 0)), nr (b 1) (ad (rf o 1)), nr (b 2) (ad (rf o 2)), .int (f 3), .int (f 4), .int (f 5), .int (f 6), .int (f 7)]
  | 4 => [nr (b 0) (ad (rf o 0)), nr (b 1) (ad (rf o 1)), nr (b 2) (ad (rf o 2)), .int (f 3)]
  | 5 => [nr (b 0) (ad (rf o 0)), nr (b 1) (ad (rf o 1)), nr (b 2) (ad (rf o 2)), nr (b 3) (ad (rf o 3)), .int (f 4), .int (f 5)]
  | 6 => [nr (b 0) (ad (rf o 0)), nr (b 1) (ad (rf o 1)), nr (b 2) (ad (rf o 2)), nr (b 3) (ad (rf o 3)), nr (b 4) (ad (rf o 4)), nr (b 5) (ad (rf o 5)), nr (b 6) (ad (rf o 6)), .int (f 7), .int (f 8), .int (f 9), .int (f 10)]
  | 7 => [nr (b 0) (ad (rf o 0)), .int (f 1), .int (f 2)]
  | 8 => [nr (b 0) (ad (rf o 0)), .int (f 1), .int (f 2)]
  | 9 => [nr (b 0) (ad (rf o 0)), .int (f 1), .int (f 2), .int (f 3), .int (f 4), .int (f 5), .int (f 6)]
  | 10 => [nr (b 0) (ad (rf o 0)), nr (b 1) (ad (rf o 1)), nr (b 2) (ad (rf o 2)), nr (b 3) (ad (rf o 3)), nr (b 4) (ad (rf o 4)), nr (b 5) (ad (rf o 5)), nr (b 6) (ad (rf o 6)), nr (b 7) (ad (rf o 7)), nr (b 8) (ad (rf o 8)), nr (b 9) (ad (rf o 9)), nr (b 10) (ad (rf o 10)), nr (b 11) (ad (rf o 11)), nr (b 12) (ad (rf o 12)), nr (b 13) (ad (rf o 13)), .int (f 14), .int (f 15), .int (f 16), .int (f 17), .int (f 18)]
  | _ => []
def entN (g : Ga) (o : Nat) (f : Nat → Int32) (l : Nat → Int64) (b : Nat → Bool) : va_E :=
  if kd o < 12 then .inr (kd o, flN (kd o) g.1 o f b)
  else if kd o = 50 then .inl (g.2.2.1.2.2.1, 4, .inr (.inr (.inr (.inr (fun j => if b j = true then some (g.1 (rf o j)) else none)))))
  else if kd o = 51 then .inl (g.2.2.1.2.2.2, 4, .inr (.inr (.inr (.inr (fun j => if j < 4 then some (g.1 (rf o j)) else none)))))
  else if kd o < 100000 then .inl (g.2.2.1.1, kd o - 1000, .inl f)
  else .inl (g.2.2.1.2.1, kd o - 100000, .inr (.inl l))
def worldN (g : Ga) (z : St) (n t : Nat) : va_W := (List.range n).map (fun o => (g.1 o, entN g o (z.1 o) (z.2 o) (bA t o)))
theorem wN_at {g : Ga} {z : St} {n t o : Nat} (h : o < n) {e : va_E} (he : entN g o (z.1 o) (z.2 o) (bA t o) = e) : (worldN g z n t)[o]? = some (g.1 o, e) := by
  subst he
  unfold worldN
  rw [List.getElem?_map, List.getElem?_range h]
  rfl
theorem entN_c {g : Ga} {o c : Nat} {f : Nat → Int32} {l : Nat → Int64} {b : Nat → Bool} (h : kd o = c) (hc : c < 12) : entN g o f l b = .inr (c, flN c g.1 o f b) := by
  subst h
  unfold entN
  rw [if_pos hc]
theorem entN_S {g : Ga} {o : Nat} {f : Nat → Int32} {l : Nat → Int64} {b : Nat → Bool} (h : kd o = 50) : entN g o f l b = .inl (g.2.2.1.2.2.1, 4, .inr (.inr (.inr (.inr (fun j => if b j = true then some (g.1 (rf o j)) else none))))) := by
  unfold entN
  rw [h]
  rfl
theorem entN_G {g : Ga} {o : Nat} {f : Nat → Int32} {l : Nat → Int64} {b : Nat → Bool} (h : kd o = 51) : entN g o f l b = .inl (g.2.2.1.2.2.2, 4, .inr (.inr (.inr (.inr (fun j => if j < 4 then some (g.1 (rf o j)) else none))))) := by
  unfold entN
  rw [h]
  rfl
theorem entN_I {g : Ga} {o n : Nat} {f : Nat → Int32} {l : Nat → Int64} {b : Nat → Bool} (h : kd o = 1000 + n) (hn : n < 90000) : entN g o f l b = .inl (g.2.2.1.1, n, .inl f) := by
  unfold entN
  rw [h, if_neg (by omega), if_neg (by omega), if_neg (by omega), if_pos (by omega), show 1000 + n - 1000 = n by omega]
theorem entN_J {g : Ga} {o n : Nat} {f : Nat → Int32} {l : Nat → Int64} {b : Nat → Bool} (h : kd o = 100000 + n) : entN g o f l b = .inl (g.2.2.1.2.1, n, .inr (.inl l)) := by
  unfold entN
  rw [h, if_neg (by omega), if_neg (by omega), if_neg (by omega), if_neg (by omega), show 100000 + n - 100000 = n by omega]
theorem wN_set {g : Ga} {z z' : St} {n t t' o : Nat} {e : va_E} (h1 : ∀ a, a ≠ o → z'.1 a = z.1 a) (h2 : ∀ a, a ≠ o → z'.2 a = z.2 a) (h3 : ∀ a, a ≠ o → bA t' a = bA t a) (he : entN g o (z'.1 o) (z'.2 o) (bA t' o) = e) : (worldN g z n t).set o (g.1 o, e) = worldN g z' n t' := by
  subst he
  apply List.ext_getElem?
  intro i
  unfold worldN
  rw [List.getElem?_set]
  rcases Nat.decEq o i with q | q
  · rw [if_neg q, List.getElem?_map, List.getElem?_map]
    rcases Nat.lt_or_ge i n with w | w
    · rw [List.getElem?_range w]
      show some (g.1 i, entN g i (z.1 i) (z.2 i) (bA t i)) = some (g.1 i, entN g i (z'.1 i) (z'.2 i) (bA t' i))
      rw [h1 i (fun x => q x.symm), h2 i (fun x => q x.symm), h3 i (fun x => q x.symm)]
    · rw [List.getElem?_eq_none (by rw [List.length_range]; exact w)]
      rfl
  · subst q
    rw [if_pos rfl, List.length_map, List.length_range, List.getElem?_map]
    rcases Nat.lt_or_ge o n with w | w
    · rw [if_pos w, List.getElem?_range w]
      rfl
    · rw [if_neg (by omega), List.getElem?_eq_none (by rw [List.length_range]; exact w)]
      rfl
theorem wN_push {g : Ga} {z : St} {n t : Nat} {e : va_E} (he : entN g n (z.1 n) (z.2 n) (bA t n) = e) : worldN g z n t ++ [(g.1 n, e)] = worldN g z (n + 1) t := by
  subst he
  unfold worldN
  rw [List.range_succ, List.map_append]
  rfl
def Zf (z : St) (n : Nat) : Prop := ∀ a, n ≤ a → z.1 a = (fun _ => 0) ∧ z.2 a = (fun _ => 0)
theorem Zf.up {z : St} {n m : Nat} (h : Zf z n) (hm : n ≤ m) : Zf z m := fun a ha => h a (Nat.le_trans hm ha)
theorem Zf.I {z : St} {n o k : Nat} {v : Int32} (h : Zf z n) (ho : o < n) : Zf (zI z o k v) n := fun a ha => ⟨by rw [zI_n (by omega)]; exact (h a ha).1, (h a ha).2⟩
def Bok (g : Ga) (A : Nat → Prop) (B : Nat) : Prop := (∀ k, g.1 k = B + k) ∧ (∀ q, B ≤ q → A q)
theorem wN_D {g : Ga} {A : Nat → Prop} {B : Nat} (h : Bok g A B) (z : St) (n t : Nat) : va_D A (worldN g z n t) := by
  have key : ∀ (k : Nat) (q : Nat × va_E), (worldN g z n t)[k]? = some q → q.1 = B + k := by
    intro k q hq
    unfold worldN at hq
    rw [List.getElem?_map] at hq
    rcases Nat.lt_or_ge k n with w | w
    · rw [List.getElem?_range w] at hq
      have e := Option.some.inj hq
      rw [← e]
      exact h.1 k
    · rw [List.getElem?_eq_none (by rw [List.length_range]; exact w)] at hq
      cases hq
  refine ⟨fun i j p q hp hq e => ?_, fun k q hq => ?_⟩
  · have a := key i p hp
    have b := key j q hq
    omega
  · rw [key k q hq]
    exact h.2 _ (Nat.le_add_right B k)
def AOG (U : State) : Prop := (Cond.arrayOver (.array .int)).before #[] U = true
theorem AOG.moved {u U : State} (hvm : u.vm.Alike U.vm) (h : AOG u) : AOG U := by
  unfold AOG Cond.before at h ⊢
  simp only [Cond.holds, Cond.value, beq_iff_eq, Option.bind_eq_some_iff, Option.map_eq_some_iff] at h ⊢
  obtain ⟨comp, hc, c, hi, k, hk, hb⟩ := h
  obtain ⟨k', hk', he⟩ := hvm.2.2 _ _ hk
  refine ⟨comp, by rw [hvm.findClass]; exact hc, c, ?_, k', hk', ?_⟩
  · have hb2 : U.vm.bare = u.vm.bare := by first | exact hvm.bare_eq | exact hvm.bare_eq.symm
    exact (va_idx_bare U.vm comp).symm.trans ((congrArg (fun (v : Vm) => v.classes.findIdx? _) hb2).trans ((va_idx_bare u.vm comp).trans hi))
  · rw [he]
    rw [hvm.findClass]
    exact hb
def AOk (U : State) : Prop := va_AO "BenchWithTails$Sheet" U ∧ AOG U
def Pk (g : Ga) (A : Nat → Prop) (B : Nat) (z : St) (n t : Nat) (U : State) : Prop := va_P g.2.1 vwCl (worldN g z n t) U.heap ∧ U.heap.size = B + n ∧ Sok g A U ∧ AOk U
theorem Pk.blind {g : Ga} {A : Nat → Prop} {B : Nat} {z : St} {n t : Nat} (av : List Value) : FrameBlind (va_Pc av (Pk g A B z n t)) := fun a U f mk h => ⟨h.1, h.2.1, h.2.2.1, h.2.2.2.1.calling f mk a, va_AO.moved (u := U) (U := U.calling f mk a) (Vm.Alike.refl U.vm) h.2.2.2.2.1, AOG.moved (u := U) (U := U.calling f mk a) (Vm.Alike.refl U.vm) h.2.2.2.2.2⟩
/-- a constructor's contract -/
def CK (l : Launch) (g : Ga) (A : Nat → Prop) (B : Nat) (y : MethodName) (by_ : ByteArray) (mL : Nat) (rm : Room) (as : List Value) (z : St) (n t : Nat) (z2 : St) (n2 t2 mc ms : Nat) : Prop :=
  Met l y (.code y by_ mL none :: wAll) rm (va_Pc as (Pk g A B z n t)) (va_Qv (fun _ : Unit => True) (fun _ U => va_P g.2.1 vwCl (worldN g z2 n2 t2) U.heap) A) mc ms A
def Ck (l : Launch) (g : Ga) (A : Nat → Prop) (B : Nat) (p : Program) (s : State) (m : MethodId) (args : Array Value) (meth : Method) (c : Code) (cc : ByteArray) (nL : Nat) (own : String) (n0 : Nat) : Prop :=
  p.tables.exec = Jvm.exec ∧ c.code = cc ∧ c.maxLocals = nL ∧ s.vm.findClass own = some m.cls ∧ (∀ w ∈ wAll, w.before args s = true) ∧ Bok g A B ∧ Sok g A s ∧ AOk s ∧ s.heap.size = B + n0
def Zk (p : Program) (l : Launch) (e : Env) (R : Room) (s : State) (m : MethodId) (args : Array Value) (below : List Frame) (meth : Method) (c : Code) (g : Ga) (A : Nat → Prop) (B : Nat) (nL : Nat) (Q : State → Prop) (cells slots : Nat) (z : St) (n t : Nat) (pc : Nat) (lv : List (Nat × Value)) (st : List Value) : Prop :=
  ∀ (H : Heap) (locs : List Loc) (ls : Array Slot), va_P g.2.1 vwCl (worldN g z n t) H → va_S A s.heap H locs → lv_has ls nL lv → W p l e R s m args below meth c H locs cells slots Q (F0 m pc ls st)
section ZK
variable {p : Program} {l : Launch} {e : Env} {R : Room} {s : State} {m : MethodId} {args : Array Value} {below : List Frame} {meth : Method} {c : Code} {g : Ga} {A : Nat → Prop} {B nL : Nat} {Q : State → Prop} {cells slots : Nat} {z : St} {n t : Nat} {pc : Nat} {lv : List (Nat × Value)} {st : List Value} {cc by_ : ByteArray} {own : String} {y : MethodName} {rm : Room} {mL ix o n0 : Nat}
theorem w_cap {gg : JFrame} {H : Heap} {locs : List Loc} (k : H.size ≤ s.heap.size + cells → W p l e R s m args below meth c H locs cells slots Q gg) : W p l e R s m args below meth c H locs cells slots Q gg := fun T hT X => k (by have h : T.heap.size ≤ s.heap.size + cells := X.same.2.2.1; rw [← hT]; exact h) T hT X
theorem k_size (C : Ck l g A B p s m args meth c cc nL own n0) {H : Heap} {locs : List Loc} (hP : va_P g.2.1 vwCl (worldN g z n t) H) (hS : va_S A s.heap H locs) (hcap : H.size ≤ s.heap.size + cells) (hcn : n0 + cells = n) : H.size = B + n := by
  have h2 : s.heap.size = B + n0 := C.2.2.2.2.2.2.2.2
  rcases Nat.eq_zero_or_pos n with q | q
  · have h3 := hS.1
    omega
  · have h1 := (hP (n - 1) _ (wN_at (by omega) rfl)).lt
    rw [C.2.2.2.2.2.1.1] at h1
    omega
theorem k_iconst (C : Ck l g A B p s m args meth c cc nL own n0) {q : Int} {v : Int32} (hd : decode cc pc = .ok (.iconst q, 1)) (hv : Int32.ofInt q = v) (kk : Zk p l e R s m args below meth c g A B nL Q cells slots z n t (pc + 1) lv (.int v :: st)) : Zk p l e R s m args below meth c g A B nL Q cells slots z n t pc lv (st) :=
  fun H locs ls hP hS hl => lv_iconst C.1 C.2.1 hd hv (kk H locs ls hP hS hl)
theorem k_bipush (C : Ck l g A B p s m args meth c cc nL own n0) {q : Int} {v : Int32} (hd : decode cc pc = .ok (.bipush q, 2)) (hv : (Int8.ofInt q).toInt32 = v) (kk : Zk p l e R s m args below meth c g A B nL Q cells slots z n t (pc + 2) lv (.int v :: st)) : Zk p l e R s m args below meth c g A B nL Q cells slots z n t pc lv (st) :=
  fun H locs ls hP hS hl => lv_bipush C.1 C.2.1 hd hv (kk H locs ls hP hS hl)
theorem k_sipush (C : Ck l g A B p s m args meth c cc nL own n0) {q : Int} {v : Int32} (hd : decode cc pc = .ok (.sipush q, 3)) (hv : (Int16.ofInt q).toInt32 = v) (kk : Zk p l e R s m args below meth c g A B nL Q cells slots z n t (pc + 3) lv (.int v :: st)) : Zk p l e R s m args below meth c g A B nL Q cells slots z n t pc lv (st) :=
  fun H locs ls hP hS hl => lv_sipush C.1 C.2.1 hd hv (kk H locs ls hP hS hl)
theorem k_iload_n (C : Ck l g A B p s m args meth c cc nL own n0) {j : Fin 4} {i : Nat} {x : Int32} (hd : decode cc pc = .ok (.iload_n j, 1)) (hj : (j : Nat) = i) (k : Nat) (hk : lv[k]? = some (i, .int x)) (kk : Zk p l e R s m args below meth c g A B nL Q cells slots z n t (pc + 1) lv (.int x :: st)) : Zk p l e R s m args below meth c g A B nL Q cells slots z n t pc lv (st) :=
  fun H locs ls hP hS hl => lv_iload_n C.1 C.2.1 hd hj (lv_at hl k hk) (kk H locs ls hP hS hl)
theorem k_aload_n (C : Ck l g A B p s m args meth c cc nL own n0) {j : Fin 4} {i : Nat} {x : Nat} (hd : decode cc pc = .ok (.aload_n j, 1)) (hj : (j : Nat) = i) (k : Nat) (hk : lv[k]? = some (i, .ref x)) (kk : Zk p l e R s m args below meth c g A B nL Q cells slots z n t (pc + 1) lv (.ref x :: st)) : Zk p l e R s m args below meth c g A B nL Q cells slots z n t pc lv (st) :=
  fun H locs ls hP hS hl => lv_aload_n C.1 C.2.1 hd hj (lv_at hl k hk) (kk H locs ls hP hS hl)
theorem k_istore_n (C : Ck l g A B p s m args meth c cc nL own n0) {j : Fin 4} {i : Nat} {x : Int32} {lv2 : List (Nat × Value)} (hd : decode cc pc = .ok (.istore_n j, 1)) (hj : (j : Nat) = i) (hn : i < nL) (hl2 : (i, Value.int x) :: lv.filter (fun q => !(q.1 == i) && !(q.1 + 1 == i && q.2.category == 2)) = lv2) (kk : Zk p l e R s m args below meth c g A B nL Q cells slots z n t (pc + 1) lv2 st) : Zk p l e R s m args below meth c g A B nL Q cells slots z n t pc lv (.int x :: st) :=
  fun H locs ls hP hS hl => lv_istore_n C.1 C.2.1 hd hj hl hn hl2 (fun ls2 hl3 => kk H locs ls2 hP hS hl3)
theorem k_iinc (C : Ck l g A B p s m args meth c cc nL own n0) {i k : Nat} {q : Int} {x v : Int32} {lv2 : List (Nat × Value)} (hd : decode cc pc = .ok (.iinc i q, 3)) (hk : lv[k]? = some (i, .int x)) (hv : x + Int32.ofInt q = v) (hn : i < nL) (hl2 : (i, Value.int v) :: lv.filter (fun q => !(q.1 == i) && !(q.1 + 1 == i && q.2.category == 2)) = lv2) (kk : Zk p l e R s m args below meth c g A B nL Q cells slots z n t (pc + 3) lv2 st) : Zk p l e R s m args below meth c g A B nL Q cells slots z n t pc lv st :=
  fun H locs ls hP hS hl => lv_iinc C.1 C.2.1 hd hl hk hv hn hl2 (fun ls2 hl3 => kk H locs ls2 hP hS hl3)
theorem k_astore_n (C : Ck l g A B p s m args meth c cc nL own n0) {j : Fin 4} {i : Nat} {x : Nat} {lv2 : List (Nat × Value)} (hd : decode cc pc = .ok (.astore_n j, 1)) (hj : (j : Nat) = i) (hn : i < nL) (hl2 : (i, Value.ref x) :: lv.filter (fun q => !(q.1 == i) && !(q.1 + 1 == i && q.2.category == 2)) = lv2) (kk : Zk p l e R s m args below meth c g A B nL Q cells slots z n t (pc + 1) lv2 st) : Zk p l e R s m args below meth c g A B nL Q cells slots z n t pc lv (.ref x :: st) :=
  fun H locs ls hP hS hl => lv_astore_n C.1 C.2.1 hd hj hl hn hl2 (fun ls2 hl3 => kk H locs ls2 hP hS hl3)
theorem k_dup (C : Ck l g A B p s m args meth c cc nL own n0) {v : Value} (hd : decode cc pc = .ok (.dup, 1)) (hv : v.category = 1) (kk : Zk p l e R s m args below meth c g A B nL Q cells slots z n t (pc + 1) lv (v :: v :: st)) : Zk p l e R s m args below meth c g A B nL Q cells slots z n t pc lv (v :: st) :=
  fun H locs ls hP hS hl => lv_dup C.1 C.2.1 hd hv (kk H locs ls hP hS hl)
theorem k_goto (C : Ck l g A B p s m args meth c cc nL own n0) {off : Int} {tgt : Nat} (hd : decode cc pc = .ok (.goto off, 3)) (ht : (pc : Int) + off = (tgt : Int)) (kk : Zk p l e R s m args below meth c g A B nL Q cells slots z n t tgt lv st) : Zk p l e R s m args below meth c g A B nL Q cells slots z n t pc lv st :=
  fun H locs ls hP hS hl => lv_goto C.1 C.2.1 hd ht (kk H locs ls hP hS hl)
theorem k_geT (C : Ck l g A B p s m args meth c cc nL own n0) {x y0 : Int32} {off : Int} {tgt : Nat} (hd : decode cc pc = .ok (.if_icmp .ge off, 3)) (ht : (pc : Int) + off = (tgt : Int)) (h : y0 ≤ x) (kk : Zk p l e R s m args below meth c g A B nL Q cells slots z n t tgt lv st) : Zk p l e R s m args below meth c g A B nL Q cells slots z n t pc lv (.int y0 :: .int x :: st) :=
  fun H locs ls hP hS hl => lv_icmp_ge C.1 C.2.1 hd ht (fun _ => kk H locs ls hP hS hl) (fun q => absurd h q)
theorem k_geF (C : Ck l g A B p s m args meth c cc nL own n0) {x y0 : Int32} {off : Int} {tgt : Nat} (hd : decode cc pc = .ok (.if_icmp .ge off, 3)) (ht : (pc : Int) + off = (tgt : Int)) (h : ¬ y0 ≤ x) (kk : Zk p l e R s m args below meth c g A B nL Q cells slots z n t (pc + 3) lv st) : Zk p l e R s m args below meth c g A B nL Q cells slots z n t pc lv (.int y0 :: .int x :: st) :=
  fun H locs ls hP hS hl => lv_icmp_ge C.1 C.2.1 hd ht (fun q => absurd q h) (fun _ => kk H locs ls hP hS hl)
theorem k_objInit (C : Ck l g A B p s m args meth c cc nL own n0) {a : Nat} (hd : decode cc pc = .ok (.invokespecial ix, 3)) (hl0 : Cond.methodLink own ix Lib.objectInit ∈ wAll) (h1 : Cond.instanceMethod Lib.objectInit ∈ wAll) (h2 : Cond.code Lib.objectInit ⟨#[0xb1]⟩ 1 none ∈ wAll) (hR : 1 ≤ R.frames ∧ 20 ≤ R.locals) (hW : (st.map fun v => v.category).sum ≤ 8) (kk : Zk p l e R s m args below meth c g A B nL Q cells slots z n t (pc + 3) lv st) : Zk p l e R s m args below meth c g A B nL Q cells slots z n t pc lv (.ref a :: st) :=
  fun H locs ls hP hS hl => W.objInit C.1 C.2.1 C.2.2.2.1 (C.2.2.2.2.1 _ hl0) (C.2.2.2.2.1 _ h1) (C.2.2.2.2.1 _ h2) rfl (hl.1.trans C.2.2.1.symm) rfl hd hR.1 (by show 2 * 0 + _ + 12 ≤ _; omega) (W.eq rfl (kk H locs ls hP hS hl))
theorem k_new (C : Ck l g A B p s m args meth c cc nL own n0) {ci N : Nat} {Cn : String} {T : u_T} (hd : decode cc pc = .ok (.new ix, 3)) (ho : kd n = ci) (hci : ci < 12) (hcl : vwCl[ci]? = some (Cn, T, N)) (hin : ∀ w ∈ u_ws Cn T N, w ∈ wAll) (ty : Nat → FieldType) (hty : ∀ k, k < N → parseFieldDescriptor (T k).2.2.1 = some (ty k)) (h1 : Cond.classLink own ix Cn ∈ wAll) (h2 : Cond.instantiable Cn N ∈ wAll) (h3 : Cond.initialized Cn ∈ wAll) (hzf : Zf z n) (hb : (evs.take t).all (fun q => decide (q.1 ≠ n)) = true) (hfs : ∀ (a : Nat → Nat) (j : Nat), j < N → defaultValue (ty j) = vp_V (flN ci a n (fun _ => 0) (fun _ => false)) j) (hcn : n0 + cells = n) (hc : cells + 1 ≤ R.cells ∧ slots + N ≤ R.slots) (kk : Zk p l e R s m args below meth c g A B nL Q (cells + 1) (slots + N) z (n + 1) t (pc + 3) lv (.ref (g.1 n) :: st)) : Zk p l e R s m args below meth c g A B nL Q cells slots z n t pc lv st := by
  intro H locs ls hP hS hl
  refine w_cap (fun hcap => ?_)
  have hz : H.size = B + n := k_size C hP hS hcap hcn
  have hKn := C.2.2.2.2.2.2.1.1.1 ci _ hcl
  refine W.newcK C.1 C.2.1 C.2.2.2.1 (C.2.2.2.2.1 _ h1) (C.2.2.2.2.1 _ h2) (C.2.2.2.2.1 _ h3) rfl hd hc.1 hc.2 hKn.2.1 (hz.trans (C.2.2.2.2.2.1.1 n).symm) fun H1 kC hkC e1 z1 o1 => ?_
  have hk : ∀ (k : Nat) (x : Nat × va_E), (worldN g z n t)[k]? = some x → H1[x.1]? = H[x.1]? := fun k x hx => o1 x.1 (by have := (hP k x hx).lt; rw [hz] at this; rw [C.2.2.2.2.2.1.1 n]; exact this)
  refine kk H1 locs ls ?_ ⟨Nat.le_trans hS.1 (by rw [z1, hz, C.2.2.2.2.2.1.1 n]; omega), fun x h1 h2 => (o1 x (by rw [C.2.2.2.2.2.1.1 n, ← hz]; exact Nat.lt_of_lt_of_le h1 hS.1)).trans (hS.2.1 x h1 h2), hS.2.2⟩ hl
  rw [← wN_push (e := .inr (ci, flN ci g.1 n (fun _ => 0) (fun _ => false))) (by rw [entN_c ho hci, (hzf n (Nat.le_refl n)).1, bA_new hb])]
  refine (hP.kept hk).app (fun k x hx => ?_)
  have h0 : k < 1 := (List.getElem?_eq_some_iff.mp hx).1
  rw [show k = 0 by omega] at hx
  cases hx
  exact ⟨_, hcl, (u_born ty C.2.2.2.2.1 hin hKn hkC e1 hty).to (hfs g.1)⟩
theorem k_newa (C : Ck l g A B p s m args meth c cc nL own n0) {N : Nat} {v : Int32} (hd : decode cc pc = .ok (.newarray .int, 2)) (ho : kd n = 1000 + N) (hn : N < 90000) (hv : v.toNatClampNeg = N) (hv0 : ¬ v < 0) (h1 : Cond.arrayClass .int ∈ wAll) (hzf : Zf z n) (hcn : n0 + cells = n) (hc : cells + 1 ≤ R.cells ∧ slots + N ≤ R.slots) (kk : Zk p l e R s m args below meth c g A B nL Q (cells + 1) (slots + N) z (n + 1) t (pc + 2) lv (.ref (g.1 n) :: st)) : Zk p l e R s m args below meth c g A B nL Q cells slots z n t pc lv (.int v :: st) := by
  intro H locs ls hP hS hl
  refine w_cap (fun hcap => ?_)
  have hz : H.size = B + n := k_size C hP hS hcap hcn
  refine va_newaK (atype := .int) C.1 C.2.1 (C.2.2.2.2.1 _ h1) rfl hd rfl hv0 hv (by show N * 4 ≤ _; omega) hc.1 hc.2 (hz.trans (C.2.2.2.2.2.1.1 n).symm) fun H1 cA e1 z1 o1 hAr hNm => ?_
  have hcA : cA = g.2.2.1.1 := Option.some.inj (hNm.symm.trans (C.2.2.2.2.2.2.1.1.2 0 _ rfl).2)
  subst hcA
  have hk : ∀ (k : Nat) (x : Nat × va_E), (worldN g z n t)[k]? = some x → H1[x.1]? = H[x.1]? := fun k x hx => o1 x.1 (by have := (hP k x hx).lt; rw [hz] at this; rw [C.2.2.2.2.2.1.1 n]; exact this)
  refine kk H1 locs ls ?_ ⟨Nat.le_trans hS.1 (by rw [z1, hz, C.2.2.2.2.2.1.1 n]; omega), fun x h1 h2 => (o1 x (by rw [C.2.2.2.2.2.1.1 n, ← hz]; exact Nat.lt_of_lt_of_le h1 hS.1)).trans (hS.2.1 x h1 h2), hS.2.2⟩ hl
  rw [← wN_push (e := .inl (g.2.2.1.1, N, .inl (fun _ => 0))) (by rw [entN_I ho hn, (hzf n (Nat.le_refl n)).1])]
  refine (hP.kept hk).app (fun k x hx => ?_)
  have h0 : k < 1 := (List.getElem?_eq_some_iff.mp hx).1
  rw [show k = 0 by omega] at hx
  cases hx
  exact e1
theorem k_newaJ (C : Ck l g A B p s m args meth c cc nL own n0) {N : Nat} {v : Int32} (hd : decode cc pc = .ok (.newarray .long, 2)) (ho : kd n = 100000 + N) (hn : N < 90000) (hv : v.toNatClampNeg = N) (hv0 : ¬ v < 0) (h1 : Cond.arrayClass .long ∈ wAll) (hzf : Zf z n) (hcn : n0 + cells = n) (hc : cells + 1 ≤ R.cells ∧ slots + N ≤ R.slots) (kk : Zk p l e R s m args below meth c g A B nL Q (cells + 1) (slots + N) z (n + 1) t (pc + 2) lv (.ref (g.1 n) :: st)) : Zk p l e R s m args below meth c g A B nL Q cells slots z n t pc lv (.int v :: st) := by
  intro H locs ls hP hS hl
  refine w_cap (fun hcap => ?_)
  have hz : H.size = B + n := k_size C hP hS hcap hcn
  refine va_newaK (atype := .long) C.1 C.2.1 (C.2.2.2.2.1 _ h1) rfl hd rfl hv0 hv (by show N * 8 ≤ _; omega) hc.1 hc.2 (hz.trans (C.2.2.2.2.2.1.1 n).symm) fun H1 cA e1 z1 o1 hAr hNm => ?_
  have hcA : cA = g.2.2.1.2.1 := Option.some.inj (hNm.symm.trans (C.2.2.2.2.2.2.1.1.2 1 _ rfl).2)
  subst hcA
  have hk : ∀ (k : Nat) (x : Nat × va_E), (worldN g z n t)[k]? = some x → H1[x.1]? = H[x.1]? := fun k x hx => o1 x.1 (by have := (hP k x hx).lt; rw [hz] at this; rw [C.2.2.2.2.2.1.1 n]; exact this)
  refine kk H1 locs ls ?_ ⟨Nat.le_trans hS.1 (by rw [z1, hz, C.2.2.2.2.2.1.1 n]; omega), fun x h1 h2 => (o1 x (by rw [C.2.2.2.2.2.1.1 n, ← hz]; exact Nat.lt_of_lt_of_le h1 hS.1)).trans (hS.2.1 x h1 h2), hS.2.2⟩ hl
  rw [← wN_push (e := .inl (g.2.2.1.2.1, N, .inr (.inl (fun _ => 0)))) (by rw [entN_J ho, (hzf n (Nat.le_refl n)).2])]
  refine (hP.kept hk).app (fun k x hx => ?_)
  have h0 : k < 1 := (List.getElem?_eq_some_iff.mp hx).1
  rw [show k = 0 by omega] at hx
  cases hx
  exact e1
theorem k_anew (C : Ck l g A B p s m args meth c cc nL own n0) {v : Int32} (hd : decode cc pc = .ok (.anewarray ix, 3)) (ho : kd n = 50) (hv : v.toNatClampNeg = 4) (hv0 : ¬ v < 0) (h1 : Cond.classLink own ix "BenchWithTails$Sheet" ∈ wAll) (hb : (evs.take t).all (fun q => decide (q.1 ≠ n)) = true) (hcn : n0 + cells = n) (hc : cells + 1 ≤ R.cells ∧ slots + 4 ≤ R.slots) (kk : Zk p l e R s m args below meth c g A B nL Q (cells + 1) (slots + 4) z (n + 1) t (pc + 3) lv (.ref (g.1 n) :: st)) : Zk p l e R s m args below meth c g A B nL Q cells slots z n t pc lv (.int v :: st) := by
  intro H locs ls hP hS hl
  refine w_cap (fun hcap => ?_)
  have hz : H.size = B + n := k_size C hP hS hcap hcn
  refine W.anew C.1 C.2.1 C.2.2.2.1 (C.2.2.2.2.1 _ h1) (va_AO.use C.2.2.2.2.2.2.2.1.1) rfl hd rfl hv0 (by rw [hv]; omega) hc.1 (by rw [hv]; exact hc.2) fun cA kA comp f1 f2 f3 f4 => ?_
  rw [hv]
  generalize hH1 : H.push ({ cls := cA, slots := Array.replicate 4 .null, vm := .none } : Cell) = H1
  have z1 : H1.size = H.size + 1 := by rw [← hH1, Array.size_push]
  have e1 : H1[H.size]? = some (arrV cA 4 (fun _ => .null)) := by rw [← hH1, Array.getElem?_push_size, ← arrV_new]
  have o1 : ∀ q : Nat, q < H.size → H1[q]? = H[q]? := fun q hq => by rw [← hH1, Array.getElem?_push, if_neg (Nat.ne_of_lt hq)]
  obtain ⟨kA2, comp2, k1, k2, k3, k4⟩ := (C.2.2.2.2.2.2.1.1.2 2 _ rfl).2
  have hcA : cA = g.2.2.1.2.2.1 := Option.some.inj (f1.symm.trans k4)
  subst hcA
  have hk : ∀ (k : Nat) (x : Nat × va_E), (worldN g z n t)[k]? = some x → H1[x.1]? = H[x.1]? := fun k x hx => o1 x.1 ((hP k x hx).lt)
  have en : H.size = g.1 n := hz.trans (C.2.2.2.2.2.1.1 n).symm
  rw [en] at e1 ⊢
  refine kk H1 locs ls ?_ ⟨Nat.le_trans hS.1 (by rw [z1]; omega), fun x h1 h2 => (o1 x (Nat.lt_of_lt_of_le h1 hS.1)).trans (hS.2.1 x h1 h2), hS.2.2⟩ hl
  rw [← wN_push (e := .inl (g.2.2.1.2.2.1, 4, .inr (.inr (.inr (.inr (fun _ => none)))))) (by rw [entN_S ho, bA_new hb]; rfl)]
  refine (hP.kept hk).app (fun k x hx => ?_)
  have h0 : k < 1 := (List.getElem?_eq_some_iff.mp hx).1
  rw [show k = 0 by omega] at hx
  cases hx
  show H1[g.1 n]? = some (vp_cell _ _)
  rw [vp_cell_q]
  exact e1
theorem k_putA (C : Ck l g A B p s m args meth c cc nL own n0) (hin2 : meth.name = "<init>") {ci k N v : Nat} {Cn ref : String} {T : u_T} {ty : FieldType} (hd : decode cc pc = .ok (.putfield ix, 3)) (ho : kd o = ci) (hon : o < n) (hci : ci < 12) (hcl : vwCl[ci]? = some (Cn, T, N)) (hin : ∀ w ∈ u_ws Cn T N, w ∈ wAll) (ty0 : Nat → FieldType) (hty : ∀ k, k < N → parseFieldDescriptor (T k).2.2.1 = some (ty0 k)) (hnm : ∀ a, a < N → ∀ b, b < N → a ≠ b → (T a).2.1 ≠ (T b).2.1) (hk : k < N) (hlink : Cond.fieldLink own ix ref (T k).2.1 (T k).2.2.1 ∈ wAll) (hsame : (T k).1 = ref) (hown2 : (T k).1 = own) (hfin : (T k).2.2.2 = true) (hpd : parseFieldDescriptor (T k).2.2.1 = some ty) (hn : ∀ x : Nat, narrow ty (.ref x) = .ref x) (hfit : ∀ x : Nat, fits ty (.ref x) = true) (hev : evs[t]? = some (o, k)) (hv : rf o k = v) (hl0 : ∀ (a : Nat → Nat) (b : Nat) (f : Nat → Int32) (q : Nat → Bool), k < (flN ci a b f q).length) (hf : ∀ (f : Nat → Int32) (q : Nat → Bool), flN ci g.1 o f (fun j => if j = k then true else q j) = (flN ci g.1 o f q).set k (.ref (g.1 (rf o k)))) (kk : Zk p l e R s m args below meth c g A B nL Q cells slots z n (t + 1) (pc + 3) lv st) : Zk p l e R s m args below meth c g A B nL Q cells slots z n t pc lv (.ref (g.1 v) :: .ref (g.1 o) :: st) := by
  intro H locs ls hP hS hl
  subst hv
  exact va_putF (ci := ci) C.1 C.2.1 C.2.2.2.2.1 hin ty0 hty hnm C.2.2.2.1 C.2.2.2.2.2.2.1.1 hP (wN_D C.2.2.2.2.2.1 z n t) hS o (wN_at hon (entN_c ho hci)) hcl k hk (C.2.2.2.2.1 _ hlink) (fun _ h => by rw [← hsame]; exact h) hfin hin2 hown2 hpd (hn _) (hfit _) (hl0 _ _ _ _) hd (fun H1 locs1 hP1 _ hS1 => kk H1 locs1 ls (by rw [← wN_set (fun _ _ => rfl) (fun _ _ => rfl) (fun a ha => bA_n hev ha) (by rw [entN_c ho hci, bA_o hev, hf])]; exact hP1) hS1 hl)
theorem k_putI (C : Ck l g A B p s m args meth c cc nL own n0) {ci k N : Nat} {Cn ref : String} {T : u_T} {ty : FieldType} {x : Int32} (hd : decode cc pc = .ok (.putfield ix, 3)) (ho : kd o = ci) (hon : o < n) (hci : ci < 12) (hcl : vwCl[ci]? = some (Cn, T, N)) (hin : ∀ w ∈ u_ws Cn T N, w ∈ wAll) (ty0 : Nat → FieldType) (hty : ∀ k, k < N → parseFieldDescriptor (T k).2.2.1 = some (ty0 k)) (hnm : ∀ a, a < N → ∀ b, b < N → a ≠ b → (T a).2.1 ≠ (T b).2.1) (hk : k < N) (hlink : Cond.fieldLink own ix ref (T k).2.1 (T k).2.2.1 ∈ wAll) (hsame : (T k).1 = ref) (hfin : (T k).2.2.2 = false) (hpd : parseFieldDescriptor (T k).2.2.1 = some ty) (hn : narrow ty (.int x) = .int x) (hfit : fits ty (.int x) = true) (hl0 : ∀ (a : Nat → Nat) (b : Nat) (f : Nat → Int32) (q : Nat → Bool), k < (flN ci a b f q).length) (hf : ∀ (f : Nat → Int32) (q : Nat → Bool), flN ci g.1 o (upd f k x) q = (flN ci g.1 o f q).set k (.int x)) (kk : Zk p l e R s m args below meth c g A B nL Q cells slots (zI z o k x) n t (pc + 3) lv st) : Zk p l e R s m args below meth c g A B nL Q cells slots z n t pc lv (.int x :: .ref (g.1 o) :: st) := by
  intro H locs ls hP hS hl
  exact va_put (ci := ci) C.1 C.2.1 C.2.2.2.2.1 hin ty0 hty hnm C.2.2.2.1 C.2.2.2.2.2.2.1.1 hP (wN_D C.2.2.2.2.2.1 z n t) hS o (wN_at hon (entN_c ho hci)) hcl k hk (C.2.2.2.2.1 _ hlink) (fun _ h => by rw [← hsame]; exact h) hfin hpd hn hfit (hl0 _ _ _ _) hd (fun H1 locs1 hP1 _ hS1 => kk H1 locs1 ls (by rw [← wN_set (fun _ q => zI_n q) (fun _ _ => rfl) (fun _ _ => rfl) (by rw [zI_o, entN_c ho hci, hf])]; exact hP1) hS1 hl)
theorem k_getA (C : Ck l g A B p s m args meth c cc nL own n0) {ci k N v : Nat} {Cn ref : String} {T : u_T} (hd : decode cc pc = .ok (.getfield ix, 3)) (ho : kd o = ci) (hon : o < n) (hci : ci < 12) (hcl : vwCl[ci]? = some (Cn, T, N)) (hin : ∀ w ∈ u_ws Cn T N, w ∈ wAll) (hk : k < N) (hlink : Cond.fieldLink own ix ref (T k).2.1 (T k).2.2.1 ∈ wAll) (hsame : (T k).1 = ref) (hv : ∀ (f : Nat → Int32), (flN ci g.1 o f (bA t o))[k]? = some (.ref (g.1 v))) (kk : Zk p l e R s m args below meth c g A B nL Q cells slots z n t (pc + 3) lv (.ref (g.1 v) :: st)) : Zk p l e R s m args below meth c g A B nL Q cells slots z n t pc lv (.ref (g.1 o) :: st) :=
  fun H locs ls hP hS hl => va_get (ci := ci) C.1 C.2.1 C.2.2.2.2.1 hin C.2.2.2.1 C.2.2.2.2.2.2.1.1 hP o (wN_at hon (entN_c ho hci)) hcl k hk (C.2.2.2.2.1 _ hlink) (fun _ h => by rw [← hsame]; exact h) (hv _) hd (kk H locs ls hP hS hl)
theorem k_iast (C : Ck l g A B p s m args meth c cc nL own n0) {N : Nat} {i x : Int32} (hd : decode cc pc = .ok (.iastore, 1)) (ho : kd o = 1000 + N) (hn : N < 90000) (hon : o < n) (hi : inb i N = true) (kk : Zk p l e R s m args below meth c g A B nL Q cells slots (zI z o i.toNatClampNeg x) n t (pc + 1) lv st) : Zk p l e R s m args below meth c g A B nL Q cells slots z n t pc lv (.int x :: .int i :: .ref (g.1 o) :: st) :=
  fun H locs ls hP hS hl => va_iast C.1 C.2.1 C.2.2.2.2.2.2.1.1 hP (wN_D C.2.2.2.2.2.1 z n t) hS o 0 (wN_at hon (entN_I ho hn)) rfl (inb_in hi) hd (fun H1 locs1 hP1 _ hS1 => kk H1 locs1 ls (by rw [← wN_set (fun _ q => zI_n q) (fun _ _ => rfl) (fun _ _ => rfl) (by rw [zI_o, entN_I ho hn])]; exact hP1) hS1 hl)
theorem k_alenS (C : Ck l g A B p s m args meth c cc nL own n0) (hd : decode cc pc = .ok (.arraylength, 1)) (ho : kd o = 50) (hon : o < n) (kk : Zk p l e R s m args below meth c g A B nL Q cells slots z n t (pc + 1) lv (.int 4 :: st)) : Zk p l e R s m args below meth c g A B nL Q cells slots z n t pc lv (.ref (g.1 o) :: st) :=
  fun H locs ls hP hS hl => va_alen C.1 C.2.1 C.2.2.2.2.2.2.1.1 hP o 2 (wN_at hon (entN_S ho)) rfl rfl hd (kk H locs ls hP hS hl)
theorem k_aast (C : Ck l g A B p s m args meth c cc nL own n0) {i : Int32} {j v : Nat} (hd : decode cc pc = .ok (.aastore, 1)) (ho : kd o = 50) (hon : o < n) (hi : inb i 4 = true) (hj : i.toNatClampNeg = j) (hv : rf o j = v) (hv7 : kd v = 7) (hvn : v < n) (hev : evs[t]? = some (o, j)) (kk : Zk p l e R s m args below meth c g A B nL Q cells slots z n (t + 1) (pc + 1) lv st) : Zk p l e R s m args below meth c g A B nL Q cells slots z n t pc lv (.ref (g.1 v) :: .int i :: .ref (g.1 o) :: st) := by
  intro H locs ls hP hS hl
  refine va_astq C.1 C.2.1 C.2.2.2.2.2.2.1.1 hP (wN_D C.2.2.2.2.2.1 z n t) hS o 2 v 7 (wN_at hon (entN_S ho)) rfl (wN_at hvn (entN_c hv7 (by decide))) rfl (inb_in hi) hd (fun H1 locs1 hP1 _ hS1 => kk H1 locs1 ls ?_ hS1 hl)
  rw [← wN_set (z := z) (t := t) (o := o) (e := .inl (g.2.2.1.2.2.1, 4, .inr (.inr (.inr (.inr (va_up (fun j => if bA t o j = true then some (g.1 (rf o j)) else none) i.toNatClampNeg (some (g.1 v)))))))) (fun _ _ => rfl) (fun _ _ => rfl) (fun a ha => bA_n hev ha) ?_]
  · exact hP1
  · rw [entN_S ho, bA_o hev, hj, ← hv]
    congr 7
    funext q
    by_cases h : q = j
    · subst h
      simp [va_up]
    · simp [va_up, h]
theorem k_callI (C : Ck l g A B p s m args meth c cc nL own n0) {z2 : St} {n2 t2 mc ms : Nat} (hM : CK l g A B y by_ mL rm [.ref (g.1 o)] z n t z2 n2 t2 mc ms) (mw : Cond.instanceMethod y ∈ wAll ∧ Cond.initialized y.cls ∈ wAll ∧ Cond.code y by_ mL none ∈ wAll ∧ y.name = "<init>" ∧ (y.cls ≠ "java/lang/invoke/MethodHandle" ∧ y.cls ≠ "java/lang/invoke/VarHandle" ∧ (parseMethodDescriptor y.desc).map (fun d => d.parameters.length) = some 0)) (hl : Cond.methodLink own ix y ∈ wAll) (hd : decode cc pc = .ok (.invokespecial ix, 3)) (hrc : rm.cells = mc) (hrs : rm.slots = ms) (hR : rm.frames + 1 ≤ R.frames ∧ 8 + (mL + 11) + rm.locals ≤ R.locals) (hW : (st.map fun v => v.category).sum ≤ 8) (hcn : n0 + cells = n) (hc : cells + mc ≤ R.cells ∧ slots + ms ≤ R.slots) (kk : Zk p l e R s m args below meth c g A B nL Q (cells + mc) (slots + ms) z2 n2 t2 (pc + 3) lv st) : Zk p l e R s m args below meth c g A B nL Q cells slots z n t pc lv (.ref (g.1 o) :: st) := by
  intro H locs ls hP hS hl0
  refine w_cap (fun hcap => ?_)
  have hz : H.size = B + n := k_size C hP hS hcap hcn
  refine va_callv (va_runI (As := []) (rest := st) ⟨C.1, C.2.1, C.2.2.1, C.2.2.2.1, C.2.2.2.2.1⟩ hM (cwI 0 C.2.2.2.2.1 (k_code mw.2.2.1) rfl hrc hrs (C.2.2.2.2.1 _ mw.2.1) (C.2.2.2.2.1 _ hl) (C.2.2.2.2.1 _ mw.1) mw.2.2.2.1 mw.2.2.2.2 hR) ⟨Pk.blind _, fun U hU hW2 => ⟨rfl, by rw [hU]; exact hP, by rw [hU]; exact hz, C.2.2.2.2.2.2.1.moved hS hU hW2, va_AO.moved hW2.alike C.2.2.2.2.2.2.2.1.1, AOG.moved hW2.alike C.2.2.2.2.2.2.2.1.2⟩⟩ rfl rfl hl0.1 rfl (lv_room hW) hd hc) hS (fun q _ h => h) (fun q h => h) (fun u t H1 locs1 ht hvm hw hB _ _ hS1 => kk H1 locs1 ls (by rw [← ht]; exact hB) hS1 hl0)
theorem k_callIN (C : Ck l g A B p s m args meth c cc nL own n0) {z2 : St} {n2 t2 mc ms : Nat} (hM : CK l g A B y by_ mL rm [.ref (g.1 o)] z n t z2 n2 t2 mc ms) (mw : Cond.instanceMethod y ∈ wAll ∧ Cond.initialized y.cls ∈ wAll ∧ Cond.code y by_ mL none ∈ wAll ∧ y.name = "<init>" ∧ (y.cls ≠ "java/lang/invoke/MethodHandle" ∧ y.cls ≠ "java/lang/invoke/VarHandle" ∧ (parseMethodDescriptor y.desc).map (fun d => d.parameters.length) = some 0)) {hst : String} (hl : (own, ix, y, hst) ∈ nwM) (hd : decode cc pc = .ok (.invokespecial ix, 3)) (hrc : rm.cells = mc) (hrs : rm.slots = ms) (hR : rm.frames + 1 ≤ R.frames ∧ 8 + (mL + 11) + rm.locals ≤ R.locals) (hW : (st.map fun v => v.category).sum ≤ 8) (hcn : n0 + cells = n) (hc : cells + mc ≤ R.cells ∧ slots + ms ≤ R.slots) (kk : Zk p l e R s m args below meth c g A B nL Q (cells + mc) (slots + ms) z2 n2 t2 (pc + 3) lv st) : Zk p l e R s m args below meth c g A B nL Q cells slots z n t pc lv (.ref (g.1 o) :: st) := by
  intro H locs ls hP hS hl0
  refine w_cap (fun hcap => ?_)
  have hz : H.size = B + n := k_size C hP hS hcap hcn
  refine va_callv (va_runIN (As := []) (rest := st) ⟨C.1, C.2.1, C.2.2.1, C.2.2.2.1, C.2.2.2.2.1⟩ hM ⟨va_cnB 0 C.2.2.2.2.1 (k_code mw.2.2.1) rfl hrc hrs (C.2.2.2.2.2.2.1.2.1.2 _ hl) (C.2.2.2.2.1 _ mw.2.1) mw.2.2.2.2 hR, mw.2.2.2.1, C.2.2.2.2.1 _ mw.1⟩ ⟨Pk.blind _, fun U hU hW2 => ⟨rfl, by rw [hU]; exact hP, by rw [hU]; exact hz, C.2.2.2.2.2.2.1.moved hS hU hW2, va_AO.moved hW2.alike C.2.2.2.2.2.2.2.1.1, AOG.moved hW2.alike C.2.2.2.2.2.2.2.1.2⟩⟩ rfl rfl hl0.1 rfl (lv_room hW) hd hc) hS (fun q _ h => h) (fun q h => h) (fun u t H1 locs1 ht hvm hw hB _ _ hS1 => kk H1 locs1 ls (by rw [← ht]; exact hB) hS1 hl0)
theorem k_vret (C : Ck l g A B p s m args meth c cc nL own n0) (hr : meth.sig.returnType = none) (hk : meth.locks = false) (hd : decode cc pc = .ok (.return_, 1)) : Zk p l e R s m args below meth c g A B nL (MQ below (va_Qv (fun _ : Unit => True) (fun _ U => va_P g.2.1 vwCl (worldN g z n t) U.heap) A) args s cells slots A) cells slots z n t pc lv [] :=
  fun H locs ls hP hS hl => W.vret C.1 C.2.1 hr (fun t9 ht hW => ⟨⟨(), rfl, trivial, by show va_P _ _ _ t9.heap; rw [ht]; exact hP⟩, hS.F ht⟩) hS.2.2 hd hk
end ZK
theorem b50 : ∀ o, o < KN → kd o = 50 → ∀ j, j < 4 → bA 55 o j = true := by decide +kernel
theorem b50n : evs.all (fun q => decide (q.2 < 4) || decide (kd q.1 ≠ 50)) = true := by decide +kernel
theorem eN_50 {g : Ga} {o : Nat} (ho : o < KN) (h : kd o = 50) (f : Nat → Int32) (l : Nat → Int64) : entN g o f l (bA 55 o) = ent g o f l := by
  rw [entN_S h, ent_S h]
  congr 7
  funext j
  by_cases hj : j < 4
  · rw [if_pos hj, if_pos (b50 o ho h j hj)]
  · rw [if_neg hj, if_neg]
    intro q
    unfold bA at q
    rw [List.contains_eq_mem, decide_eq_true_eq] at q
    have := List.all_eq_true.mp b50n _ (List.mem_of_mem_take q)
    simp only [Bool.or_eq_true, decide_eq_true_eq] at this
    rcases this with w | w
    · exact hj w
    · exact w h
theorem eN_51 {g : Ga} {o : Nat} (h : kd o = 51) (f : Nat → Int32) (l : Nat → Int64) (b : Nat → Bool) : entN g o f l b = ent g o f l := by rw [entN_G h, ent_G h]
theorem eN_I {g : Ga} {o n : Nat} (h : kd o = 1000 + n) (hn : n < 90000) (f : Nat → Int32) (l : Nat → Int64) (b : Nat → Bool) : entN g o f l b = ent g o f l := by rw [entN_I h hn, ent_I h hn]
theorem eN_J {g : Ga} {o n : Nat} (h : kd o = 100000 + n) (f : Nat → Int32) (l : Nat → Int64) (b : Nat → Bool) : entN g o f l b = ent g o f l := by rw [entN_J h, ent_J h]
theorem eN_0 (g : Ga) (f : Nat → Int32) (l : Nat → Int64) : entN g 0 f l (bA 55 0) = ent g 0 f l := by rw [entN_c (c := 10) (by decide) (by decide), ent_c (c := 10) (by decide) (by decide)]; rfl
theorem eN_1 (g : Ga) (f : Nat → Int32) (l : Nat → Int64) : entN g 1 f l (bA 55 1) = ent g 1 f l := by rw [entN_c (c := 2) (by decide) (by decide), ent_c (c := 2) (by decide) (by decide)]; rfl
theorem eN_7 (g : Ga) (f : Nat → Int32) (l : Nat → Int64) : entN g 7 f l (bA 55 7) = ent g 7 f l := by rw [entN_c (c := 2) (by decide) (by decide), ent_c (c := 2) (by decide) (by decide)]; rfl
theorem eN_13 (g : Ga) (f : Nat → Int32) (l : Nat → Int64) : entN g 13 f l (bA 55 13) = ent g 13 f l := by rw [entN_c (c := 2) (by decide) (by decide), ent_c (c := 2) (by decide) (by decide)]; rfl
theorem eN_19 (g : Ga) (f : Nat → Int32) (l : Nat → Int64) : entN g 19 f l (bA 55 19) = ent g 19 f l := by rw [entN_c (c := 8) (by decide) (by decide), ent_c (c := 8) (by decide) (by decide)]; rfl
theorem eN_21 (g : Ga) (f : Nat → Int32) (l : Nat → Int64) : entN g 21 f l (bA 55 21) = ent g 21 f l := by rw [entN_c (c := 4) (by decide) (by decide), ent_c (c := 4) (by decide) (by decide)]; rfl
theorem eN_25 (g : Ga) (f : Nat → Int32) (l : Nat → Int64) : entN g 25 f l (bA 55 25) = ent g 25 f l := by rw [entN_c (c := 4) (by decide) (by decide), ent_c (c := 4) (by decide) (by decide)]; rfl
theorem eN_29 (g : Ga) (f : Nat → Int32) (l : Nat → Int64) : entN g 29 f l (bA 55 29) = ent g 29 f l := by rw [entN_c (c := 3) (by decide) (by decide), ent_c (c := 3) (by decide) (by decide)]; rfl
theorem eN_33 (g : Ga) (f : Nat → Int32) (l : Nat → Int64) : entN g 33 f l (bA 55 33) = ent g 33 f l := by rw [entN_c (c := 3) (by decide) (by decide), ent_c (c := 3) (by decide) (by decide)]; rfl
theorem eN_37 (g : Ga) (f : Nat → Int32) (l : Nat → Int64) : entN g 37 f l (bA 55 37) = ent g 37 f l := by rw [entN_c (c := 0) (by decide) (by decide), ent_c (c := 0) (by decide) (by decide)]; rfl
theorem eN_38 (g : Ga) (f : Nat → Int32) (l : Nat → Int64) : entN g 38 f l (bA 55 38) = ent g 38 f l := by rw [entN_c (c := 1) (by decide) (by decide), ent_c (c := 1) (by decide) (by decide)]; rfl
theorem eN_40 (g : Ga) (f : Nat → Int32) (l : Nat → Int64) : entN g 40 f l (bA 55 40) = ent g 40 f l := by rw [entN_c (c := 6) (by decide) (by decide), ent_c (c := 6) (by decide) (by decide)]; rfl
theorem eN_41 (g : Ga) (f : Nat → Int32) (l : Nat → Int64) : entN g 41 f l (bA 55 41) = ent g 41 f l := by rw [entN_c (c := 3) (by decide) (by decide), ent_c (c := 3) (by decide) (by decide)]; rfl
theorem eN_45 (g : Ga) (f : Nat → Int32) (l : Nat → Int64) : entN g 45 f l (bA 55 45) = ent g 45 f l := by rw [entN_c (c := 0) (by decide) (by decide), ent_c (c := 0) (by decide) (by decide)]; rfl
theorem eN_46 (g : Ga) (f : Nat → Int32) (l : Nat → Int64) : entN g 46 f l (bA 55 46) = ent g 46 f l := by rw [entN_c (c := 1) (by decide) (by decide), ent_c (c := 1) (by decide) (by decide)]; rfl
theorem eN_52 (g : Ga) (f : Nat → Int32) (l : Nat → Int64) : entN g 52 f l (bA 55 52) = ent g 52 f l := by rw [entN_c (c := 5) (by decide) (by decide), ent_c (c := 5) (by decide) (by decide)]; rfl
theorem eN_57 (g : Ga) (f : Nat → Int32) (l : Nat → Int64) : entN g 57 f l (bA 55 57) = ent g 57 f l := by rw [entN_c (c := 9) (by decide) (by decide), ent_c (c := 9) (by decide) (by decide)]; rfl
theorem eN_60 (g : Ga) (f : Nat → Int32) (l : Nat → Int64) : entN g 60 f l (bA 55 60) = ent g 60 f l := by rw [entN_c (c := 7) (by decide) (by decide), ent_c (c := 7) (by decide) (by decide)]; rfl
theorem eN_62 (g : Ga) (f : Nat → Int32) (l : Nat → Int64) : entN g 62 f l (bA 55 62) = ent g 62 f l := by rw [entN_c (c := 7) (by decide) (by decide), ent_c (c := 7) (by decide) (by decide)]; rfl
theorem eN_64 (g : Ga) (f : Nat → Int32) (l : Nat → Int64) : entN g 64 f l (bA 55 64) = ent g 64 f l := by rw [entN_c (c := 7) (by decide) (by decide), ent_c (c := 7) (by decide) (by decide)]; rfl
theorem eN_66 (g : Ga) (f : Nat → Int32) (l : Nat → Int64) : entN g 66 f l (bA 55 66) = ent g 66 f l := by rw [entN_c (c := 7) (by decide) (by decide), ent_c (c := 7) (by decide) (by decide)]; rfl
theorem eN_all (g : Ga) : ∀ (o : Nat), o < KN → ∀ (f : Nat → Int32) (l : Nat → Int64), entN g o f l (bA 55 o) = ent g o f l
  | 0, _, f, l => eN_0 g f l
  | 1, _, f, l => eN_1 g f l
  | 2, _, f, l => eN_51 (by decide) f l _
  | 3, _, f, l => eN_I (n := 8) (by decide) (by decide) f l _
  | 4, _, f, l => eN_I (n := 8) (by decide) (by decide) f l _
  | 5, _, f, l => eN_I (n := 8) (by decide) (by decide) f l _
  | 6, _, f, l => eN_I (n := 8) (by decide) (by decide) f l _
  | 7, _, f, l => eN_7 g f l
  | 8, _, f, l => eN_51 (by decide) f l _
  | 9, _, f, l => eN_I (n := 8) (by decide) (by decide) f l _
  | 10, _, f, l => eN_I (n := 8) (by decide) (by decide) f l _
  | 11, _, f, l => eN_I (n := 8) (by decide) (by decide) f l _
  | 12, _, f, l => eN_I (n := 8) (by decide) (by decide) f l _
  | 13, _, f, l => eN_13 g f l
  | 14, _, f, l => eN_51 (by decide) f l _
  | 15, _, f, l => eN_I (n := 8) (by decide) (by decide) f l _
  | 16, _, f, l => eN_I (n := 8) (by decide) (by decide) f l _
  | 17, _, f, l => eN_I (n := 8) (by decide) (by decide) f l _
  | 18, _, f, l => eN_I (n := 8) (by decide) (by decide) f l _
  | 19, _, f, l => eN_19 g f l
  | 20, _, f, l => eN_I (n := 60) (by decide) (by decide) f l _
  | 21, _, f, l => eN_21 g f l
  | 22, _, f, l => eN_I (n := 8) (by decide) (by decide) f l _
  | 23, _, f, l => eN_I (n := 8) (by decide) (by decide) f l _
  | 24, _, f, l => eN_I (n := 8) (by decide) (by decide) f l _
  | 25, _, f, l => eN_25 g f l
  | 26, _, f, l => eN_I (n := 8) (by decide) (by decide) f l _
  | 27, _, f, l => eN_I (n := 8) (by decide) (by decide) f l _
  | 28, _, f, l => eN_I (n := 8) (by decide) (by decide) f l _
  | 29, _, f, l => eN_29 g f l
  | 30, _, f, l => eN_I (n := 8) (by decide) (by decide) f l _
  | 31, _, f, l => eN_I (n := 8) (by decide) (by decide) f l _
  | 32, _, f, l => eN_I (n := 8) (by decide) (by decide) f l _
  | 33, _, f, l => eN_33 g f l
  | 34, _, f, l => eN_I (n := 8) (by decide) (by decide) f l _
  | 35, _, f, l => eN_I (n := 8) (by decide) (by decide) f l _
  | 36, _, f, l => eN_I (n := 8) (by decide) (by decide) f l _
  | 37, _, f, l => eN_37 g f l
  | 38, _, f, l => eN_38 g f l
  | 39, _, f, l => eN_I (n := 8) (by decide) (by decide) f l _
  | 40, _, f, l => eN_40 g f l
  | 41, _, f, l => eN_41 g f l
  | 42, _, f, l => eN_I (n := 8) (by decide) (by decide) f l _
  | 43, _, f, l => eN_I (n := 8) (by decide) (by decide) f l _
  | 44, _, f, l => eN_I (n := 8) (by decide) (by decide) f l _
  | 45, _, f, l => eN_45 g f l
  | 46, _, f, l => eN_46 g f l
  | 47, _, f, l => eN_I (n := 8) (by decide) (by decide) f l _
  | 48, _, f, l => eN_I (n := 1650) (by decide) (by decide) f l _
  | 49, _, f, l => eN_I (n := 1650) (by decide) (by decide) f l _
  | 50, _, f, l => eN_I (n := 1650) (by decide) (by decide) f l _
  | 51, _, f, l => eN_I (n := 1650) (by decide) (by decide) f l _
  | 52, _, f, l => eN_52 g f l
  | 53, _, f, l => eN_I (n := 256) (by decide) (by decide) f l _
  | 54, _, f, l => eN_I (n := 256) (by decide) (by decide) f l _
  | 55, _, f, l => eN_I (n := 512) (by decide) (by decide) f l _
  | 56, _, f, l => eN_I (n := 512) (by decide) (by decide) f l _
  | 57, _, f, l => eN_57 g f l
  | 58, _, f, l => eN_I (n := 8) (by decide) (by decide) f l _
  | 59, _, f, l => eN_50 (by decide) (by decide) f l
  | 60, _, f, l => eN_60 g f l
  | 61, _, f, l => eN_J (n := 40) (by decide) f l _
  | 62, _, f, l => eN_62 g f l
  | 63, _, f, l => eN_J (n := 40) (by decide) f l _
  | 64, _, f, l => eN_64 g f l
  | 65, _, f, l => eN_J (n := 40) (by decide) f l _
  | 66, _, f, l => eN_66 g f l
  | 67, _, f, l => eN_J (n := 40) (by decide) f l _
  | k + 68, h, _, _ => absurd h (by show ¬ k + 68 < 68; omega)
theorem w_full (g : Ga) (z : St) : worldN g z KN 55 = world g z := by
  unfold worldN world
  apply List.map_congr_left
  intro o ho
  rw [eN_all g o (List.mem_range.mp ho)]
theorem Bok.G {g : Ga} {A : Nat → Prop} {B : Nat} (h : Bok g A B) : Gok g A := ⟨fun i j _ _ e => by rw [h.1, h.1] at e; omega, fun i _ => by rw [h.1]; exact h.2 _ (Nat.le_add_right B i)⟩
section ZW
variable {p : Program} {l : Launch} {e : Env} {R : Room} {s : State} {m : MethodId} {args : Array Value} {below : List Frame} {meth : Method} {c : Code} {g : Ga} {A : Nat → Prop} {B nL : Nat} {Q : State → Prop} {cells slots : Nat} {z : St} {pc : Nat} {lv : List (Nat × Value)} {st : List Value} {cc by_ : ByteArray} {own Cn : String} {y : MethodName} {rt : Option FieldType} {rm : Room} {mL ix o n0 ci : Nat}
theorem k_callW (C : Ck l g A B p s m args meth c cc nL own n0) {res : St} (hM : CV l g A y by_ mL rt rm [.ref (g.1 o)] z res) (mw : Mw y Cn by_ mL rt 0) (hl : Cond.methodLink own ix y ∈ wAll) (ho : kd o = ci) (hci : ci < 12) {T : u_T} {N : Nat} (hcl : vwCl[ci]? = some (Cn, T, N)) (hd : decode cc pc = .ok (.invokevirtual ix, 3)) (hrc : rm.cells = 0) (hrs : rm.slots = 0) (hR : rm.frames + 1 ≤ R.frames ∧ 8 + (mL + 11) + rm.locals ≤ R.locals) (hW : (st.map fun v => v.category).sum ≤ 8) (hc : cells ≤ R.cells ∧ slots ≤ R.slots) (kk : Zk p l e R s m args below meth c g A B nL Q cells slots res KN 55 (pc + 3) lv st) : Zk p l e R s m args below meth c g A B nL Q cells slots z KN 55 pc lv (.ref (g.1 o) :: st) := by
  intro H locs ls hP hS hl0
  rw [w_full] at hP
  refine va_callv (va_runV (As := []) (rest := st) ⟨C.1, C.2.1, C.2.2.1, C.2.2.2.1, C.2.2.2.2.1⟩ hM (cwV 0 C.2.2.2.2.1 (k_V mw hl) rfl hrc hrs mw.2.2.2.2 hR) ⟨Pz.blind _, va_recv C.2.2.2.2.2.2.1.1 hP hcl (w_at (kd_lt ho (by omega)) (ent_c ho hci)), fun U hU hW2 => ⟨rfl, by rw [hU]; exact hP, C.2.2.2.2.2.1.G, C.2.2.2.2.2.2.1.moved hS hU hW2⟩⟩ rfl rfl hl0.1 rfl (lv_room hW) hd ⟨hc.1, hc.2⟩) hS (fun q _ h => h) (fun q h => h) (fun u t H1 locs1 ht hvm hw hB _ _ hS1 => by
    subst hw
    exact kk H1 locs1 ls (by rw [w_full, ← ht]; exact hB) hS1 hl0)
end ZW
theorem e_CK {l : Launch} {g : Ga} {A : Nat → Prop} {B : Nat} {y : MethodName} {by_ : ByteArray} {mL mc ms : Nat} {rm : Room} {o : Nat} {z z2 : St} {n t n2 t2 : Nat} (hB : Bok g A B) (hy : plainName y.cls = true) (hlen : 1 ≤ mL) (hnm : y.name = "<init>") (body : ∀ (p : Program) (e : Env) (s : State) (m : MethodId) (args : Array Value) (below : List Frame) (meth : Method) (c : Code), Ck l g A B p s m args meth c by_ mL y.cls n → meth.name = "<init>" → meth.sig.returnType = none → meth.locks = false → Zk p l e rm s m args below meth c g A B mL (MQ below (va_Qv (fun _ : Unit => True) (fun _ U => va_P g.2.1 vwCl (worldN g z2 n2 t2) U.heap) A) args s mc ms A) 0 0 z n t 0 [(0, .ref (g.1 o))] []) : CK l g A B y by_ mL rm [.ref (g.1 o)] z n t z2 n2 t2 mc ms := by
  refine Met.ofW (cc := by_) (maxL := mL) (ret := none) hy rfl ?_
  intro p e s m args below meth c s₁ Bd hml hv
  obtain ⟨rfl, hP, hsz, hO, hAO⟩ := hv
  have hts := atoms_spec (ws := Cond.code y by_ mL none :: wAll) Bd.pre
  have hl := lv_entry [.ref (g.1 o)] (n := mL) hlen
  rw [lg_entry_eq]
  exact body p e s m _ below meth c ⟨Bd.exec, Bd.bytes, hml, findClass_of_methodNamed Bd.named, fun w h => hts w (List.mem_cons_of_mem _ h), hB, hO, hAO, hsz⟩ ((name_of_methodNamed Bd.named Bd.method).1.trans hnm) Bd.returns Bd.notSynchronized s.heap [] _ hP va_S.rf hl
