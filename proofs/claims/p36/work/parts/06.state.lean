/-! THE STATE of both systems by abstract addresses; its picture in the heap -/
abbrev St : Type := (Nat → Nat → Int32) × (Nat → Nat → Int64)
def zI (z : St) (o k : Nat) (v : Int32) : St := (fun a => if a = o then upd (z.1 a) k v else z.1 a, z.2)
def zL (z : St) (o k : Nat) (v : Int64) : St := (z.1, fun a => if a = o then vp_updL (z.2 a) k v else z.2 a)
def zC (z : St) (o : Nat) (f : Nat → Int64) : St := (z.1, fun a => if a = o then f else z.2 a)
def kdL : List Nat := [10, 2, 51, 1008, 1008, 1008, 1008, 2, 51, 1008, 1008, 1008, 1008, 2, 51, 1008, 1008, 1008, 1008, 8, 1060, 4, 1008, 1008, 1008, 4, 1008, 1008, 1008, 3, 1008, 1008, 1008, 3, 1008, 1008, 1008, 0, 1, 1008, 6, 3, 1008, 1008, 1008, 0, 1, 1008, 2650, 2650, 2650, 2650, 5, 1256, 1256, 1512, 1512, 9, 1008, 50, 7, 100040, 7, 100040, 7, 100040, 7, 100040]
def kd (o : Nat) : Nat := kdL.getD o 999999
def rfL : List (List Nat) := [[1, 7, 13, 19, 21, 25, 29, 33, 37, 38, 40, 52, 57, 59, 0, 0, 0, 0, 0], [2, 0], [3, 4, 5, 6], [], [], [], [], [8, 0], [9, 10, 11, 12], [], [], [], [], [14, 0], [15, 16, 17, 18], [], [], [], [], [20, 0, 0], [], [22, 23, 24, 0], [], [], [], [26, 27, 28, 0], [], [], [], [30, 31, 32, 0, 0, 0, 0, 0], [], [], [], [34, 35, 36, 0, 0, 0, 0, 0], [], [], [], [0, 0, 0, 0, 0, 0, 0], [39, 0, 0], [], [41, 45, 46, 48, 49, 50, 51, 0, 0, 0, 0], [42, 43, 44, 0, 0, 0, 0, 0], [], [], [], [0, 0, 0, 0, 0, 0, 0], [47, 0, 0], [], [], [], [], [], [53, 54, 55, 56, 0, 0], [], [], [], [], [58, 0, 0, 0, 0, 0, 0], [], [60, 62, 64, 66], [61, 0, 0], [], [63, 0, 0], [], [65, 0, 0], [], [67, 0, 0], [], [0, 69, 70, 71, 72, 0, 73, 0, 0, 0, 0, 0, 74, 75, 76, 77, 78, 79, 80, 0, 81, 0, 0, 0, 0, 0, 0, 0, 0, 0, 0, 82, 83, 84, 85, 86, 87, 88, 89, 90, 91, 92, 93, 0, 0, 0, 0, 0, 0, 0, 0, 94, 95, 0, 96, 97, 98], [], [], [], [], [], [], [], [], [], [], [], [], [], [], [], [], [], [], [], [], [], [], [], [], [], [], [], [], [], []]
def rf (o k : Nat) : Nat := (rfL.getD o []).getD k 0
def KN : Nat := 68
theorem kd_lt {o k : Nat} (h : kd o = k) (hk : k ≠ 999999) : o < KN := by
  rcases Nat.lt_or_ge o KN with q | q
  · exact q
  · exact absurd (by rw [← h]; unfold kd; rw [List.getD_eq_getElem?_getD, List.getElem?_eq_none (by exact q)]; rfl) hk
theorem rt_1_0 : ∀ o, o < KN → kd o = 1 → kd (rf o 0) = 1008 := by decide +kernel
theorem rt_2_0 : ∀ o, o < KN → kd o = 2 → kd (rf o 0) = 51 := by decide +kernel
theorem rt_3_0 : ∀ o, o < KN → kd o = 3 → kd (rf o 0) = 1008 := by decide +kernel
theorem rt_3_1 : ∀ o, o < KN → kd o = 3 → kd (rf o 1) = 1008 := by decide +kernel
theorem rt_3_2 : ∀ o, o < KN → kd o = 3 → kd (rf o 2) = 1008 := by decide +kernel
theorem rt_4_0 : ∀ o, o < KN → kd o = 4 → kd (rf o 0) = 1008 := by decide +kernel
theorem rt_4_1 : ∀ o, o < KN → kd o = 4 → kd (rf o 1) = 1008 := by decide +kernel
theorem rt_4_2 : ∀ o, o < KN → kd o = 4 → kd (rf o 2) = 1008 := by decide +kernel
theorem rt_5_0 : ∀ o, o < KN → kd o = 5 → kd (rf o 0) = 1256 := by decide +kernel
theorem rt_5_1 : ∀ o, o < KN → kd o = 5 → kd (rf o 1) = 1256 := by decide +kernel
theorem rt_5_2 : ∀ o, o < KN → kd o = 5 → kd (rf o 2) = 1512 := by decide +kernel
theorem rt_5_3 : ∀ o, o < KN → kd o = 5 → kd (rf o 3) = 1512 := by decide +kernel
theorem rt_6_0 : ∀ o, o < KN → kd o = 6 → kd (rf o 0) = 3 := by decide +kernel
theorem rt_6_1 : ∀ o, o < KN → kd o = 6 → kd (rf o 1) = 0 := by decide +kernel
theorem rt_6_2 : ∀ o, o < KN → kd o = 6 → kd (rf o 2) = 1 := by decide +kernel
theorem rt_6_3 : ∀ o, o < KN → kd o = 6 → kd (rf o 3) = 2650 := by decide +kernel
theorem rt_6_4 : ∀ o, o < KN → kd o = 6 → kd (rf o 4) = 2650 := by decide +kernel
theorem rt_6_5 : ∀ o, o < KN → kd o = 6 → kd (rf o 5) = 2650 := by decide +kernel
theorem rt_6_6 : ∀ o, o < KN → kd o = 6 → kd (rf o 6) = 2650 := by decide +kernel
theorem rt_7_0 : ∀ o, o < KN → kd o = 7 → kd (rf o 0) = 100040 := by decide +kernel
theorem rt_8_0 : ∀ o, o < KN → kd o = 8 → kd (rf o 0) = 1060 := by decide +kernel
theorem rt_9_0 : ∀ o, o < KN → kd o = 9 → kd (rf o 0) = 1008 := by decide +kernel
theorem rt_10_0 : ∀ o, o < KN → kd o = 10 → kd (rf o 0) = 2 := by decide +kernel
theorem rt_10_1 : ∀ o, o < KN → kd o = 10 → kd (rf o 1) = 2 := by decide +kernel
theorem rt_10_2 : ∀ o, o < KN → kd o = 10 → kd (rf o 2) = 2 := by decide +kernel
theorem rt_10_3 : ∀ o, o < KN → kd o = 10 → kd (rf o 3) = 8 := by decide +kernel
theorem rt_10_4 : ∀ o, o < KN → kd o = 10 → kd (rf o 4) = 4 := by decide +kernel
theorem rt_10_5 : ∀ o, o < KN → kd o = 10 → kd (rf o 5) = 4 := by decide +kernel
theorem rt_10_6 : ∀ o, o < KN → kd o = 10 → kd (rf o 6) = 3 := by decide +kernel
theorem rt_10_7 : ∀ o, o < KN → kd o = 10 → kd (rf o 7) = 3 := by decide +kernel
theorem rt_10_8 : ∀ o, o < KN → kd o = 10 → kd (rf o 8) = 0 := by decide +kernel
theorem rt_10_9 : ∀ o, o < KN → kd o = 10 → kd (rf o 9) = 1 := by decide +kernel
theorem rt_10_10 : ∀ o, o < KN → kd o = 10 → kd (rf o 10) = 6 := by decide +kernel
theorem rt_10_11 : ∀ o, o < KN → kd o = 10 → kd (rf o 11) = 5 := by decide +kernel
theorem rt_10_12 : ∀ o, o < KN → kd o = 10 → kd (rf o 12) = 9 := by decide +kernel
theorem rt_10_13 : ∀ o, o < KN → kd o = 10 → kd (rf o 13) = 50 := by decide +kernel
theorem rt_50 : ∀ o, o < KN → kd o = 50 → ∀ j, j < 4 → kd (rf o j) = 7 := by decide +kernel
theorem rt_51 : ∀ o, o < KN → kd o = 51 → ∀ j, j < 4 → kd (rf o j) = 1008 := by decide +kernel
abbrev Ga : Type := (Nat → Nat) × va_G × (ClassId × ClassId × ClassId × ClassId) × (Nat × Nat × Nat)
def fl (c : Nat) (ad : Nat → Nat) (o : Nat) (f : Nat → Int32) : List Value := match c with
  | 0 => [.int (f 0), .int (f 1), .int (f 2), .int (f 3), .int (f 4), .int (f 5), .int (f 6)]
  | 1 => [.ref (ad (rf o 0)), .int (f 1), .int (f 2)]
  | 2 => [.ref (ad (rf o 0)), .int (f 1)]
  | 3 => [.ref (ad (rf o 0)), .ref (ad (rf o 1)), .ref (ad (rf o 2)), .int (f 3), .int (f 4), .int (f 5), .int (f 6), .int (f 7)]
  | 4 => [.ref (ad (rf o 0)), .ref (ad (rf o 1)), .ref (ad (rf o 2)), .int (f 3)]
  | 5 => [.ref (ad (rf o 0)), .ref (ad (rf o 1)), .ref (ad (rf o 2)), .ref (ad (rf o 3)), .int (f 4), .int (f 5)]
  | 6 => [.ref (ad (rf o 0)), .ref (ad (rf o 1)), .ref (ad (rf o 2)), .ref (ad (rf o 3)), .ref (ad (rf o 4)), .ref (ad (rf o 5)), .ref (ad (rf o 6)), .int (f 7), .int (f 8), .int (f 9), .int (f 10)]
  | 7 => [.ref (ad (rf o 0)), .int (f 1), .int (f 2)]
  | 8 => [.ref (ad (rf o 0)), .int (f 1), .int (f 2)]
  | 9 => [.ref (ad (rf o 0)), .int (f 1), .int (f 2), .int (f 3), .int (f 4), .int (f 5), .int (f 6)]
  | 10 => [.ref (ad (rf o 0)), .ref (ad (rf o 1)), .ref (ad (rf o 2)), .ref (ad (rf o 3)), .ref (ad (rf o 4)), .ref (ad (rf o 5)), .ref (ad (rf o 6)), .ref (ad (rf o 7)), .ref (ad (rf o 8)), .ref (ad (rf o 9)), .ref (ad (rf o 10)), .ref (ad (rf o 11)), .ref (ad (rf o 12)), .ref (ad (rf o 13)), .int (f 14), .int (f 15), .int (f 16), .int (f 17), .int (f 18)]
  | _ => []
def ent (g : Ga) (o : Nat) (f : Nat → Int32) (l : Nat → Int64) : va_E :=
  if kd o < 12 then .inr (kd o, fl (kd o) g.1 o f)
  else if kd o = 50 then .inl (g.2.2.1.2.2.1, 4, .inr (.inr (.inr (.inr (fun j => if j < 4 then some (g.1 (rf o j)) else none)))))
  else if kd o = 51 then .inl (g.2.2.1.2.2.2, 4, .inr (.inr (.inr (.inr (fun j => if j < 4 then some (g.1 (rf o j)) else none)))))
  else if kd o < 100000 then .inl (g.2.2.1.1, kd o - 1000, .inl f)
  else .inl (g.2.2.1.2.1, kd o - 100000, .inr (.inl l))
def world (g : Ga) (z : St) : va_W := (List.range KN).map (fun o => (g.1 o, ent g o (z.1 o) (z.2 o)))
theorem w_at {g : Ga} {z : St} {o : Nat} (h : o < KN) {e : va_E} (he : ent g o (z.1 o) (z.2 o) = e) : (world g z)[o]? = some (g.1 o, e) := by
  subst he
  unfold world
  rw [List.getElem?_map, List.getElem?_range h]
  rfl
theorem ent_c {g : Ga} {o c : Nat} {f : Nat → Int32} {l : Nat → Int64} (h : kd o = c) (hc : c < 12) : ent g o f l = .inr (c, fl c g.1 o f) := by
  subst h
  unfold ent
  rw [if_pos hc]
theorem ent_S {g : Ga} {o : Nat} {f : Nat → Int32} {l : Nat → Int64} (h : kd o = 50) : ent g o f l = .inl (g.2.2.1.2.2.1, 4, .inr (.inr (.inr (.inr (fun j => if j < 4 then some (g.1 (rf o j)) else none))))) := by
  unfold ent
  rw [h]
  rfl
theorem ent_G {g : Ga} {o : Nat} {f : Nat → Int32} {l : Nat → Int64} (h : kd o = 51) : ent g o f l = .inl (g.2.2.1.2.2.2, 4, .inr (.inr (.inr (.inr (fun j => if j < 4 then some (g.1 (rf o j)) else none))))) := by
  unfold ent
  rw [h]
  rfl
theorem ent_I {g : Ga} {o n : Nat} {f : Nat → Int32} {l : Nat → Int64} (h : kd o = 1000 + n) (hn : n < 90000) : ent g o f l = .inl (g.2.2.1.1, n, .inl f) := by
  unfold ent
  rw [h, if_neg (by omega), if_neg (by omega), if_neg (by omega), if_pos (by omega), show 1000 + n - 1000 = n by omega]
theorem ent_J {g : Ga} {o n : Nat} {f : Nat → Int32} {l : Nat → Int64} (h : kd o = 100000 + n) : ent g o f l = .inl (g.2.2.1.2.1, n, .inr (.inl l)) := by
  unfold ent
  rw [h, if_neg (by omega), if_neg (by omega), if_neg (by omega), if_neg (by omega), show 100000 + n - 100000 = n by omega]
theorem w_set {g : Ga} {z z' : St} {o : Nat} {e : va_E} (h1 : ∀ a, a ≠ o → z'.1 a = z.1 a) (h2 : ∀ a, a ≠ o → z'.2 a = z.2 a) (he : ent g o (z'.1 o) (z'.2 o) = e) : (world g z).set o (g.1 o, e) = world g z' := by
  subst he
  apply List.ext_getElem?
  intro i
  unfold world
  rw [List.getElem?_set]
  rcases Nat.decEq o i with q | q
  · rw [if_neg q, List.getElem?_map, List.getElem?_map]
    rcases Nat.lt_or_ge i KN with w | w
    · rw [List.getElem?_range w]
      show some (g.1 i, ent g i (z.1 i) (z.2 i)) = some (g.1 i, ent g i (z'.1 i) (z'.2 i))
      rw [h1 i (fun x => q x.symm), h2 i (fun x => q x.symm)]
    · rw [List.getElem?_eq_none (by rw [List.length_range]; exact w)]
      rfl
  · subst q
    rw [if_pos rfl, List.length_map, List.length_range, List.getElem?_map]
    rcases Nat.lt_or_ge o KN with w | w
    · rw [if_pos w, List.getElem?_range w]
      rfl
    · rw [if_neg (by omega), List.getElem?_eq_none (by rw [List.length_range]; exact w)]
      rfl
theorem zI_o {z : St} {o k : Nat} {v : Int32} : (zI z o k v).1 o = upd (z.1 o) k v := if_pos rfl
theorem zI_n {z : St} {o k a : Nat} {v : Int32} (h : a ≠ o) : (zI z o k v).1 a = z.1 a := if_neg h
theorem zL_o {z : St} {o k : Nat} {v : Int64} : (zL z o k v).2 o = vp_updL (z.2 o) k v := if_pos rfl
theorem zL_n {z : St} {o k a : Nat} {v : Int64} (h : a ≠ o) : (zL z o k v).2 a = z.2 a := if_neg h
theorem zC_o {z : St} {o : Nat} {f : Nat → Int64} : (zC z o f).2 o = f := if_pos rfl
theorem zC_n {z : St} {o a : Nat} {f : Nat → Int64} (h : a ≠ o) : (zC z o f).2 a = z.2 a := if_neg h
theorem w_setC {g : Ga} {z : St} {o k c : Nat} {v : Int32} (h : kd o = c) (hc : c < 12) (hf : fl c g.1 o (upd (z.1 o) k v) = (fl c g.1 o (z.1 o)).set k (.int v)) : (world g z).set o (g.1 o, .inr (c, (fl c g.1 o (z.1 o)).set k (.int v))) = world g (zI z o k v) :=
  w_set (fun _ q => zI_n q) (fun _ _ => rfl) (by rw [zI_o, ent_c h hc, hf])
theorem w_setI {g : Ga} {z : St} {o k n : Nat} {v : Int32} (h : kd o = 1000 + n) (hn : n < 90000) : (world g z).set o (g.1 o, .inl (g.2.2.1.1, n, .inl (upd (z.1 o) k v))) = world g (zI z o k v) :=
  w_set (fun _ q => zI_n q) (fun _ _ => rfl) (by rw [zI_o, ent_I h hn])
theorem w_setJ {g : Ga} {z : St} {o k n : Nat} {v : Int64} (h : kd o = 100000 + n) : (world g z).set o (g.1 o, .inl (g.2.2.1.2.1, n, .inr (.inl (vp_updL (z.2 o) k v)))) = world g (zL z o k v) :=
  w_set (fun _ _ => rfl) (fun _ q => zL_n q) (by rw [zL_o, ent_J h])
theorem w_setF {g : Ga} {z : St} {o n : Nat} {f : Nat → Int64} (h : kd o = 100000 + n) : (world g z).set o (g.1 o, .inl (g.2.2.1.2.1, n, .inr (.inl f))) = world g (zC z o f) :=
  w_set (fun _ _ => rfl) (fun _ q => zC_n q) (by rw [zC_o, ent_J h])
def Gok (g : Ga) (A : Nat → Prop) : Prop := (∀ i j, i < KN → j < KN → g.1 i = g.1 j → i = j) ∧ ∀ i, i < KN → A (g.1 i)
theorem w_D {g : Ga} {A : Nat → Prop} (h : Gok g A) (z : St) : va_D A (world g z) := by
  have key : ∀ (k : Nat) (q : Nat × va_E), (world g z)[k]? = some q → k < KN ∧ q.1 = g.1 k := by
    intro k q hq
    unfold world at hq
    rw [List.getElem?_map] at hq
    rcases Nat.lt_or_ge k KN with w | w
    · rw [List.getElem?_range w] at hq
      have e := Option.some.inj hq
      exact ⟨w, by rw [← e]⟩
    · rw [List.getElem?_eq_none (by rw [List.length_range]; exact w)] at hq
      cases hq
  refine ⟨fun i j p q hp hq e => ?_, fun k q hq => ?_⟩
  · obtain ⟨a1, a2⟩ := key i p hp
    obtain ⟨b1, b2⟩ := key j q hq
    exact h.1 i j a1 b1 (by rw [← a2, ← b2, e])
  · obtain ⟨a1, a2⟩ := key k q hq
    rw [a2]
    exact h.2 k a1
theorem in_pos {big ws : List Cond} (ps : List Nat) (hp : ws = ps.filterMap (fun i => big[i]?)) : ∀ w ∈ ws, w ∈ big := by
  intro w hw
  rw [hp] at hw
  obtain ⟨i, -, hi⟩ := List.mem_filterMap.mp hw
  exact List.mem_of_getElem? hi
def wAll : List Cond := lw_tbl.filter goodWord
theorem wa {w : Cond} (i : Nat) (h : lw_tbl[i]? = some w) (hg : goodWord w = true) : w ∈ wAll := List.mem_filter.mpr ⟨List.mem_of_getElem? h, hg⟩
theorem wa_good {w : Cond} (h : w ∈ wAll) : (w.onTables && w.keeps) = true ∨ ∃ ty, w = .arrayClass ty := good_of_word (List.mem_filter.mp h).2
theorem wa_in : GoodIn wAll wAll := fun _ h => ⟨h, wa_good h⟩
theorem wa_list {ws : List Cond} (ps : List Nat) (hp : ws = ps.filterMap (fun i => lw_tbl[i]?)) (hg : ws.all goodWord = true) : ∀ w ∈ ws, w ∈ wAll := fun w h => List.mem_filter.mpr ⟨in_pos ps hp w h, List.all_eq_true.mp hg w h⟩
