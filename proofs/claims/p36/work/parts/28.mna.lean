section ZM
variable {p : Program} {l : Launch} {e : Env} {R : Room} {s : State} {m : MethodId} {args : Array Value} {below : List Frame} {meth : Method} {c : Code} {g : Ga} {A : Nat → Prop} {B nL : Nat} {Q : State → Prop} {cells slots : Nat} {z : St} {n t : Nat} {pc : Nat} {lv : List (Nat × Value)} {st : List Value} {cc : ByteArray} {own : String} {ix n0 : Nat}
theorem outer_q (c : ClassId) (h0 : Nat) : ∀ i : Nat, Jvm.Free.Multi.outerC c 4 h0 i = arrV c 4 (fun j => va_rf (if j < i then some (h0 + 1 + j) else none))
  | 0 => by
    show ({ cls := c, slots := Array.replicate 4 .null, vm := .none } : Cell) = _
    rw [arrV_new]
    refine congrArg (arrV c 4) (funext fun j => ?_)
    simp [va_rf]
  | i + 1 => by
    show (Jvm.Free.Multi.outerC c 4 h0 i).setSlot i (.ref (h0 + 1 + i)) = _
    rw [outer_q c h0 i, arrV_store]
    refine congrArg (arrV c 4) (funext fun j => ?_)
    by_cases e : j = i
    · subst e
      simp [updV, va_rf]
    · by_cases h : j < i
      · simp [updV, e, h, Nat.lt_succ_of_lt h]
      · simp [updV, e, h, show ¬ j < i + 1 by omega]
theorem k_mna (C : Ck l g A B p s m args meth c cc nL own n0) (hd : decode cc pc = .ok (.multianewarray ix 2, 4)) (ho : kd n = 51) (hr : ∀ i, i < 4 → kd (n + 1 + i) = 1008 ∧ rf n i = n + 1 + i) (h1 : Cond.classLink own ix "[[I" ∈ wAll) (h2 : Cond.arrayClass .int ∈ wAll) (hzf : Zf z n) (hcn : n0 + cells = n) (hc : cells + 5 ≤ R.cells ∧ slots + 36 ≤ R.slots) (kk : Zk p l e R s m args below meth c g A B nL Q (cells + 5) (slots + 36) z (n + 5) t (pc + 4) lv (.ref (g.1 n) :: st)) : Zk p l e R s m args below meth c g A B nL Q cells slots z n t pc lv (.int 8 :: .int 4 :: st) := by
  intro H locs ls hP hS hl
  refine w_cap (fun hcap => ?_)
  have hz : H.size = B + n := k_size C hP hS hcap hcn
  intro T hT Xs
  obtain ⟨vm₁, cA, comp, -, fA, fC, hO, -, X', step⟩ := Xs.multianewarray2F C.1 (own := own) (index := ix) (ty := .int) C.2.2.2.1 (C.2.2.2.2.1 _ h1) C.2.2.2.2.2.2.2.1.2 (C.2.2.2.2.1 _ h2) (g := F0 m pc ls (.int 8 :: .int 4 :: st)) rfl (by rw [C.2.1]; exact hd) (n := 4) (k := 8) (rest := st) rfl (by decide) (by decide) (by decide) (by decide) (by decide) rfl rfl (by show cells + 5 ≤ _; omega) (by show slots + 36 ≤ _; omega)
  have hK := C.2.2.2.2.2.2.1.1
  have hcA : cA = g.2.2.1.2.2.2 := Option.some.inj (fA.symm.trans (hK.2 3 _ rfl).2)
  have hcI : comp = g.2.2.1.1 := Option.some.inj (fC.symm.trans (hK.2 0 _ rfl).2)
  subst hcA
  subst hcI
  have e4 : (4 : Int32).toNatClampNeg = 4 := by decide
  have e8 : (8 : Int32).toNatClampNeg = 8 := by decide
  rw [e4, e8] at X' step
  generalize hF : Jvm.Free.Multi.fill (T.setVm vm₁) g.2.2.1.2.2.2 g.2.2.1.1 4 8 (defaultValue .int) 4 = F at X' step
  have hTh : (T.setVm vm₁).heap = H := hT
  obtain ⟨f1, f2, -, -⟩ := Jvm.Free.Multi.fill_facts (T.setVm vm₁) g.2.2.1.2.2.2 g.2.2.1.1 4 8 (defaultValue .int) 4
  rw [hF, hTh] at f1 f2
  have hold : ∀ x : Nat, x < H.size → F.heap[x]? = H[x]? := fun x hx => by
    have := Jvm.Free.Multi.fill_old (T.setVm vm₁) g.2.2.1.2.2.2 g.2.2.1.1 4 8 (defaultValue .int) (a := x) (by rw [hTh]; exact hx) 4
    rw [hF, hTh] at this
    exact this
  have hrow : ∀ j : Nat, j < 4 → F.heap[H.size + 1 + j]? = some (arrV g.2.2.1.1 8 (fun _ => .int 0)) := fun j hj => by
    have := Jvm.Free.Multi.fill_inner (T.setVm vm₁) g.2.2.1.2.2.2 g.2.2.1.1 4 8 (defaultValue .int) 4 j hj
    rw [hF, hTh] at this
    rw [this, ← arrV_new]
    rfl
  rw [outer_q] at f2
  have hg : ∀ k, g.1 k = B + k := C.2.2.2.2.2.1.1
  have hW : va_P g.2.1 vwCl (worldN g z (n + 5) t) F.heap := by
    have inn : ∀ i, i < 4 → entN g (n + 1 + i) (z.1 (n + 1 + i)) (z.2 (n + 1 + i)) (bA t (n + 1 + i)) = .inl (g.2.2.1.1, 8, .inl (fun _ => 0)) := fun i hi => by
      rw [entN_I (n := 8) (hr i hi).1 (by decide), (hzf _ (by omega)).1]
    have w0 : worldN g z (n + 5) t = worldN g z n t ++ [(g.1 n, .inl (g.2.2.1.2.2.2, 4, .inr (.inr (.inr (.inr (fun j => if j < 4 then some (g.1 (rf n j)) else none)))))), (g.1 (n + 1), .inl (g.2.2.1.1, 8, .inl (fun _ => 0))), (g.1 (n + 2), .inl (g.2.2.1.1, 8, .inl (fun _ => 0))), (g.1 (n + 3), .inl (g.2.2.1.1, 8, .inl (fun _ => 0))), (g.1 (n + 4), .inl (g.2.2.1.1, 8, .inl (fun _ => 0)))] := by
      rw [← wN_push (n := n + 4) (inn 3 (by decide)), ← wN_push (n := n + 3) (inn 2 (by decide)), ← wN_push (n := n + 2) (inn 1 (by decide)), ← wN_push (n := n + 1) (inn 0 (by decide)), ← wN_push (n := n) (entN_G ho)]
      simp
    rw [w0]
    refine (hP.kept (fun k x hx => hold x.1 ((hP k x hx).lt))).app (fun k x hx => ?_)
    have hk5 : k < 5 := (List.getElem?_eq_some_iff.mp hx).1
    have row : ∀ i, i < 4 → F.heap[g.1 (n + 1 + i)]? = some (vp_cell g.2.2.1.1 (8, .inl (fun _ => 0))) := fun i hi => by
      rw [hg, show B + (n + 1 + i) = H.size + 1 + i by omega]
      exact hrow i hi
    rcases (show k = 0 ∨ k = 1 ∨ k = 2 ∨ k = 3 ∨ k = 4 by omega) with rfl | rfl | rfl | rfl | rfl
    · cases hx
      show F.heap[g.1 n]? = some (vp_cell _ _)
      rw [hg, ← hz, f2, vp_cell_q]
      congr 2
      funext j
      by_cases h : j < 4
      · simp only [h, if_true]
        rw [(hr j h).2, hg]
        congr 2
        omega
      · simp [h]
    · cases hx
      exact row 0 (by decide)
    · cases hx
      exact row 1 (by decide)
    · cases hx
      exact row 2 (by decide)
    · cases hx
      exact row 3 (by decide)
  obtain ⟨tt, a1, b1⟩ := kk F.heap locs ls hW ⟨by rw [f1]; have := hS.1; omega, fun x h1 h2 => (hold x (Nat.lt_of_lt_of_le h1 hS.1)).trans (hS.2.1 x h1 h2), hS.2.2⟩ hl F rfl X'
  refine ⟨tt, step tt ?_, b1⟩
  have e : T.heap.size = g.1 n := by rw [hT, hz, hg]
  rw [e]
  exact a1
end ZM
