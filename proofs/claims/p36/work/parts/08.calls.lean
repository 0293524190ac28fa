/-! what a shallow function's answer says -/
theorem q_ck {α : Type} {c : Bool} {a : Option α} {r : α} (h : (if c = true then a else none) = some r) : c = true ∧ a = some r := by
  cases c
  · cases h
  · exact ⟨rfl, h⟩
theorem q_bd {α β : Type} {a : Option α} {f : α → Option β} {r : β} (h : a.bind f = some r) : ∃ x, a = some x ∧ f x = some r := by
  cases a with
  | none => cases h
  | some x => exact ⟨x, rfl, h⟩
theorem q_t {α : Type} {c : Prop} [Decidable c] {a b : α} {r : α} (h : (if c then a else b) = r) (hc : c) : a = r := by rw [if_pos hc] at h; exact h
theorem q_f {α : Type} {c : Prop} [Decidable c] {a b : α} {r : α} (h : (if c then a else b) = r) (hc : ¬ c) : b = r := by rw [if_neg hc] at h; exact h
theorem q_nz {y : Int32} (h : decide (y ≠ 0) = true) : ¬ y = 0 := of_decide_eq_true h
def zb (v : Int32) : Bool := decide (v &&& 1 = v)
theorem zb_n {v : Int32} (h : zb v = true) : narrow .boolean (.int v) = .int v := by
  have h2 : v &&& 1 = v := by simpa only [zb, decide_eq_true_eq] using h
  show Value.int (v &&& 1) = .int v
  rw [h2]
def Mw (y : MethodName) (Cn : String) (by_ : ByteArray) (mL : Nat) (rt : Option FieldType) (n : Nat) : Prop :=
  Cond.instanceMethod y ∈ wAll ∧ Cond.selects Cn y y ∈ wAll ∧ Cond.initialized Cn ∈ wAll ∧ Cond.code y by_ mL rt ∈ wAll ∧ (y.cls = Cn ∧ y.cls ≠ "java/lang/invoke/MethodHandle" ∧ y.cls ≠ "java/lang/invoke/VarHandle" ∧ (parseMethodDescriptor y.desc).map (fun d => d.parameters.length) = some n)
def Ms (y : MethodName) (by_ : ByteArray) (mL : Nat) (rt : Option FieldType) (n : Nat) : Prop :=
  Cond.static y ∈ wAll ∧ Cond.initialized y.cls ∈ wAll ∧ Cond.code y by_ mL rt ∈ wAll ∧ (y.cls ≠ "java/lang/invoke/MethodHandle" ∧ y.cls ≠ "java/lang/invoke/VarHandle" ∧ (parseMethodDescriptor y.desc).map (fun d => d.parameters.length) = some n)
section ZC
variable {p : Program} {l : Launch} {e : Env} {R : Room} {s : State} {m : MethodId} {args : Array Value} {below : List Frame} {meth : Method} {c : Code} {g : Ga} {A : Nat → Prop} {nL : Nat} {kc : Nat × Nat} {Q : State → Prop} {z z2 : St} {pc : Nat} {lv : List (Nat × Value)} {st stk As : List Value} {cc by_ : ByteArray} {own Cn hst : String} {y : MethodName} {rt : Option FieldType} {rm : Room} {mL n ix o ci : Nat}
theorem k_code (h : Cond.code y by_ mL rt ∈ wAll) : GoodIn wAll (.code y by_ mL rt :: wAll) := fun w hw => (List.mem_cons.mp hw).elim (fun q => q ▸ ⟨h, wa_good h⟩) (fun q => ⟨q, wa_good q⟩)
theorem k_V (mw : Mw y Cn by_ mL rt n) (hl : Cond.methodLink own ix y ∈ wAll) : GoodIn wAll (wsV own ix Cn y (.code y by_ mL rt :: wAll)) := by
  intro w hw
  rcases List.mem_append.mp hw with q | q
  · have : w = Cond.methodLink own ix y ∨ w = Cond.instanceMethod y ∨ w = Cond.selects Cn y y ∨ w = Cond.initialized Cn := by simpa using q
    rcases this with q | q | q | q <;> subst q
    · exact ⟨hl, wa_good hl⟩
    · exact ⟨mw.1, wa_good mw.1⟩
    · exact ⟨mw.2.1, wa_good mw.2.1⟩
    · exact ⟨mw.2.2.1, wa_good mw.2.2.1⟩
  · exact k_code mw.2.2.2.1 w q
theorem k_S (mw : Ms y by_ mL rt n) (hl : Cond.methodLink own ix y ∈ wAll) : GoodIn wAll (va_wsS own ix y (.code y by_ mL rt :: wAll)) := by
  intro w hw
  rcases List.mem_append.mp hw with q | q
  · have : w = Cond.methodLink own ix y ∨ w = Cond.static y ∨ w = Cond.initialized y.cls := by simpa using q
    rcases this with q | q | q <;> subst q
    · exact ⟨hl, wa_good hl⟩
    · exact ⟨mw.1, wa_good mw.1⟩
    · exact ⟨mw.2.1, wa_good mw.2.1⟩
  · exact k_code mw.2.2.1 w q
theorem z_cVi (C : Cx l g A p s m args c cc nL own R kc) {res : St × Int32} (hM : CI l g A y by_ mL rt rm (.ref (g.1 o) :: As) z res) (mw : Mw y Cn by_ mL rt n) (hl : Cond.methodLink own ix y ∈ wAll) (ho : kd o = ci) (hci : ci < 12) {T : u_T} {N : Nat} (hcl : vwCl[ci]? = some (Cn, T, N)) (hd : decode cc pc = .ok (.invokevirtual ix, 3)) (hn : As.length = n) (hrc : rm.cells = 0) (hrs : rm.slots = 0) (hR : rm.frames + 1 ≤ R.frames ∧ 8 + (mL + 11) + rm.locals ≤ R.locals) (hst0 : stk = As.reverse ++ .ref (g.1 o) :: st) (hW : (st.map fun v => v.category).sum ≤ 8) (kk : Zj p l e R s m args below meth c g A nL kc Q res.1 (pc + 3) lv (.int res.2 :: st)) : Zj p l e R s m args below meth c g A nL kc Q z pc lv stk := by
  intro H locs ls hP hS hl0
  subst hst0
  refine va_calli (va_runV (As := As) (rest := st) ⟨C.1, C.2.1, C.2.2.1, C.2.2.2.1, C.2.2.2.2.1⟩ hM (cwV n C.2.2.2.2.1 (k_V mw hl) rfl hrc hrs mw.2.2.2.2 hR) ⟨Pz.blind _, va_recv C.2.2.2.2.2.2.1.1 hP hcl (w_at (kd_lt ho (by omega)) (ent_c ho hci)), fun U hU hW => ⟨rfl, by rw [hU]; exact hP, C.2.2.2.2.2.1, C.2.2.2.2.2.2.1.moved hS hU hW⟩⟩ rfl hn (hl0.1) rfl (lv_room hW) hd ⟨C.2.2.2.2.2.2.2.1, C.2.2.2.2.2.2.2.2⟩) hS (fun q _ h => h) (fun q h => h) (fun r u t H1 locs1 ht hvm hw hB _ _ hS1 => by
    subst hw
    exact kk H1 locs1 ls (by rw [← ht]; exact hB) hS1 hl0)
theorem z_cVl (C : Cx l g A p s m args c cc nL own R kc) {res : St × Int64} (hM : CJ l g A y by_ mL rt rm (.ref (g.1 o) :: As) z res) (mw : Mw y Cn by_ mL rt n) (hl : Cond.methodLink own ix y ∈ wAll) (ho : kd o = ci) (hci : ci < 12) {T : u_T} {N : Nat} (hcl : vwCl[ci]? = some (Cn, T, N)) (hd : decode cc pc = .ok (.invokevirtual ix, 3)) (hn : As.length = n) (hrc : rm.cells = 0) (hrs : rm.slots = 0) (hR : rm.frames + 1 ≤ R.frames ∧ 8 + (mL + 11) + rm.locals ≤ R.locals) (hst0 : stk = As.reverse ++ .ref (g.1 o) :: st) (hW : (st.map fun v => v.category).sum ≤ 8) (kk : Zj p l e R s m args below meth c g A nL kc Q res.1 (pc + 3) lv (.long res.2 :: st)) : Zj p l e R s m args below meth c g A nL kc Q z pc lv stk := by
  intro H locs ls hP hS hl0
  subst hst0
  refine va_calll (va_runV (As := As) (rest := st) ⟨C.1, C.2.1, C.2.2.1, C.2.2.2.1, C.2.2.2.2.1⟩ hM (cwV n C.2.2.2.2.1 (k_V mw hl) rfl hrc hrs mw.2.2.2.2 hR) ⟨Pz.blind _, va_recv C.2.2.2.2.2.2.1.1 hP hcl (w_at (kd_lt ho (by omega)) (ent_c ho hci)), fun U hU hW => ⟨rfl, by rw [hU]; exact hP, C.2.2.2.2.2.1, C.2.2.2.2.2.2.1.moved hS hU hW⟩⟩ rfl hn (hl0.1) rfl (lv_room hW) hd ⟨C.2.2.2.2.2.2.2.1, C.2.2.2.2.2.2.2.2⟩) hS (fun q _ h => h) (fun q h => h) (fun r u t H1 locs1 ht hvm hw hB _ _ hS1 => by
    subst hw
    exact kk H1 locs1 ls (by rw [← ht]; exact hB) hS1 hl0)
theorem z_cVv (C : Cx l g A p s m args c cc nL own R kc) {res : St} (hM : CV l g A y by_ mL rt rm (.ref (g.1 o) :: As) z res) (mw : Mw y Cn by_ mL rt n) (hl : Cond.methodLink own ix y ∈ wAll) (ho : kd o = ci) (hci : ci < 12) {T : u_T} {N : Nat} (hcl : vwCl[ci]? = some (Cn, T, N)) (hd : decode cc pc = .ok (.invokevirtual ix, 3)) (hn : As.length = n) (hrc : rm.cells = 0) (hrs : rm.slots = 0) (hR : rm.frames + 1 ≤ R.frames ∧ 8 + (mL + 11) + rm.locals ≤ R.locals) (hst0 : stk = As.reverse ++ .ref (g.1 o) :: st) (hW : (st.map fun v => v.category).sum ≤ 8) (kk : Zj p l e R s m args below meth c g A nL kc Q res (pc + 3) lv st) : Zj p l e R s m args below meth c g A nL kc Q z pc lv stk := by
  intro H locs ls hP hS hl0
  subst hst0
  refine va_callv (va_runV (As := As) (rest := st) ⟨C.1, C.2.1, C.2.2.1, C.2.2.2.1, C.2.2.2.2.1⟩ hM (cwV n C.2.2.2.2.1 (k_V mw hl) rfl hrc hrs mw.2.2.2.2 hR) ⟨Pz.blind _, va_recv C.2.2.2.2.2.2.1.1 hP hcl (w_at (kd_lt ho (by omega)) (ent_c ho hci)), fun U hU hW => ⟨rfl, by rw [hU]; exact hP, C.2.2.2.2.2.1, C.2.2.2.2.2.2.1.moved hS hU hW⟩⟩ rfl hn (hl0.1) rfl (lv_room hW) hd ⟨C.2.2.2.2.2.2.2.1, C.2.2.2.2.2.2.2.2⟩) hS (fun q _ h => h) (fun q h => h) (fun u t H1 locs1 ht hvm hw hB _ _ hS1 => by
    subst hw
    exact kk H1 locs1 ls (by rw [← ht]; exact hB) hS1 hl0)
theorem z_cVNi (C : Cx l g A p s m args c cc nL own R kc) {res : St × Int32} (hM : CI l g A y by_ mL rt rm (.ref (g.1 o) :: As) z res) (mw : Mw y Cn by_ mL rt n) (hl : (own, ix, y, hst) ∈ nwM) (ho : kd o = ci) (hci : ci < 12) {T : u_T} {N : Nat} (hcl : vwCl[ci]? = some (Cn, T, N)) (hd : decode cc pc = .ok (.invokevirtual ix, 3)) (hn : As.length = n) (hrc : rm.cells = 0) (hrs : rm.slots = 0) (hR : rm.frames + 1 ≤ R.frames ∧ 8 + (mL + 11) + rm.locals ≤ R.locals) (hst0 : stk = As.reverse ++ .ref (g.1 o) :: st) (hW : (st.map fun v => v.category).sum ≤ 8) (kk : Zj p l e R s m args below meth c g A nL kc Q res.1 (pc + 3) lv (.int res.2 :: st)) : Zj p l e R s m args below meth c g A nL kc Q z pc lv stk := by
  intro H locs ls hP hS hl0
  subst hst0
  refine va_calli (va_runVN (As := As) (rest := st) ⟨C.1, C.2.1, C.2.2.1, C.2.2.2.1, C.2.2.2.2.1⟩ hM ⟨va_cnB n C.2.2.2.2.1 (k_code mw.2.2.2.1) rfl hrc hrs (C.2.2.2.2.2.2.1.2.1.2 _ hl) (C.2.2.2.2.1 _ (mw.2.2.2.2.1 ▸ mw.2.2.1)) mw.2.2.2.2.2 hR, C.2.2.2.2.1 _ mw.1, C.2.2.2.2.1 _ mw.2.1⟩ ⟨Pz.blind _, va_recv C.2.2.2.2.2.2.1.1 hP hcl (w_at (kd_lt ho (by omega)) (ent_c ho hci)), fun U hU hW => ⟨rfl, by rw [hU]; exact hP, C.2.2.2.2.2.1, C.2.2.2.2.2.2.1.moved hS hU hW⟩⟩ rfl hn (hl0.1) rfl (lv_room hW) hd ⟨C.2.2.2.2.2.2.2.1, C.2.2.2.2.2.2.2.2⟩) hS (fun q _ h => h) (fun q h => h) (fun r u t H1 locs1 ht hvm hw hB _ _ hS1 => by
    subst hw
    exact kk H1 locs1 ls (by rw [← ht]; exact hB) hS1 hl0)
theorem z_cVNl (C : Cx l g A p s m args c cc nL own R kc) {res : St × Int64} (hM : CJ l g A y by_ mL rt rm (.ref (g.1 o) :: As) z res) (mw : Mw y Cn by_ mL rt n) (hl : (own, ix, y, hst) ∈ nwM) (ho : kd o = ci) (hci : ci < 12) {T : u_T} {N : Nat} (hcl : vwCl[ci]? = some (Cn, T, N)) (hd : decode cc pc = .ok (.invokevirtual ix, 3)) (hn : As.length = n) (hrc : rm.cells = 0) (hrs : rm.slots = 0) (hR : rm.frames + 1 ≤ R.frames ∧ 8 + (mL + 11) + rm.locals ≤ R.locals) (hst0 : stk = As.reverse ++ .ref (g.1 o) :: st) (hW : (st.map fun v => v.category).sum ≤ 8) (kk : Zj p l e R s m args below meth c g A nL kc Q res.1 (pc + 3) lv (.long res.2 :: st)) : Zj p l e R s m args below meth c g A nL kc Q z pc lv stk := by
  intro H locs ls hP hS hl0
  subst hst0
  refine va_calll (va_runVN (As := As) (rest := st) ⟨C.1, C.2.1, C.2.2.1, C.2.2.2.1, C.2.2.2.2.1⟩ hM ⟨va_cnB n C.2.2.2.2.1 (k_code mw.2.2.2.1) rfl hrc hrs (C.2.2.2.2.2.2.1.2.1.2 _ hl) (C.2.2.2.2.1 _ (mw.2.2.2.2.1 ▸ mw.2.2.1)) mw.2.2.2.2.2 hR, C.2.2.2.2.1 _ mw.1, C.2.2.2.2.1 _ mw.2.1⟩ ⟨Pz.blind _, va_recv C.2.2.2.2.2.2.1.1 hP hcl (w_at (kd_lt ho (by omega)) (ent_c ho hci)), fun U hU hW => ⟨rfl, by rw [hU]; exact hP, C.2.2.2.2.2.1, C.2.2.2.2.2.2.1.moved hS hU hW⟩⟩ rfl hn (hl0.1) rfl (lv_room hW) hd ⟨C.2.2.2.2.2.2.2.1, C.2.2.2.2.2.2.2.2⟩) hS (fun q _ h => h) (fun q h => h) (fun r u t H1 locs1 ht hvm hw hB _ _ hS1 => by
    subst hw
    exact kk H1 locs1 ls (by rw [← ht]; exact hB) hS1 hl0)
theorem z_cVNv (C : Cx l g A p s m args c cc nL own R kc) {res : St} (hM : CV l g A y by_ mL rt rm (.ref (g.1 o) :: As) z res) (mw : Mw y Cn by_ mL rt n) (hl : (own, ix, y, hst) ∈ nwM) (ho : kd o = ci) (hci : ci < 12) {T : u_T} {N : Nat} (hcl : vwCl[ci]? = some (Cn, T, N)) (hd : decode cc pc = .ok (.invokevirtual ix, 3)) (hn : As.length = n) (hrc : rm.cells = 0) (hrs : rm.slots = 0) (hR : rm.frames + 1 ≤ R.frames ∧ 8 + (mL + 11) + rm.locals ≤ R.locals) (hst0 : stk = As.reverse ++ .ref (g.1 o) :: st) (hW : (st.map fun v => v.category).sum ≤ 8) (kk : Zj p l e R s m args below meth c g A nL kc Q res (pc + 3) lv st) : Zj p l e R s m args below meth c g A nL kc Q z pc lv stk := by
  intro H locs ls hP hS hl0
  subst hst0
  refine va_callv (va_runVN (As := As) (rest := st) ⟨C.1, C.2.1, C.2.2.1, C.2.2.2.1, C.2.2.2.2.1⟩ hM ⟨va_cnB n C.2.2.2.2.1 (k_code mw.2.2.2.1) rfl hrc hrs (C.2.2.2.2.2.2.1.2.1.2 _ hl) (C.2.2.2.2.1 _ (mw.2.2.2.2.1 ▸ mw.2.2.1)) mw.2.2.2.2.2 hR, C.2.2.2.2.1 _ mw.1, C.2.2.2.2.1 _ mw.2.1⟩ ⟨Pz.blind _, va_recv C.2.2.2.2.2.2.1.1 hP hcl (w_at (kd_lt ho (by omega)) (ent_c ho hci)), fun U hU hW => ⟨rfl, by rw [hU]; exact hP, C.2.2.2.2.2.1, C.2.2.2.2.2.2.1.moved hS hU hW⟩⟩ rfl hn (hl0.1) rfl (lv_room hW) hd ⟨C.2.2.2.2.2.2.2.1, C.2.2.2.2.2.2.2.2⟩) hS (fun q _ h => h) (fun q h => h) (fun u t H1 locs1 ht hvm hw hB _ _ hS1 => by
    subst hw
    exact kk H1 locs1 ls (by rw [← ht]; exact hB) hS1 hl0)
theorem z_cSi (C : Cx l g A p s m args c cc nL own R kc) {res : St × Int32} (hM : CI l g A y by_ mL rt rm (As) z res) (mw : Ms y by_ mL rt n) (hl : Cond.methodLink own ix y ∈ wAll)  (hd : decode cc pc = .ok (.invokestatic ix, 3)) (hn : As.length = n) (hrc : rm.cells = 0) (hrs : rm.slots = 0) (hR : rm.frames + 1 ≤ R.frames ∧ 8 + (mL + 11) + rm.locals ≤ R.locals) (hst0 : stk = As.reverse ++ st) (hW : (st.map fun v => v.category).sum ≤ 8) (kk : Zj p l e R s m args below meth c g A nL kc Q res.1 (pc + 3) lv (.int res.2 :: st)) : Zj p l e R s m args below meth c g A nL kc Q z pc lv stk := by
  intro H locs ls hP hS hl0
  subst hst0
  refine va_calli (va_runS (As := As) (rest := st) ⟨C.1, C.2.1, C.2.2.1, C.2.2.2.1, C.2.2.2.2.1⟩ hM (va_cwS n C.2.2.2.2.1 (k_S mw hl) rfl hrc hrs mw.2.2.2 hR) ⟨Pz.blind _, fun U hU hW => ⟨rfl, by rw [hU]; exact hP, C.2.2.2.2.2.1, C.2.2.2.2.2.2.1.moved hS hU hW⟩⟩ rfl hn (hl0.1) rfl (lv_room hW) hd ⟨C.2.2.2.2.2.2.2.1, C.2.2.2.2.2.2.2.2⟩) hS (fun q _ h => h) (fun q h => h) (fun r u t H1 locs1 ht hvm hw hB _ _ hS1 => by
    subst hw
    exact kk H1 locs1 ls (by rw [← ht]; exact hB) hS1 hl0)
theorem z_cSl (C : Cx l g A p s m args c cc nL own R kc) {res : St × Int64} (hM : CJ l g A y by_ mL rt rm (As) z res) (mw : Ms y by_ mL rt n) (hl : Cond.methodLink own ix y ∈ wAll)  (hd : decode cc pc = .ok (.invokestatic ix, 3)) (hn : As.length = n) (hrc : rm.cells = 0) (hrs : rm.slots = 0) (hR : rm.frames + 1 ≤ R.frames ∧ 8 + (mL + 11) + rm.locals ≤ R.locals) (hst0 : stk = As.reverse ++ st) (hW : (st.map fun v => v.category).sum ≤ 8) (kk : Zj p l e R s m args below meth c g A nL kc Q res.1 (pc + 3) lv (.long res.2 :: st)) : Zj p l e R s m args below meth c g A nL kc Q z pc lv stk := by
  intro H locs ls hP hS hl0
  subst hst0
  refine va_calll (va_runS (As := As) (rest := st) ⟨C.1, C.2.1, C.2.2.1, C.2.2.2.1, C.2.2.2.2.1⟩ hM (va_cwS n C.2.2.2.2.1 (k_S mw hl) rfl hrc hrs mw.2.2.2 hR) ⟨Pz.blind _, fun U hU hW => ⟨rfl, by rw [hU]; exact hP, C.2.2.2.2.2.1, C.2.2.2.2.2.2.1.moved hS hU hW⟩⟩ rfl hn (hl0.1) rfl (lv_room hW) hd ⟨C.2.2.2.2.2.2.2.1, C.2.2.2.2.2.2.2.2⟩) hS (fun q _ h => h) (fun q h => h) (fun r u t H1 locs1 ht hvm hw hB _ _ hS1 => by
    subst hw
    exact kk H1 locs1 ls (by rw [← ht]; exact hB) hS1 hl0)
theorem z_cSv (C : Cx l g A p s m args c cc nL own R kc) {res : St} (hM : CV l g A y by_ mL rt rm (As) z res) (mw : Ms y by_ mL rt n) (hl : Cond.methodLink own ix y ∈ wAll)  (hd : decode cc pc = .ok (.invokestatic ix, 3)) (hn : As.length = n) (hrc : rm.cells = 0) (hrs : rm.slots = 0) (hR : rm.frames + 1 ≤ R.frames ∧ 8 + (mL + 11) + rm.locals ≤ R.locals) (hst0 : stk = As.reverse ++ st) (hW : (st.map fun v => v.category).sum ≤ 8) (kk : Zj p l e R s m args below meth c g A nL kc Q res (pc + 3) lv st) : Zj p l e R s m args below meth c g A nL kc Q z pc lv stk := by
  intro H locs ls hP hS hl0
  subst hst0
  refine va_callv (va_runS (As := As) (rest := st) ⟨C.1, C.2.1, C.2.2.1, C.2.2.2.1, C.2.2.2.2.1⟩ hM (va_cwS n C.2.2.2.2.1 (k_S mw hl) rfl hrc hrs mw.2.2.2 hR) ⟨Pz.blind _, fun U hU hW => ⟨rfl, by rw [hU]; exact hP, C.2.2.2.2.2.1, C.2.2.2.2.2.2.1.moved hS hU hW⟩⟩ rfl hn (hl0.1) rfl (lv_room hW) hd ⟨C.2.2.2.2.2.2.2.1, C.2.2.2.2.2.2.2.2⟩) hS (fun q _ h => h) (fun q h => h) (fun u t H1 locs1 ht hvm hw hB _ _ hS1 => by
    subst hw
    exact kk H1 locs1 ls (by rw [← ht]; exact hB) hS1 hl0)
theorem z_cSNi (C : Cx l g A p s m args c cc nL own R kc) {res : St × Int32} (hM : CI l g A y by_ mL rt rm (As) z res) (mw : Ms y by_ mL rt n) (hl : (own, ix, y, hst) ∈ nwM)  (hd : decode cc pc = .ok (.invokestatic ix, 3)) (hn : As.length = n) (hrc : rm.cells = 0) (hrs : rm.slots = 0) (hR : rm.frames + 1 ≤ R.frames ∧ 8 + (mL + 11) + rm.locals ≤ R.locals) (hst0 : stk = As.reverse ++ st) (hW : (st.map fun v => v.category).sum ≤ 8) (kk : Zj p l e R s m args below meth c g A nL kc Q res.1 (pc + 3) lv (.int res.2 :: st)) : Zj p l e R s m args below meth c g A nL kc Q z pc lv stk := by
  intro H locs ls hP hS hl0
  subst hst0
  refine va_calli (va_runSN (As := As) (rest := st) ⟨C.1, C.2.1, C.2.2.1, C.2.2.2.1, C.2.2.2.2.1⟩ hM ⟨va_cnB n C.2.2.2.2.1 (k_code mw.2.2.1) rfl hrc hrs (C.2.2.2.2.2.2.1.2.1.2 _ hl) (C.2.2.2.2.1 _ mw.2.1) mw.2.2.2 hR, C.2.2.2.2.1 _ mw.1, trivial⟩ ⟨Pz.blind _, fun U hU hW => ⟨rfl, by rw [hU]; exact hP, C.2.2.2.2.2.1, C.2.2.2.2.2.2.1.moved hS hU hW⟩⟩ rfl hn (hl0.1) rfl (lv_room hW) hd ⟨C.2.2.2.2.2.2.2.1, C.2.2.2.2.2.2.2.2⟩) hS (fun q _ h => h) (fun q h => h) (fun r u t H1 locs1 ht hvm hw hB _ _ hS1 => by
    subst hw
    exact kk H1 locs1 ls (by rw [← ht]; exact hB) hS1 hl0)
theorem z_cSNl (C : Cx l g A p s m args c cc nL own R kc) {res : St × Int64} (hM : CJ l g A y by_ mL rt rm (As) z res) (mw : Ms y by_ mL rt n) (hl : (own, ix, y, hst) ∈ nwM)  (hd : decode cc pc = .ok (.invokestatic ix, 3)) (hn : As.length = n) (hrc : rm.cells = 0) (hrs : rm.slots = 0) (hR : rm.frames + 1 ≤ R.frames ∧ 8 + (mL + 11) + rm.locals ≤ R.locals) (hst0 : stk = As.reverse ++ st) (hW : (st.map fun v => v.category).sum ≤ 8) (kk : Zj p l e R s m args below meth c g A nL kc Q res.1 (pc + 3) lv (.long res.2 :: st)) : Zj p l e R s m args below meth c g A nL kc Q z pc lv stk := by
  intro H locs ls hP hS hl0
  subst hst0
  refine va_calll (va_runSN (As := As) (rest := st) ⟨C.1, C.2.1, C.2.2.1, C.2.2.2.1, C.2.2.2.2.1⟩ hM ⟨va_cnB n C.2.2.2.2.1 (k_code mw.2.2.1) rfl hrc hrs (C.2.2.2.2.2.2.1.2.1.2 _ hl) (C.2.2.2.2.1 _ mw.2.1) mw.2.2.2 hR, C.2.2.2.2.1 _ mw.1, trivial⟩ ⟨Pz.blind _, fun U hU hW => ⟨rfl, by rw [hU]; exact hP, C.2.2.2.2.2.1, C.2.2.2.2.2.2.1.moved hS hU hW⟩⟩ rfl hn (hl0.1) rfl (lv_room hW) hd ⟨C.2.2.2.2.2.2.2.1, C.2.2.2.2.2.2.2.2⟩) hS (fun q _ h => h) (fun q h => h) (fun r u t H1 locs1 ht hvm hw hB _ _ hS1 => by
    subst hw
    exact kk H1 locs1 ls (by rw [← ht]; exact hB) hS1 hl0)
theorem z_cSNv (C : Cx l g A p s m args c cc nL own R kc) {res : St} (hM : CV l g A y by_ mL rt rm (As) z res) (mw : Ms y by_ mL rt n) (hl : (own, ix, y, hst) ∈ nwM)  (hd : decode cc pc = .ok (.invokestatic ix, 3)) (hn : As.length = n) (hrc : rm.cells = 0) (hrs : rm.slots = 0) (hR : rm.frames + 1 ≤ R.frames ∧ 8 + (mL + 11) + rm.locals ≤ R.locals) (hst0 : stk = As.reverse ++ st) (hW : (st.map fun v => v.category).sum ≤ 8) (kk : Zj p l e R s m args below meth c g A nL kc Q res (pc + 3) lv st) : Zj p l e R s m args below meth c g A nL kc Q z pc lv stk := by
  intro H locs ls hP hS hl0
  subst hst0
  refine va_callv (va_runSN (As := As) (rest := st) ⟨C.1, C.2.1, C.2.2.1, C.2.2.2.1, C.2.2.2.2.1⟩ hM ⟨va_cnB n C.2.2.2.2.1 (k_code mw.2.2.1) rfl hrc hrs (C.2.2.2.2.2.2.1.2.1.2 _ hl) (C.2.2.2.2.1 _ mw.2.1) mw.2.2.2 hR, C.2.2.2.2.1 _ mw.1, trivial⟩ ⟨Pz.blind _, fun U hU hW => ⟨rfl, by rw [hU]; exact hP, C.2.2.2.2.2.1, C.2.2.2.2.2.2.1.moved hS hU hW⟩⟩ rfl hn (hl0.1) rfl (lv_room hW) hd ⟨C.2.2.2.2.2.2.2.1, C.2.2.2.2.2.2.2.2⟩) hS (fun q _ h => h) (fun q h => h) (fun u t H1 locs1 ht hvm hw hB _ _ hS1 => by
    subst hw
    exact kk H1 locs1 ls (by rw [← ht]; exact hB) hS1 hl0)
theorem z_mmax (C : Cx l g A p s m args c cc nL own R kc) {x y0 : Int32} (hd : decode cc pc = .ok (.invokestatic ix, 3)) (hl : Cond.methodLink own ix Lib.Math.max.name ∈ wAll) (hs : Cond.static Lib.Math.max.name ∈ wAll) (hi : Cond.initialized "java/lang/Math" ∈ wAll) (hc : Cond.code Lib.Math.max.name Lib.Math.max.code 2 (some .int) ∈ wAll) (hR : 1 ≤ R.frames ∧ 21 ≤ R.locals) (hW : (st.map fun v => v.category).sum ≤ 8) (kk : Zj p l e R s m args below meth c g A nL kc Q z (pc + 3) lv (.int (if x < y0 then y0 else x) :: st)) : Zj p l e R s m args below meth c g A nL kc Q z pc lv (.int y0 :: .int x :: st) :=
  fun H locs ls hP hS hl0 => va_mmax C.1 C.2.1 (C.2.2.1.trans hl0.1.symm) C.2.2.2.1 (C.2.2.2.2.1 _ hl) (C.2.2.2.2.1 _ hs) (C.2.2.2.2.1 _ hi) (C.2.2.2.2.1 _ hc) hR.1 (by omega) C.2.2.2.2.2.2.2.1 C.2.2.2.2.2.2.2.2 hd (kk H locs ls hP hS hl0)
theorem z_mmin (C : Cx l g A p s m args c cc nL own R kc) {x y0 : Int32} (hd : decode cc pc = .ok (.invokestatic ix, 3)) (hl : Cond.methodLink own ix Lib.Math.min.name ∈ wAll) (hs : Cond.static Lib.Math.min.name ∈ wAll) (hi : Cond.initialized "java/lang/Math" ∈ wAll) (hc : Cond.code Lib.Math.min.name Lib.Math.min.code 2 (some .int) ∈ wAll) (hR : 1 ≤ R.frames ∧ 21 ≤ R.locals) (hW : (st.map fun v => v.category).sum ≤ 8) (kk : Zj p l e R s m args below meth c g A nL kc Q z (pc + 3) lv (.int (if y0 < x then y0 else x) :: st)) : Zj p l e R s m args below meth c g A nL kc Q z pc lv (.int y0 :: .int x :: st) :=
  fun H locs ls hP hS hl0 => va_mmin C.1 C.2.1 (C.2.2.1.trans hl0.1.symm) C.2.2.2.1 (C.2.2.2.2.1 _ hl) (C.2.2.2.2.1 _ hs) (C.2.2.2.2.1 _ hi) (C.2.2.2.2.1 _ hc) hR.1 (by omega) C.2.2.2.2.2.2.2.1 C.2.2.2.2.2.2.2.2 hd (kk H locs ls hP hS hl0)
def cpOk (sp dp n : Int32) (N0 N1 : Nat) : Bool := decide (¬ sp < 0) && decide (¬ dp < 0) && decide (¬ n < 0) && decide (sp.toNatClampNeg + n.toNatClampNeg ≤ N0) && decide (dp.toNatClampNeg + n.toNatClampNeg ≤ N1)
theorem z_copyJ (C : Cx l g A p s m args c cc nL own R kc) {o0 o1 n0 n1 : Nat} {sp dp k : Int32} (hd : decode cc pc = .ok (.invokestatic ix, 3)) (hl : Cond.methodLink own ix arraycopyName ∈ wAll) (hnat : Cond.native arraycopyName ∈ wAll) (hs : Cond.static arraycopyName ∈ wAll) (hi : Cond.initialized "java/lang/System" ∈ wAll) (h0 : kd o0 = 100000 + n0) (h1 : kd o1 = 100000 + n1) (hn0 : n0 < 90000) (hn1 : n1 < 90000) (hc : cpOk sp dp k n0 n1 = true) (hR : 1 ≤ R.frames ∧ (st.map fun v => v.category).sum + (nativeFrameWords "java/lang/System" "arraycopy" 5 + 11) ≤ R.locals) (kk : Zj p l e R s m args below meth c g A nL kc Q (zC z o1 (va_cpy (z.2 o0) (z.2 o1) sp.toNatClampNeg dp.toNatClampNeg k.toNatClampNeg)) (pc + 3) lv st) : Zj p l e R s m args below meth c g A nL kc Q z pc lv (.int k :: .int dp :: .ref (g.1 o1) :: .int sp :: .ref (g.1 o0) :: st) := by
  intro H locs ls hP hS hl0
  simp only [cpOk, Bool.and_eq_true, decide_eq_true_eq] at hc
  obtain ⟨⟨⟨⟨c1, c2⟩, c3⟩, c4⟩, c5⟩ := hc
  exact va_copyl C.1 C.2.1 (C.2.2.1.trans hl0.1.symm) C.2.2.2.1 (C.2.2.2.2.1 _ hl) (C.2.2.2.2.1 _ hnat) (C.2.2.2.2.1 _ hs) (C.2.2.2.2.1 _ hi) C.2.2.2.2.2.2.1.1 hP (w_D C.2.2.2.2.2.1 z) hS o0 o1 1 1 (w_at (kd_lt h0 (by omega)) (ent_J h0)) (w_at (kd_lt h1 (by omega)) (ent_J h1)) rfl rfl rfl c1 c2 c3 c4 c5 (fun _ _ => rfl) hR.1 hR.2 hd (fun H1 locs1 hP1 _ hS1 => kk H1 locs1 ls (by rw [← w_setF h1]; exact hP1) hS1 hl0)
end ZC
section ZE
variable {p : Program} {l : Launch} {e : Env} {R : Room} {s : State} {m : MethodId} {args : Array Value} {below : List Frame} {meth : Method} {c : Code} {g : Ga} {A : Nat → Prop} {nL : Nat} {z : St} {pc : Nat} {lv : List (Nat × Value)} {cc by_ : ByteArray} {own : String} {y : MethodName} {rt : Option FieldType} {rm : Room} {mL : Nat} {as : List Value}
/-- what a body comes to: its answer, the state behind it -/
def QI (g : Ga) (A : Nat → Prop) (below : List Frame) (args : Array Value) (s : State) (res : St × Int32) : State → Prop := MQ below (va_Qi (fun r u => (u, r) = res) (Bz g) A) args s 0 0 A
def QJ (g : Ga) (A : Nat → Prop) (below : List Frame) (args : Array Value) (s : State) (res : St × Int64) : State → Prop := MQ below (va_Ql (fun r u => (u, r) = res) (Bz g) A) args s 0 0 A
def QV (g : Ga) (A : Nat → Prop) (below : List Frame) (args : Array Value) (s : State) (res : St) : State → Prop := MQ below (va_Qv (fun u => u = res) (Bz g) A) args s 0 0 A
theorem z_iret (C : Cx l g A p s m args c cc nL own R (0, 0)) {r : Int32} (hr : meth.sig.returnType = some .int) (hk : meth.locks = false) (hd : decode cc pc = .ok (.ireturn, 1)) : Zj p l e R s m args below meth c g A nL (0, 0) (QI g A below args s (z, r)) z pc lv [.int r] :=
  fun H locs ls hP hS hl => W.iret C.1 C.2.1 hr (fun t ht hW => ⟨⟨r, z, rfl, rfl, by show va_P _ _ _ t.heap; rw [ht]; exact hP⟩, hS.F ht⟩) hS.2.2 hd hk
theorem z_zret (C : Cx l g A p s m args c cc nL own R (0, 0)) {r : Int32} (hr : meth.sig.returnType = some .boolean) (hk : meth.locks = false) (hb : zb r = true) (hd : decode cc pc = .ok (.ireturn, 1)) : Zj p l e R s m args below meth c g A nL (0, 0) (QI g A below args s (z, r)) z pc lv [.int r] :=
  fun H locs ls hP hS hl => W.zret C.1 C.2.1 hr (zb_n hb) (fun t ht hW => ⟨⟨r, z, rfl, rfl, by show va_P _ _ _ t.heap; rw [ht]; exact hP⟩, hS.F ht⟩) hS.2.2 hd hk
theorem z_lret (C : Cx l g A p s m args c cc nL own R (0, 0)) {r : Int64} (hr : meth.sig.returnType = some .long) (hk : meth.locks = false) (hd : decode cc pc = .ok (.lreturn, 1)) : Zj p l e R s m args below meth c g A nL (0, 0) (QJ g A below args s (z, r)) z pc lv [.long r] :=
  fun H locs ls hP hS hl => W.lret C.1 C.2.1 hr (fun t ht hW => ⟨⟨r, z, rfl, rfl, by show va_P _ _ _ t.heap; rw [ht]; exact hP⟩, hS.F ht⟩) hS.2.2 hd hk
theorem z_vret (C : Cx l g A p s m args c cc nL own R (0, 0)) (hr : meth.sig.returnType = none) (hk : meth.locks = false) (hd : decode cc pc = .ok (.return_, 1)) : Zj p l e R s m args below meth c g A nL (0, 0) (QV g A below args s z) z pc lv [] :=
  fun H locs ls hP hS hl => W.vret C.1 C.2.1 hr (fun t ht hW => ⟨⟨z, rfl, rfl, by show va_P _ _ _ t.heap; rw [ht]; exact hP⟩, hS.F ht⟩) hS.2.2 hd hk
theorem e_CI {res : St × Int32} (hy : plainName y.cls = true) (hlen : (lg_sl as).length ≤ mL) {lv0 : List (Nat × Value)} (hlv : lv_args 0 as = lv0) (body : ∀ (p : Program) (e : Env) (s : State) (m : MethodId) (args : Array Value) (below : List Frame) (meth : Method) (c : Code), Cx l g A p s m args c by_ mL y.cls rm (0, 0) → meth.sig.returnType = rt → meth.locks = false → Zj p l e rm s m args below meth c g A mL (0, 0) (QI g A below args s res) z 0 lv0 []) : CI l g A y by_ mL rt rm as z res := by
  refine Met.ofW (cc := by_) (maxL := mL) (ret := rt) hy rfl ?_
  intro p e s m args below meth c s₁ B hml hv
  obtain ⟨rfl, hP, hG, hO⟩ := hv
  have hts := atoms_spec (ws := Cond.code y by_ mL rt :: wAll) B.pre
  have hl := lv_entry as hlen
  rw [hlv] at hl
  rw [lg_entry_eq]
  exact body p e s m _ below meth c ⟨B.exec, B.bytes, hml, findClass_of_methodNamed B.named, fun w h => hts w (List.mem_cons_of_mem _ h), hG, hO, Nat.zero_le _, Nat.zero_le _⟩ B.returns B.notSynchronized s.heap [] _ hP va_S.rf hl
theorem e_CJ {res : St × Int64} (hy : plainName y.cls = true) (hlen : (lg_sl as).length ≤ mL) {lv0 : List (Nat × Value)} (hlv : lv_args 0 as = lv0) (body : ∀ (p : Program) (e : Env) (s : State) (m : MethodId) (args : Array Value) (below : List Frame) (meth : Method) (c : Code), Cx l g A p s m args c by_ mL y.cls rm (0, 0) → meth.sig.returnType = rt → meth.locks = false → Zj p l e rm s m args below meth c g A mL (0, 0) (QJ g A below args s res) z 0 lv0 []) : CJ l g A y by_ mL rt rm as z res := by
  refine Met.ofW (cc := by_) (maxL := mL) (ret := rt) hy rfl ?_
  intro p e s m args below meth c s₁ B hml hv
  obtain ⟨rfl, hP, hG, hO⟩ := hv
  have hts := atoms_spec (ws := Cond.code y by_ mL rt :: wAll) B.pre
  have hl := lv_entry as hlen
  rw [hlv] at hl
  rw [lg_entry_eq]
  exact body p e s m _ below meth c ⟨B.exec, B.bytes, hml, findClass_of_methodNamed B.named, fun w h => hts w (List.mem_cons_of_mem _ h), hG, hO, Nat.zero_le _, Nat.zero_le _⟩ B.returns B.notSynchronized s.heap [] _ hP va_S.rf hl
theorem e_CV {res : St} (hy : plainName y.cls = true) (hlen : (lg_sl as).length ≤ mL) {lv0 : List (Nat × Value)} (hlv : lv_args 0 as = lv0) (body : ∀ (p : Program) (e : Env) (s : State) (m : MethodId) (args : Array Value) (below : List Frame) (meth : Method) (c : Code), Cx l g A p s m args c by_ mL y.cls rm (0, 0) → meth.sig.returnType = rt → meth.locks = false → Zj p l e rm s m args below meth c g A mL (0, 0) (QV g A below args s res) z 0 lv0 []) : CV l g A y by_ mL rt rm as z res := by
  refine Met.ofW (cc := by_) (maxL := mL) (ret := rt) hy rfl ?_
  intro p e s m args below meth c s₁ B hml hv
  obtain ⟨rfl, hP, hG, hO⟩ := hv
  have hts := atoms_spec (ws := Cond.code y by_ mL rt :: wAll) B.pre
  have hl := lv_entry as hlen
  rw [hlv] at hl
  rw [lg_entry_eq]
  exact body p e s m _ below meth c ⟨B.exec, B.bytes, hml, findClass_of_methodNamed B.named, fun w h => hts w (List.mem_cons_of_mem _ h), hG, hO, Nat.zero_le _, Nat.zero_le _⟩ B.returns B.notSynchronized s.heap [] _ hP va_S.rf hl
end ZE
