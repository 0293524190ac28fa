-- ===== end of PART A; then your names; then what follows =====
/-! THE CLAIM OUT OF ONE WALK OF THE LAW'S BODY. Your part is whole_start (and what it stands on); all else here is the same for every law, but numbers. -/
def R_law : String := "BenchWithTailsLaw"
def lw_P (b : Addr) (xs : List Int32) (args : Array Value) (s : State) : Prop := args = #[.ref b] ∧ s.IntsAt b xs ∧ xs.length ≤ 260 ∧ (Jvm.Cond.and given_1 narrow_1).before args s = true
def lw_Q (_ : Array Value) (s : State) (o : Outcome) (t : State) : Prop := o = .returned (some (.int 1)) ∧ Framed s o t [] 600000 7302249
def lw_Z (below : List Frame) (a : Array Value) (s : State) : State → Prop := fun t => ∃ o, t.status = .running ∧ Ended t below o ∧ lw_Q a s o t
/-- the law's own end, with 1 on the stack, nothing written that was there before, its room as the claim has it -/
theorem lw_ret {p : Program} {l : Launch} {e : Env} {s : State} {m : MethodId} {below : List Frame} {meth : Method} {c : Code} {b : Nat} (hx : p.tables.exec = Jvm.exec) (hb : c.code = code) (hr : meth.sig.returnType = ret) (hlocks : meth.locks = false) {pc : Nat} {H : Heap} {ls : Array Slot} (hdg : decode code pc = .ok (.ireturn, 1)) : W p l e room_1 s m #[Value.ref b] below meth c H [] 600000 7302249 (lw_Z below #[Value.ref b] s) (F0 m pc ls [.int 1]) := by
  intro T hT X
  obtain ⟨fs, hret, hrun, hended, hW, hframe⟩ := X.leave (v := some (.int 1)) (hlocks := hlocks) (fun h => by rw [hr] at h; cases h)
  have hmeth' : T.vm.method? m = some meth := X.method'
  refine ⟨T.setFrames fs, ?_, .returned (some (.int 1)), hrun, hended, rfl, ⟨_, rfl⟩, hW, hframe⟩
  jvm_step X.here [X.here.top, hx, hb, hdg, hmeth', hr, ret, narrow_b1]
  (try refine ⟨rfl, ?_⟩); (try refine ⟨rfl, ?_⟩)
  first | (intro acts; rw [hret _ acts rfl rfl rfl]) | rw [hret _ _ rfl rfl rfl]
  exact Steps.refl _
/-- what holds at the law's entry: the machine, the code, the tables' words (any of lw_tbl by 'hts w (by decide +kernel)'), the script of L ints xs at the cell b, what the Statement gives of the start (any of its parts by flat_of_before) -/
def lw_At (p : Program) (s : State) (m : MethodId) (meth : Method) (c : Code) (b L : Nat) (xs : Nat → Int32) : Prop :=
  p.tables.exec = Jvm.exec ∧ c.code = code ∧ meth.sig.returnType = ret ∧ c.maxLocals = 16 ∧ s.vm.findClass R_law = some m.cls ∧ (∀ w ∈ lw_tbl, w.before #[Value.ref b] s = true) ∧ va_X b L xs s s.heap ∧ b < s.heap.size ∧ meth.locks = false ∧ (Jvm.Cond.and given_1 narrow_1).before #[Value.ref b] s = true

section ZL
variable {p : Program} {l : Launch} {e : Env} {R : Room} {s : State} {m : MethodId} {args : Array Value} {below : List Frame} {meth : Method} {c : Code} {g : Ga} {A : Nat → Prop} {nL : Nat} {kc : Nat × Nat} {Q : State → Prop} {z : St} {pc : Nat} {lv : List (Nat × Value)} {st : List Value} {cc : ByteArray} {own : String} {b L : Nat} {xs : Nat → Int32}
theorem z_slen (C : Cx l g A p s m args c cc nL own R kc) (hX : va_X b L xs s s.heap) (hbl : b < s.heap.size) (hbA : ¬ A b) (hd : decode cc pc = .ok (.arraylength, 1)) (kk : Zj p l e R s m args below meth c g A nL kc Q z (pc + 1) lv (.int (Int32.ofNat L) :: st)) : Zj p l e R s m args below meth c g A nL kc Q z pc lv (.ref b :: st) :=
  fun H locs ls hP hS hl => va_slen C.1 C.2.1 hX hbl hbA hS hd (kk H locs ls hP hS hl)
theorem z_sld (C : Cx l g A p s m args c cc nL own R kc) {i : Int32} (hX : va_X b L xs s s.heap) (hbl : b < s.heap.size) (hbA : ¬ A b) (hd : decode cc pc = .ok (.iaload, 1)) (hi : inb i L = true) (kk : Zj p l e R s m args below meth c g A nL kc Q z (pc + 1) lv (.int (xs i.toNatClampNeg) :: st)) : Zj p l e R s m args below meth c g A nL kc Q z pc lv (.int i :: .ref b :: st) :=
  fun H locs ls hP hS hl => va_sld C.1 C.2.1 hX hbl hbA hS (inb_in hi) hd (kk H locs ls hP hS hl)
theorem z_lmul (C : Cx l g A p s m args c cc nL own R kc) {x y : Int64} (hd : decode cc pc = .ok (.lmul, 1)) (kk : Zj p l e R s m args below meth c g A nL kc Q z (pc + 1) lv (.long (x * y) :: st)) : Zj p l e R s m args below meth c g A nL kc Q z pc lv (.long y :: .long x :: st) :=
  fun H locs ls hP hS hl => lv_lmul C.1 C.2.1 hd (kk H locs ls hP hS hl)
theorem z_lawret (C : Cx l g A p s m #[Value.ref b] c code nL own room_1 kc) {r : Int32} (hr : meth.sig.returnType = ret) (hk : meth.locks = false) (hA : ∀ q, A q → s.heap.size ≤ q) (hkc : kc.1 ≤ 600000 ∧ kc.2 ≤ 7302249) (h1 : (z, r).2 = 1) (hd : decode code pc = .ok (.ireturn, 1)) : Zj p l e room_1 s m #[Value.ref b] below meth c g A nL kc (lw_Z below #[Value.ref b] s) z pc lv [.int r] := by
  intro H locs ls hP hS hl
  have h1 : r = 1 := h1
  subst h1
  refine va_forget (fun q hq => hA _ (hS.2.2 q hq)) ?_
  refine W.widen (k := 600000) (n := 7302249) hkc.1 hkc.2 ?_
  exact lw_ret C.1 C.2.1 hr hk hd
/-! a method that reads the script -/
def Px (g : Ga) (A : Nat → Prop) (b L : Nat) (xs : Nat → Int32) (z : St) (U : State) : Prop := Pz g A z U ∧ va_X b L xs U U.heap ∧ b < U.heap.size ∧ ¬ A b
theorem Px.blind {g : Ga} {A : Nat → Prop} {b L : Nat} {xs : Nat → Int32} {z : St} (av : List Value) : FrameBlind (va_Pc av (Px g A b L xs z)) := fun a U f mk h => ⟨h.1, ⟨h.2.1.1, h.2.1.2.1, h.2.1.2.2.calling f mk a⟩, va_X.moved (u := U) (U := U.calling f mk a) (Vm.Alike.refl U.vm) h.2.2.1, h.2.2.2.1, h.2.2.2.2⟩
def CIx (l : Launch) (g : Ga) (A : Nat → Prop) (b L : Nat) (xs : Nat → Int32) (y : MethodName) (by_ : ByteArray) (mL : Nat) (rt : Option FieldType) (rm : Room) (as : List Value) (z : St) (res : St × Int32) : Prop :=
  Met l y (.code y by_ mL rt :: wAll) rm (va_Pc as (Px g A b L xs z)) (va_Qi (fun r u => (u, r) = res) (Bz g) A) 0 0 A
theorem e_CIx {by_ : ByteArray} {y : MethodName} {rt : Option FieldType} {rm : Room} {mL : Nat} {as : List Value} {res : St × Int32} (hy : plainName y.cls = true) (hlen : (lg_sl as).length ≤ mL) {lv0 : List (Nat × Value)} (hlv : lv_args 0 as = lv0) (body : ∀ (p : Program) (e : Env) (s : State) (m : MethodId) (args : Array Value) (below : List Frame) (meth : Method) (c : Code), Cx l g A p s m args c by_ mL y.cls rm (0, 0) → meth.sig.returnType = rt → meth.locks = false → va_X b L xs s s.heap → b < s.heap.size → ¬ A b → Zj p l e rm s m args below meth c g A mL (0, 0) (QI g A below args s res) z 0 lv0 []) : CIx l g A b L xs y by_ mL rt rm as z res := by
  refine Met.ofW (cc := by_) (maxL := mL) (ret := rt) hy rfl ?_
  intro p e s m args below meth c s₁ B hml hv
  obtain ⟨rfl, ⟨hP, hG, hO⟩, hX, hbl, hbA⟩ := hv
  have hts := atoms_spec (ws := Cond.code y by_ mL rt :: wAll) B.pre
  have hl := lv_entry as hlen
  rw [hlv] at hl
  rw [lg_entry_eq]
  exact body p e s m _ below meth c ⟨B.exec, B.bytes, hml, findClass_of_methodNamed B.named, fun w h => hts w (List.mem_cons_of_mem _ h), hG, hO, Nat.zero_le _, Nat.zero_le _⟩ B.returns B.notSynchronized hX hbl hbA s.heap [] _ hP va_S.rf hl
theorem z_cXi (C : Cx l g A p s m args c cc nL own R kc) (hX : va_X b L xs s s.heap) (hbl : b < s.heap.size) (hbA : ¬ A b) {by_ : ByteArray} {y : MethodName} {rt : Option FieldType} {rm : Room} {mL ix n : Nat} {stk As : List Value} {res : St × Int32} (hM : CIx l g A b L xs y by_ mL rt rm (As) z res) (mw : Ms y by_ mL rt n) (hl : Cond.methodLink own ix y ∈ wAll)  (hd : decode cc pc = .ok (.invokestatic ix, 3)) (hn : As.length = n) (hrc : rm.cells = 0) (hrs : rm.slots = 0) (hR : rm.frames + 1 ≤ R.frames ∧ 8 + (mL + 11) + rm.locals ≤ R.locals) (hst0 : stk = As.reverse ++ st) (hW : (st.map fun v => v.category).sum ≤ 8) (kk : Zj p l e R s m args below meth c g A nL kc Q res.1 (pc + 3) lv (.int res.2 :: st)) : Zj p l e R s m args below meth c g A nL kc Q z pc lv stk := by
  intro H locs ls hP hS hl0
  subst hst0
  refine va_calli (va_runS (As := As) (rest := st) ⟨C.1, C.2.1, C.2.2.1, C.2.2.2.1, C.2.2.2.2.1⟩ hM (va_cwS n C.2.2.2.2.1 (k_S mw hl) rfl hrc hrs mw.2.2.2 hR) ⟨Px.blind _, fun U hU hW => ⟨rfl, ⟨by rw [hU]; exact hP, C.2.2.2.2.2.1, C.2.2.2.2.2.2.1.moved hS hU hW⟩, by rw [hU]; exact (hX.kept (hS.2.1 b hbl hbA)).moved hW.alike, by rw [hU]; exact Nat.lt_of_lt_of_le hbl hS.1, hbA⟩⟩ rfl hn (hl0.1) rfl (lv_room hW) hd ⟨C.2.2.2.2.2.2.2.1, C.2.2.2.2.2.2.2.2⟩) hS (fun q _ h => h) (fun q h => h) (fun r u t H1 locs1 ht hvm hw hB _ _ hS1 => by
    subst hw
    exact kk H1 locs1 ls (by rw [← ht]; exact hB) hS1 hl0)
/-! the method that makes the bench -/
abbrev kcB : Nat × Nat := (68, 8728)
def QB (g : Ga) (A : Nat → Prop) (below : List Frame) (args : Array Value) (s : State) (res : St × Nat) : State → Prop := MQ below (va_Qr (fun u => u = res.1) (fun u a U => a = g.1 res.2 ∧ Bz g u U) A) args s 68 8728 A
theorem z_aret (C : Cx l g A p s m args c cc nL own R kcB) {o : Nat} (hr : meth.sig.returnType = some (.object "BenchWithTails")) (hk : meth.locks = false) (hd : decode cc pc = .ok (.areturn, 1)) : Zj p l e R s m args below meth c g A nL kcB (QB g A below args s (z, o)) z pc lv [.ref (g.1 o)] :=
  fun H locs ls hP hS hl => W.aret C.1 C.2.1 hr (Or.inl ⟨_, rfl⟩) (Or.inr ⟨_, rfl⟩) (fun t ht hW => ⟨⟨z, g.1 o, rfl, rfl, rfl, by show va_P _ _ _ t.heap; rw [ht]; exact hP⟩, hS.F ht⟩) hS.2.2 hd hk
def Pb (g : Ga) (A : Nat → Prop) (B b L : Nat) (xs : Nat → Int32) (U : State) : Prop := U.heap.size = B ∧ Sok g A U ∧ AOk U ∧ va_X b L xs U U.heap ∧ b < U.heap.size ∧ ¬ A b
theorem Pb.blind {g : Ga} {A : Nat → Prop} {B b L : Nat} {xs : Nat → Int32} (av : List Value) : FrameBlind (va_Pc av (Pb g A B b L xs)) := fun a U f mk h => ⟨h.1, h.2.1, h.2.2.1.calling f mk a, ⟨va_AO.moved (u := U) (U := U.calling f mk a) (Vm.Alike.refl U.vm) h.2.2.2.1.1, AOG.moved (u := U) (U := U.calling f mk a) (Vm.Alike.refl U.vm) h.2.2.2.1.2⟩, va_X.moved (u := U) (U := U.calling f mk a) (Vm.Alike.refl U.vm) h.2.2.2.2.1, h.2.2.2.2.2.1, h.2.2.2.2.2.2⟩
def CBn (l : Launch) (g : Ga) (A : Nat → Prop) (B b L : Nat) (xs : Nat → Int32) (y : MethodName) (by_ : ByteArray) (mL : Nat) (rt : Option FieldType) (rm : Room) (res : St × Nat) : Prop :=
  Met l y (.code y by_ mL rt :: wAll) rm (va_Pc [.ref b] (Pb g A B b L xs)) (va_Qr (fun u => u = res.1) (fun u a U => a = g.1 res.2 ∧ Bz g u U) A) 68 8728 A
theorem z_cBn (C : Cx l g A p s m args c cc nL own R kc) (hX : va_X b L xs s s.heap) (hbl : b < s.heap.size) (hbA : ¬ A b) (hAA : ∀ q, s.heap.size ≤ q → A q) (hAO : AOk s) {by_ : ByteArray} {y : MethodName} {rt : Option FieldType} {rm : Room} {mL ix : Nat} {res : St × Nat} (hM : ∀ (B : Nat) (g2 : Ga), Bok g2 A B → CBn l g2 A B b L xs y by_ mL rt rm res) (mw : Ms y by_ mL rt 1) (hl : Cond.methodLink own ix y ∈ wAll)  (hd : decode cc pc = .ok (.invokestatic ix, 3)) (hrc : rm.cells = 68) (hrs : rm.slots = 8728) (hR : rm.frames + 1 ≤ R.frames ∧ 8 + (mL + 11) + rm.locals ≤ R.locals) (hW : (st.map fun v => v.category).sum ≤ 8) (hc : kc.1 + 68 ≤ R.cells ∧ kc.2 + 8728 ≤ R.slots) (kk : ∀ g2 : Ga, Gok g2 A → Sok g2 A s → Zj p l e R s m args below meth c g2 A nL (kc.1 + 68, kc.2 + 8728) Q res.1 (pc + 3) lv (.ref (g2.1 res.2) :: st)) : Zj p l e R s m args below meth c g A nL kc Q z pc lv (.ref b :: st) := by
  intro H locs ls hP hS hl0
  obtain ⟨g2, hg2⟩ : ∃ g2 : Ga, g2 = (fun k => H.size + k, g.2) := ⟨_, rfl⟩
  have hB : Bok g2 A H.size := ⟨fun k => by rw [hg2], fun q h => hAA q (Nat.le_trans hS.1 h)⟩
  have hO2 : ∀ U, Sok g A U → Sok g2 A U := fun U h => by rw [hg2]; exact h
  refine va_callr (va_runS (As := [.ref b]) (rest := st) ⟨C.1, C.2.1, C.2.2.1, C.2.2.2.1, C.2.2.2.2.1⟩ (hM H.size g2 hB) (va_cwS 1 C.2.2.2.2.1 (k_S mw hl) rfl hrc hrs mw.2.2.2 hR) ⟨Pb.blind _, fun U hU hW => ⟨rfl, by rw [hU], hO2 U (C.2.2.2.2.2.2.1.moved hS hU hW), ⟨va_AO.moved hW.alike hAO.1, AOG.moved hW.alike hAO.2⟩, by rw [hU]; exact (hX.kept (hS.2.1 b hbl hbA)).moved hW.alike, by rw [hU]; exact Nat.lt_of_lt_of_le hbl hS.1, hbA⟩⟩ rfl rfl (hl0.1) rfl (lv_room hW) hd hc) hS (fun q _ h => h) (fun q h => h) (fun u ra t H1 locs1 ht hvm hw hB1 _ _ hS1 => by
    subst hw
    obtain ⟨rfl, hB1⟩ := hB1
    exact kk g2 hB.G (hO2 s C.2.2.2.2.2.2.1) H1 locs1 ls (by rw [← ht]; exact hB1) hS1 hl0)
end ZL
