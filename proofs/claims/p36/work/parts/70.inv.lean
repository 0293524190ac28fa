/-! WHAT BOTH KEEP: the class's picture, the model's, and what holds of it -/
noncomputable def svB (c t q : Nat → Int) (n : Nat) : Nat := (gr c t q n n).2.2.1 (bkB q n (gr c t q n n)).toNat
noncomputable def svQ (c t q : Nat → Int) (n : Nat) : Int := max (q (svB c t q n)) (bkT t n (gr c t q n n) ((bkB q n (gr c t q n n)).toNat + 1) ((pl q (gr c t q n n) n).toNat + 1) + q ((gr c t q n n).2.2.1 (pl q (gr c t q n n) n).toNat))
noncomputable def svR (c t q : Nat → Int) (n : Nat) : Int := max (c (svB c t q n)) (bkC c n (gr c t q n n) ((bkB q n (gr c t q n n)).toNat + 1) ((pl q (gr c t q n n) n).toNat + 1) + bkT t n (gr c t q n n) ((bkB q n (gr c t q n n)).toNat + 1) ((pl q (gr c t q n n) n).toNat + 1))
abbrev Se : Type := Int × Int × Int
noncomputable def svN (f : Int) (s : Se) : Se := if s.1 = -1 ∨ f < s.1 then (f, s.2.1 + 1, s.2.1 + 1) else (s.1, s.2.1 + 1, s.2.2)
noncomputable def sv (t : Nat → Int) (n : Nat) : Nat → (Nat → Int) → (Nat → Int) → Se → Se
  | 0, _, _, s => s
  | d + 1, c, q, s =>
    if bkB q n (gr c t q n n) < 0 then svN (gr c t q n n).2.2.2.2.2.2.1 s else
    (fun s2 : Se => if (bi (up c (svB c t q n) (svR c t q n)) t q n 16).2.2.2.1 < s2.1 then sv t n d (up c (svB c t q n) (svR c t q n)) q s2 else s2)
      (if (bi c t (up q (svB c t q n) (svQ c t q n)) n 16).2.2.2.1 < (svN (gr c t q n n).2.2.2.2.2.2.1 s).1 then sv t n d c (up q (svB c t q n) (svQ c t q n)) (svN (gr c t q n n).2.2.2.2.2.2.1 s) else svN (gr c t q n n).2.2.2.2.2.2.1 s)
noncomputable def SR (c t q : Nat → Int) (n : Nat) : Se := sv t n 400 c q (-1, 0, 0)
noncomputable def thI (c t q : Nat → Int) (lim : Int) (f : Nat → Int) (s : Nat) : Nat → Int
  | 0 => 1000000
  | i + 1 => if Nat.testBit s i = true ∧ max (f (s ^^^ (1 <<< i))) (c i) + t i + q i ≤ lim then min (thI c t q lim f s i) (max (f (s ^^^ (1 <<< i))) (c i) + t i) else thI c t q lim f s i
noncomputable def th (c t q : Nat → Int) (n : Nat) (lim : Int) : Nat → Nat → Int
  | 0 => fun _ => 0
  | s + 1 => up (th c t q n lim s) (s + 1) (thI c t q lim (th c t q n lim s) (s + 1) n)
noncomputable def tuI (c t q : Nat → Int) (lim : Int) (f : Nat → Int) (s : Nat) : Nat → Int
  | 0 => -1
  | i + 1 => if Nat.testBit s i = true ∧ c i ≤ min (lim - q i) (f (s ^^^ (1 <<< i))) - t i then max (tuI c t q lim f s i) (min (lim - q i) (f (s ^^^ (1 <<< i))) - t i) else tuI c t q lim f s i
noncomputable def tu (c t q : Nat → Int) (n : Nat) (lim : Int) : Nat → Nat → Int
  | 0 => fun _ => 100000
  | s + 1 => up (tu c t q n lim s) (s + 1) (tuI c t q lim (tu c t q n lim s) (s + 1) n)
def LKN (z : St) (n : Nat) (c t q : Nat → Int) : Prop := z.1 0 16 = iv (SR c t q n).1 ∧ z.1 0 17 = iv (SR c t q n).2.1 ∧ z.1 0 18 = iv (SR c t q n).2.2 ∧ z.1 52 4 = iv ((2 ^ n - 1 : Nat) : Int) ∧ z.1 52 5 = iv (SR c t q n).1 ∧ ∀ s, s < 2 ^ n → z.1 53 s = iv (th c t q n (SR c t q n).1 s s) ∧ z.1 54 s = iv (tu c t q n (SR c t q n).1 s s)
def CL (z : St) (n : Nat) (c t q : Nat → Int) : Prop := z.1 0 15 = iv 0 ∨ (z.1 0 15 = iv 1 ∧ LKN z n c t q)
abbrev Sh : Type := (Nat → Int) × (Nat → Nat) × (Nat → Nat → Int64)
def ShV (s : Sh) : Prop := ∀ i, i < 4 → (-1 ≤ s.1 i ∧ s.1 i ≤ 1) ∧ s.2.1 i ≤ 40 ∧ (s.1 i = -1 → s.2.1 i = 0)
def CS (z : St) (s : Sh) : Prop := ∀ i, i < 4 → z.1 (60 + 2 * i) 1 = iv (s.1 i) ∧ z.1 (60 + 2 * i) 2 = iv (s.2.1 i : Int) ∧ ∀ j, j < 40 → z.2 (61 + 2 * i) j = s.2.2 i j
def MS (z : St) (s : Sh) : Prop := ∀ i, i < 4 → z.1 96 i = iv (s.1 i) ∧ z.1 97 i = iv (s.2.1 i : Int) ∧ ∀ j, j < 40 → z.2 98 (40 * i + j) = s.2.2 i j
abbrev Ke : Type := Bool × Nat × (Nat → Nat → Int)
def CKe (z : St) (k : Ke) : Prop := (k.1 = true → z.1 0 14 = iv 1 ∧ JD z 7 k.2.1 k.2.2) ∧ (k.1 = false → z.1 0 14 = iv 0)
def MKe (z : St) (k : Ke) : Prop := (k.1 = true → z.1 68 53 = iv (k.2.1 : Int) ∧ ∀ j, j < k.2.1 → ∀ w, w < 4 → z.1 95 (4 * j + w) = iv (k.2.2 w j)) ∧ (k.1 = false → z.1 68 53 = iv (-1))
abbrev Ta : Type := Nat × (Nat → Int)
def CT (z : St) (b : Ta) : Prop := z.1 19 1 = iv (b.1 : Int) ∧ ∀ j, j < b.1 → z.1 20 j = iv (b.2 j)
def MT (z : St) (b : Ta) : Prop := z.1 68 7 = iv (b.1 : Int) ∧ ∀ j, j < b.1 → z.1 73 j = iv (b.2 j)
abbrev Sy : Type := Nat × (Nat → Nat → Int) × Ke × Ta × Tr × Sh
def XC (z : St) (y : Sy) : Prop := JD z 1 y.1 y.2.1 ∧ LD z 21 y.1 (cmO y.2.1) (tkO y.2.1) (clO y.2.1) ∧ CKe z y.2.2.1 ∧ CT z y.2.2.2.1 ∧ CB z y.2.2.2.2.1 ∧ CS z y.2.2.2.2.2 ∧ CL z y.1 (cmO y.2.1) (tkO y.2.1) (clO y.2.1)
def XM (z : St) (y : Sy) : Prop := MJ z y.1 y.2.1 ∧ MKe z y.2.2.1 ∧ MT z y.2.2.2.1 ∧ MB z y.2.2.2.2.1 ∧ MS z y.2.2.2.2.2
def KV (k : Ke) : Prop := k.1 = true → k.2.1 ≤ 8 ∧ JV k.2.1 k.2.2
def TV (b : Ta) : Prop := b.1 ≤ 60 ∧ ∀ j, j < b.1 → 0 ≤ b.2 j ∧ b.2 j ≤ 255
def XV (y : Sy) : Prop := JV y.1 y.2.1 ∧ KV y.2.2.1 ∧ TV y.2.2.2.1 ∧ (TW y.1 y.2.2.2.2.1 ∧ y.2.2.2.2.1.1 ≤ 999) ∧ ShV y.2.2.2.2.2
def INV (z : St) (y : Sy) : Prop := XC z y ∧ XM z y ∧ XV y
/-! frames -/
theorem CL_fr {z z' : St} {n : Nat} {c t q : Nat → Int} (h : CL z n c t q) (h0 : z'.1 0 = z.1 0) (h1 : ∀ a, 52 ≤ a → a ≤ 54 → z'.1 a = z.1 a) : CL z' n c t q := by
  unfold CL LKN at *
  rw [h0, h1 52 (by decide) (by decide), h1 53 (by decide) (by decide), h1 54 (by decide) (by decide)]
  exact h
theorem CB_fr {z z' : St} {x : Tr} (h : CB z x) (h1 : z'.1 57 = z.1 57) (h2 : z'.1 58 = z.1 58) : CB z' x := by
  unfold CB at *
  rw [h1, h2]
  exact h
theorem CS_fr {z z' : St} {s : Sh} (h : CS z s) (h1 : ∀ a, 60 ≤ a → a ≤ 67 → z'.1 a = z.1 a ∧ z'.2 a = z.2 a) : CS z' s := fun i hi => by
  rw [(h1 (60 + 2 * i) (by omega) (by omega)).1, (h1 (61 + 2 * i) (by omega) (by omega)).2]
  exact h i hi
theorem CKe_fr {z z' : St} {k : Ke} (h : CKe z k) (h0 : z'.1 0 14 = z.1 0 14) (h1 : ∀ a, 7 ≤ a → a ≤ 12 → z'.1 a = z.1 a) : CKe z' k := by
  refine ⟨fun e => ⟨by rw [h0]; exact (h.1 e).1, JD_fr (by decide) (h.1 e).2 (fun a h2 h3 => h1 a h2 (by omega))⟩, fun e => by rw [h0]; exact h.2 e⟩
theorem CT_fr {z z' : St} {b : Ta} (h : CT z b) (h0 : z'.1 19 1 = z.1 19 1) (h1 : z'.1 20 = z.1 20) : CT z' b := by
  unfold CT at *
  rw [h0, h1]
  exact h
theorem MS_fr {z z' : St} {s : Sh} (h : MS z s) (h1 : ∀ a, 96 ≤ a → a ≤ 98 → z'.1 a = z.1 a ∧ z'.2 a = z.2 a) : MS z' s := by
  unfold MS at *
  rw [(h1 96 (by decide) (by decide)).1, (h1 97 (by decide) (by decide)).1, (h1 98 (by decide) (by decide)).2]
  exact h
theorem MKe_fr {z z' : St} {k : Ke} (h : MKe z k) (h0 : z'.1 68 53 = z.1 68 53) (h1 : z'.1 95 = z.1 95) : MKe z' k := by
  unfold MKe at *
  rw [h0, h1]
  exact h
theorem MT_fr {z z' : St} {b : Ta} (h : MT z b) (h0 : z'.1 68 7 = z.1 68 7) (h1 : z'.1 73 = z.1 73) : MT z' b := by
  unfold MT at *
  rw [h0, h1]
  exact h
theorem MB_fr {z z' : St} {x : Tr} (h : MB z x) (h0 : ∀ k, 45 ≤ k → k ≤ 50 → z'.1 68 k = z.1 68 k) (h1 : z'.1 94 = z.1 94) : MB z' x := by
  unfold MB at *
  rw [h0 45 (by decide) (by decide), h0 46 (by decide) (by decide), h0 47 (by decide) (by decide), h0 48 (by decide) (by decide), h0 49 (by decide) (by decide), h0 50 (by decide) (by decide), h1]
  exact h
/-- what of the class may change without harm -/
def sC (a : Nat) : Prop := (13 ≤ a ∧ a ≤ 18) ∨ (25 ≤ a ∧ a ≤ 51) ∨ a = 55 ∨ a = 56
/-- .. and of the model -/
def sM (a : Nat) : Prop := 74 ≤ a ∧ a ≤ 93
def k68 (k : Nat) : Prop := k = 5 ∨ k = 7 ∨ (45 ≤ k ∧ k ≤ 50) ∨ k = 53
theorem XC_fr {z z' : St} {y : Sy} (h : XC z y) (hf : Fr (fun a => sC a ∨ 68 ≤ a) z z') : XC z' y := by
  have g : ∀ a, a < 68 → ¬ sC a → z'.1 a = z.1 a ∧ z'.2 a = z.2 a := fun a h1 h2 => hf a (fun e => by rcases e with e | e; exact h2 e; omega)
  have s : ∀ a, a < 68 → (a < 13 ∨ (19 ≤ a ∧ a ≤ 24) ∨ (52 ≤ a ∧ a ≤ 54) ∨ 57 ≤ a) → z'.1 a = z.1 a ∧ z'.2 a = z.2 a := fun a h1 h2 => g a h1 (by unfold sC; omega)
  obtain ⟨h1, h2, h3, h4, h5, h6, h7⟩ := h
  refine ⟨JD_fr (by decide) h1 (fun a e1 e2 => (s a (by omega) (by omega)).1), LD_fr h2 (fun a ha => ?_), CKe_fr h3 ?_ (fun a e1 e2 => (s a (by omega) (by omega)).1), CT_fr h4 ?_ (s 20 (by decide) (by decide)).1, CB_fr h5 (s 57 (by decide) (by decide)).1 (s 58 (by decide) (by decide)).1, CS_fr h6 (fun a e1 e2 => s a (by omega) (by omega)), CL_fr h7 (s 0 (by decide) (by decide)).1 (fun a e1 e2 => (s a (by omega) (by omega)).1)⟩
  · have := own_rng (o := 21) (Or.inr (by decide)) ha
    exact (s a (by omega) (by omega)).1
  · rw [(s 0 (by decide) (by decide)).1]
  · rw [(s 19 (by decide) (by decide)).1]
theorem XM_fr {z z' : St} {y : Sy} (h : XM z y) (hf : ∀ a, 69 ≤ a → ¬ sM a → z'.1 a = z.1 a ∧ z'.2 a = z.2 a) (h68 : ∀ k, k68 k → z'.1 68 k = z.1 68 k) : XM z' y := by
  have s : ∀ a, ((69 ≤ a ∧ a ≤ 73) ∨ 94 ≤ a) → z'.1 a = z.1 a ∧ z'.2 a = z.2 a := fun a h => hf a (by omega) (by unfold sM; omega)
  obtain ⟨h1, h2, h3, h4, h5⟩ := h
  exact ⟨MJ_fr h1 (h68 5 (Or.inl rfl)) (fun a e1 e2 => (s a (by omega)).1), MKe_fr h2 (h68 53 (by unfold k68; omega)) (s 95 (by decide)).1, MT_fr h3 (h68 7 (by unfold k68; omega)) (s 73 (by decide)).1, MB_fr h4 (fun k e1 e2 => h68 k (by unfold k68; omega)) (s 94 (by decide)).1, MS_fr h5 (fun a e1 e2 => s a (by omega))⟩
/-- the class did something in its scratch alone -/
theorem INV_c {z z' : St} {y : Sy} (h : INV z y) (hf : Fr sC z z') : INV z' y :=
  ⟨XC_fr h.1 (hf.mono (fun a e => Or.inl e)), XM_fr h.2.1 (fun a e _ => hf a (by unfold sC; omega)) (fun k _ => by rw [(hf 68 (by unfold sC; omega)).1]), h.2.2⟩
/-- .. and the model in its own -/
theorem INV_m {z z' : St} {y : Sy} (h : INV z y) (hf : Fr (fun a => sM a ∨ a = 68) z z') (h68 : ∀ k, k68 k → z'.1 68 k = z.1 68 k) : INV z' y :=
  ⟨XC_fr h.1 (hf.mono (fun a e => Or.inr (by unfold sM at e; omega))), XM_fr h.2.1 (fun a e e2 => hf a (fun x => by rcases x with x | x; exact e2 x; omega)) h68, h.2.2⟩
/-- the class's step beside the model's: the model's picture stays while the class works, and the other way -/
theorem XM_c {z z' : St} {y : Sy} (h : XM z y) (hf : Fr (fun a => a < 68) z z') : XM z' y := XM_fr h (fun a e _ => hf a (by omega)) (fun k _ => by rw [(hf 68 (by omega)).1])
theorem XC_m {z z' : St} {y : Sy} (h : XC z y) (hf : Fr (fun a => 68 ≤ a) z z') : XC z' y := XC_fr h (hf.mono (fun a e => Or.inr e))
