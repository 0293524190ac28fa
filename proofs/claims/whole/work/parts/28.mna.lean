section ZM
variable {p : Program} {l : Launch} {e : Env} {R : Room} {s : State} {m : MethodId} {args : Array Value} {below : List Frame} {meth : Method} {c : Code} {g : Ga} {A : Nat → Prop} {B nL : Nat} {Q : State → Prop} {cells slots : Nat} {z : St} {n t : Nat} {pc : Nat} {lv : List (Nat × Value)} {st : List Value} {cc : ByteArray} {own : String} {ix n0 : Nat}
theorem k_mna (C : Ck l g A B p s m args meth c cc nL own n0) (hd : decode cc pc = .ok (.multianewarray ix 2, 4)) (ho : kd n = 51) (hr : ∀ i, i < 4 → kd (n + 1 + i) = 1008 ∧ rf n i = n + 1 + i) (h1 : Cond.classLink own ix "[[I" ∈ wAll) (h2 : Cond.arrayClass .int ∈ wAll) (hzf : Zf z n) (hcn : n0 + cells = n) (hc : cells + 5 ≤ R.cells ∧ slots + 36 ≤ R.slots) (kk : Zk p l e R s m args below meth c g A B nL Q (cells + 5) (slots + 36) z (n + 5) t (pc + 4) lv (.ref (g.1 n) :: st)) : Zk p l e R s m args below meth c g A B nL Q cells slots z n t pc lv (.int 8 :: .int 4 :: st) := by
  sorry
end ZM
