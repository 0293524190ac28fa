theorem wide0 (c : ClassId) (h : Nat) : Jvm.Free.Multi.outerC c 4 h 0 = Jvm.Free.Multi.outerC c 4 h 0 := rfl
