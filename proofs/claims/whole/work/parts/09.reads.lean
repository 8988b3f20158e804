/-! reads behind writes, said short -/
section EVR2
variable {lay : List eLC} {d : Nat} {mi : eM} {pc : Nat} {lv : List (Option Value)} {st : List Value} {M : eMem} {r : Option Value × eMem}
theorem Ev.getIv {idx ci i q : Nat} {fs : List (Option Nat)} {v : Int32} (hd : decode mi.2.1 pc = .ok (.getfield idx, 3)) (hf : eFl mi.1.cls idx ci i) (hl : lay[q]? = some (.inr (.inr (ci, fs)))) (hi : fs[i]? = some none) (hv : M.1 q i = v) (k : Ev lay d mi (pc + 3) lv (.int v :: st) M r) : Ev lay d mi pc lv (.ref q :: st) M r := by
  subst hv
  exact Ev.getI hd hf hl hi k
theorem Ev.ialdv {q n j : Nat} {i v : Int32} (hd : decode mi.2.1 pc = .ok (.iaload, 1)) (hl : lay[q]? = some (.inl (0, n))) (hin : eIn i n = true) (hj : i.toNatClampNeg = j) (hv : M.1 q j = v) (k : Ev lay d mi (pc + 1) lv (.int v :: st) M r) : Ev lay d mi pc lv (.int i :: .ref q :: st) M r := by
  subst hv
  exact Ev.ialdj hd hl hin hj k
theorem Ev.zaldv {q n j : Nat} {i v : Int32} (hd : decode mi.2.1 pc = .ok (.baload, 1)) (hl : lay[q]? = some (.inl (2, n))) (hin : eIn i n = true) (hj : i.toNatClampNeg = j) (hv : M.1 q j = v) (k : Ev lay d mi (pc + 1) lv (.int v :: st) M r) : Ev lay d mi pc lv (.int i :: .ref q :: st) M r := by
  subst hv
  exact Ev.zaldj hd hl hin hj k
theorem Ev.baldv {q n j : Nat} {i v : Int32} (hd : decode mi.2.1 pc = .ok (.baload, 1)) (hl : lay[q]? = some (.inl (3, n))) (hin : eIn i n = true) (hj : i.toNatClampNeg = j) (hv : M.1 q j = v) (k : Ev lay d mi (pc + 1) lv (.int v :: st) M r) : Ev lay d mi pc lv (.int i :: .ref q :: st) M r := by
  subst hv
  exact Ev.baldj hd hl hin hj k
theorem Ev.laldv {q n j : Nat} {i : Int32} {v : Int64} (hd : decode mi.2.1 pc = .ok (.laload, 1)) (hl : lay[q]? = some (.inl (1, n))) (hin : eIn i n = true) (hj : i.toNatClampNeg = j) (hv : M.2 q j = v) (k : Ev lay d mi (pc + 1) lv (.long v :: st) M r) : Ev lay d mi pc lv (.int i :: .ref q :: st) M r := by
  subst hv
  exact Ev.laldj hd hl hin hj k
end EVR2
theorem Ev.fg {lay : List eLC} {d : Nat} {mi : eM} {pc : Nat} {lv lv' : List (Option Value)} {st : List Value} {M : eMem} {r : Option Value × eMem} (k : Ev lay d mi pc lv' st M r) (hs : eSub lv' lv) : Ev lay d mi pc lv st M r := Ev.forget hs k
