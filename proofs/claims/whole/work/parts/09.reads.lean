/-! reads behind writes, said short -/
section EVR2
variable {lay : List eLC} {d : Nat} {mi : eM} {pc : Nat} {lv : List (Option Value)} {st : List Value} {M : eMem} {r : Option Value × eMem}
theorem Ev.getIv {idx ci i q : Nat} {fs : List (Option Nat)} {v : Int32} (hd : decode mi.2.1 pc = .ok (.getfield idx, 3)) (hf : eFl mi.1.cls idx ci i) (hl : lay[q]? = some (.inr (.inr (ci, fs)))) (hi : fs[i]? = some none) (hv : M.1 q i = v) (k : Ev lay d mi (pc + 3) lv (.int v :: st) M r) : Ev lay d mi pc lv (.ref q :: st) M r := by
  subst hv
  exact Ev.getI hd hf hl hi k
theorem Ev.ialdv {q n j : Nat} {i v : Int32} (hd : decode mi.2.1 pc = .ok (.iaload, 1)) (hl : lay[q]? = some (.inl (0, n))) (hin : eIn i n = true) (hj : i.toNatClampNeg = j) (hv : M.1 q j = v) (k : Ev lay d mi (pc + 1) lv (.int v :: st) M r) : Ev lay d mi pc lv (.int i :: .ref q :: st) M r := by
  subst hv
  exact Ev.ialdj hd hl hin hj k
theorem Ev.zaldv {q n j : Nat} {i v : Int32} (hd : decode mi.2.1 pc = .ok (.baload, 1)) (hl : lay[q]? = some (.inl (2, n))) (hin : eIn i n = true) (hj : i.toNatClampNeg = j) (hv : M.1 q j = v) (k : Ev lay d mi (pc + 1) lv (.int v :: st) M r) : Ev lay d mi pc lv (.int i :: .ref q :: st) M r := by
  subst hv
  exact Ev.zaldj hd hl hin hj k
theorem Ev.baldv {q n j : Nat} {i v : Int32} (hd : decode mi.2.1 pc = .ok (.baload, 1)) (hl : lay[q]? = some (.inl (3, n))) (hin : eIn i n = true) (hj : i.toNatClampNeg = j) (hv : M.1 q j = v) (k : Ev lay d mi (pc + 1) lv (.int v :: st) M r) : Ev lay d mi pc lv (.int i :: .ref q :: st) M r := by
  subst hv
  exact Ev.baldj hd hl hin hj k
theorem Ev.laldv {q n j : Nat} {i : Int32} {v : Int64} (hd : decode mi.2.1 pc = .ok (.laload, 1)) (hl : lay[q]? = some (.inl (1, n))) (hin : eIn i n = true) (hj : i.toNatClampNeg = j) (hv : M.2 q j = v) (k : Ev lay d mi (pc + 1) lv (.long v :: st) M r) : Ev lay d mi pc lv (.int i :: .ref q :: st) M r := by
  subst hv
  exact Ev.laldj hd hl hin hj k
end EVR2
theorem Ev.fg {lay : List eLC} {d : Nat} {mi : eM} {pc : Nat} {lv lv' : List (Option Value)} {st : List Value} {M : eMem} {r : Option Value × eMem} (k : Ev lay d mi pc lv' st M r) (hs : eSub lv' lv) : Ev lay d mi pc lv st M r := Ev.forget hs k
theorem eI_n {M : eMem} {p q i j : Nat} {v : Int32} (h : q ≠ p) : (eI M p i v).1 q j = M.1 q j := by simp [eI, eC, h]
theorem eI_m {M : eMem} {p i j : Nat} {v : Int32} (h : j ≠ i) : (eI M p i v).1 p j = M.1 p j := by simp [eI, eC, upd, h]
theorem eI_e {M : eMem} {p i : Nat} {v : Int32} : (eI M p i v).1 p i = v := by simp [eI, eC, upd]
theorem eI_o {M : eMem} {p q i j : Nat} {v : Int32} : (eI M p i v).2 q j = M.2 q j := rfl
theorem eJ_n {M : eMem} {p q i j : Nat} {v : Int64} (h : q ≠ p) : (eJ M p i v).2 q j = M.2 q j := by simp [eJ, eCJ, h]
theorem eJ_m {M : eMem} {p i j : Nat} {v : Int64} (h : j ≠ i) : (eJ M p i v).2 p j = M.2 p j := by simp [eJ, eCJ, vp_updL, h]
theorem eJ_e {M : eMem} {p i : Nat} {v : Int64} : (eJ M p i v).2 p i = v := by simp [eJ, eCJ, vp_updL]
theorem eJ_o {M : eMem} {p q i j : Nat} {v : Int64} : (eJ M p i v).1 q j = M.1 q j := rfl
theorem eCpy_n {M : eMem} {p q p0 sp dp n j : Nat} (h : q ≠ p) : (eCpy M p0 p sp dp n).1 q j = M.1 q j := by simp [eCpy, eC, h]
theorem eCpy_o {M : eMem} {p q p0 sp dp n j : Nat} : (eCpy M p0 p sp dp n).2 q j = M.2 q j := rfl
theorem eCpyL_n {M : eMem} {p q p0 sp dp n j : Nat} (h : q ≠ p) : (eCpyL M p0 p sp dp n).2 q j = M.2 q j := by simp [eCpyL, eCJ, h]
theorem eCpyL_o {M : eMem} {p q p0 sp dp n j : Nat} : (eCpyL M p0 p sp dp n).1 q j = M.1 q j := rfl
theorem eFl32_n {M : eMem} {p q n j : Nat} {v : Int32} (h : q ≠ p) : (eFl32 M p n v).1 q j = M.1 q j := by simp [eFl32, eC, h]
theorem eFl32_o {M : eMem} {p q n j : Nat} {v : Int32} : (eFl32 M p n v).2 q j = M.2 q j := rfl
theorem eFl64_n {M : eMem} {p q n j : Nat} {v : Int64} (h : q ≠ p) : (eFl64 M p n v).2 q j = M.2 q j := by simp [eFl64, eCJ, h]
theorem eFl64_o {M : eMem} {p q n j : Nat} {v : Int64} : (eFl64 M p n v).1 q j = M.1 q j := rfl
