/-- the first n of the row p are 0 or 1 -/
def eZ (M : eMem) (p n : Nat) : Bool := (List.range n).all (fun i => decide (M.1 p i = 0) || decide (M.1 p i = 1))
theorem eZ_iff {M : eMem} {p n : Nat} : eZ M p n = true ↔ ∀ i, i < n → M.1 p i = 0 ∨ M.1 p i = 1 := by
  simp [eZ, List.all_eq_true, List.mem_range]
theorem eZ_of {M : eMem} {p n : Nat} (h : eZ M p n = true) : ∀ i, i < n → M.1 p i = 0 ∨ M.1 p i = 1 := eZ_iff.mp h
section EVZ
variable {lay : List eLC} {d : Nat} {mi : eM} {pc : Nat} {lv : List (Option Value)} {st : List Value} {M : eMem} {r : Option Value × eMem}
theorem Ev.copyIk {idx q0 q1 n0 n1 sp2 dp2 n2 : Nat} {sp dp n : Int32} (hd : decode mi.2.1 pc = .ok (.invokestatic idx, 3)) (hy : eSys mi.1.cls idx) (ha0 : lay[q0]? = some (.inl (0, n0))) (ha1 : lay[q1]? = some (.inl (0, n1))) (e1 : sp.toNatClampNeg = sp2) (e2 : dp.toNatClampNeg = dp2) (e3 : n.toNatClampNeg = n2) (h1 : ¬ sp < 0) (h2 : ¬ dp < 0) (h3 : ¬ n < 0) (h4 : sp.toNatClampNeg + n.toNatClampNeg ≤ n0) (h5 : dp.toNatClampNeg + n.toNatClampNeg ≤ n1) (hdd : 1 ≤ d) (hcat : (st.map fun v => v.category).sum ≤ 8)
    (k : Ev lay d mi (pc + 3) lv st (eCpy M q0 q1 sp2 dp2 n2) r) : Ev lay d mi pc lv (.int n :: .int dp :: .ref q1 :: .int sp :: .ref q0 :: st) M r :=
  Ev.copyIj hd hy ha0 ha1 e1 e2 e3 h1 h2 h3 h4 h5 hdd hcat k
theorem Ev.copyZk {idx q0 q1 n0 n1 sp2 dp2 n2 : Nat} {sp dp n : Int32} (hd : decode mi.2.1 pc = .ok (.invokestatic idx, 3)) (hy : eSys mi.1.cls idx) (ha0 : lay[q0]? = some (.inl (2, n0))) (ha1 : lay[q1]? = some (.inl (2, n1))) (e1 : sp.toNatClampNeg = sp2) (e2 : dp.toNatClampNeg = dp2) (e3 : n.toNatClampNeg = n2) (h1 : ¬ sp < 0) (h2 : ¬ dp < 0) (h3 : ¬ n < 0) (h4 : sp.toNatClampNeg + n.toNatClampNeg ≤ n0) (h5 : dp.toNatClampNeg + n.toNatClampNeg ≤ n1) (hz : ∀ i, i < n2 → M.1 q0 (sp2 + i) = 0 ∨ M.1 q0 (sp2 + i) = 1) (hdd : 1 ≤ d) (hcat : (st.map fun v => v.category).sum ≤ 8)
    (k : Ev lay d mi (pc + 3) lv st (eCpy M q0 q1 sp2 dp2 n2) r) : Ev lay d mi pc lv (.int n :: .int dp :: .ref q1 :: .int sp :: .ref q0 :: st) M r :=
  Ev.copyZj hd hy ha0 ha1 e1 e2 e3 h1 h2 h3 h4 h5 hz hdd hcat k
theorem Ev.copyLk {idx q0 q1 n0 n1 sp2 dp2 n2 : Nat} {sp dp n : Int32} (hd : decode mi.2.1 pc = .ok (.invokestatic idx, 3)) (hy : eSys mi.1.cls idx) (ha0 : lay[q0]? = some (.inl (1, n0))) (ha1 : lay[q1]? = some (.inl (1, n1))) (e1 : sp.toNatClampNeg = sp2) (e2 : dp.toNatClampNeg = dp2) (e3 : n.toNatClampNeg = n2) (h1 : ¬ sp < 0) (h2 : ¬ dp < 0) (h3 : ¬ n < 0) (h4 : sp.toNatClampNeg + n.toNatClampNeg ≤ n0) (h5 : dp.toNatClampNeg + n.toNatClampNeg ≤ n1) (hdd : 1 ≤ d) (hcat : (st.map fun v => v.category).sum ≤ 8)
    (k : Ev lay d mi (pc + 3) lv st (eCpyL M q0 q1 sp2 dp2 n2) r) : Ev lay d mi pc lv (.int n :: .int dp :: .ref q1 :: .int sp :: .ref q0 :: st) M r :=
  Ev.copyLj hd hy ha0 ha1 e1 e2 e3 h1 h2 h3 h4 h5 hdd hcat k
end EVZ
