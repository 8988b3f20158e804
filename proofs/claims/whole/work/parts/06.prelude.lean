/-! WHAT THE PRINTED FUNCTIONS USE. -/
abbrev eFuel : Nat := 1000000000000
def eG {α : Type} (b : Bool) (k : Option α) : Option α := if b = true then k else none
theorem eGdB {α : Type} {b : Bool} {k : Option α} {x : α} (h : eG b k = some x) : b = true ∧ k = some x := by
  unfold eG at h
  exact eGd h
theorem eBk {α β : Type} {o : Option α} {f : α → Option β} {x : β} (h : o.bind f = some x) {P : Prop} (k : ∀ q, o = some q → f q = some x → P) : P := by
  obtain ⟨q, h1, h2⟩ := eB h
  exact k q h1 h2
def eFill {α : Type} (n : Nat) (v : α) (f : Nat → α) : Nat → α := fun i => if i < n then v else f i
theorem eIn_lt {i : Int32} {n : Nat} (h : eIn i n = true) : i.toNatClampNeg < n := by
  simp only [eIn, Bool.and_eq_true, Bool.not_eq_true', decide_eq_false_iff_not, decide_eq_true_eq] at h
  exact h.2
theorem eIn_n0 {i : Int32} {n : Nat} (h : eIn i n = true) : ¬ i < 0 := by
  simp only [eIn, Bool.and_eq_true, Bool.not_eq_true', decide_eq_false_iff_not, decide_eq_true_eq] at h
  exact h.1
theorem eTsO {x : Int32} {lo hi : Int} (n : Nat) (hn : lo + n = hi + 1) (hlo : -2147483648 ≤ lo) (hhi : hi < 2147483647) (h : ∀ k : Nat, k < n → ¬ x = Int32.ofInt (lo + k)) : x.toInt < lo ∨ hi < x.toInt := by
  by_cases h1 : x.toInt < lo
  · exact Or.inl h1
  by_cases h2 : hi < x.toInt
  · exact Or.inr h2
  exfalso
  refine h (x.toInt - lo).toNat (by omega) ?_
  rw [show lo + ((x.toInt - lo).toNat : Int) = x.toInt by omega]
  exact (Int32.ofInt_toInt x).symm
theorem eNar_boolean {v : Int32} (h : vp_nar .boolean v = v) : narrow .boolean (.int v) = .int v := by
  have e : narrow .boolean (.int v) = .int (vp_nar .boolean v) := rfl
  rw [e, h]
theorem eNar_char {v : Int32} (h : vp_nar .char v = v) : narrow .char (.int v) = .int v := by
  have e : narrow .char (.int v) = .int (vp_nar .char v) := rfl
  rw [e, h]
theorem eNar_byte {v : Int32} (h : vp_nar .byte v = v) : narrow .byte (.int v) = .int v := by
  have e : narrow .byte (.int v) = .int (vp_nar .byte v) := rfl
  rw [e, h]
theorem eLk2 {x : Int32} (h1 : ¬ x = 1) (h2 : ¬ x = 2) : Op.lookupswitch.offset [(1, 28), (2, 50)] 72 x.toInt = 72 := by
  have g1 : x.toInt ≠ 1 := fun e => h1 (Int32.toInt_inj.mp e)
  have g2 : x.toInt ≠ 2 := fun e => h2 (Int32.toInt_inj.mp e)
  simp [Op.lookupswitch.offset, g1.symm, g2.symm, g1, g2]
section EVJ
variable {lay : List eLC} {d : Nat} {mi : eM} {pc : Nat} {lv : List (Option Value)} {st : List Value} {M : eMem} {r : Option Value × eMem}
theorem Ev.iincv {i : Nat} {n : Int} {x v : Int32} (hd : decode mi.2.1 pc = .ok (.iinc i n, 3)) (hv : Int32.ofInt n = v) (hx : lv[i]? = some (some (.int x))) (hn : i < mi.2.2.1) (h1 : eNd lv = true) (h2 : eOk lv i = true) (k : Ev lay d mi (pc + 3) (lv.set i (some (.int (x + v)))) st M r) : Ev lay d mi pc lv st M r := by
  subst hv
  exact Ev.iinc hd hx hn h1 h2 k
theorem Ev.ialdj {q n j : Nat} {i : Int32} (hd : decode mi.2.1 pc = .ok (.iaload, 1)) (hl : lay[q]? = some (.inl (0, n))) (hin : eIn i n = true) (hj : i.toNatClampNeg = j) (k : Ev lay d mi (pc + 1) lv (.int (M.1 q j) :: st) M r) : Ev lay d mi pc lv (.int i :: .ref q :: st) M r := by
  subst hj
  exact Ev.iald hd hl (eIn_vp hin) k
theorem Ev.laldj {q n j : Nat} {i : Int32} (hd : decode mi.2.1 pc = .ok (.laload, 1)) (hl : lay[q]? = some (.inl (1, n))) (hin : eIn i n = true) (hj : i.toNatClampNeg = j) (k : Ev lay d mi (pc + 1) lv (.long (M.2 q j) :: st) M r) : Ev lay d mi pc lv (.int i :: .ref q :: st) M r := by
  subst hj
  exact Ev.lald hd hl (eIn_vp hin) k
theorem Ev.zaldj {q n j : Nat} {i : Int32} (hd : decode mi.2.1 pc = .ok (.baload, 1)) (hl : lay[q]? = some (.inl (2, n))) (hin : eIn i n = true) (hj : i.toNatClampNeg = j) (k : Ev lay d mi (pc + 1) lv (.int (M.1 q j) :: st) M r) : Ev lay d mi pc lv (.int i :: .ref q :: st) M r := by
  subst hj
  exact Ev.zald hd hl (eIn_vp hin) k
theorem Ev.baldj {q n j : Nat} {i : Int32} (hd : decode mi.2.1 pc = .ok (.baload, 1)) (hl : lay[q]? = some (.inl (3, n))) (hin : eIn i n = true) (hj : i.toNatClampNeg = j) (k : Ev lay d mi (pc + 1) lv (.int (M.1 q j) :: st) M r) : Ev lay d mi pc lv (.int i :: .ref q :: st) M r := by
  subst hj
  exact Ev.bald hd hl (eIn_vp hin) k
theorem Ev.iastj {q n j : Nat} {i : Int32} {x : Int32} (hd : decode mi.2.1 pc = .ok (.iastore, 1)) (hl : lay[q]? = some (.inl (0, n))) (hin : eIn i n = true) (hj : i.toNatClampNeg = j) (k : Ev lay d mi (pc + 1) lv st (eI M q j x) r) : Ev lay d mi pc lv (.int x :: .int i :: .ref q :: st) M r := by
  subst hj
  exact Ev.iast hd hl (eIn_vp hin) k
theorem Ev.zastj {q n j : Nat} {i : Int32} {x : Int32} (hd : decode mi.2.1 pc = .ok (.bastore, 1)) (hl : lay[q]? = some (.inl (2, n))) (hin : eIn i n = true) (hj : i.toNatClampNeg = j) (k : Ev lay d mi (pc + 1) lv st (eI M q j (vp_nar .boolean x)) r) : Ev lay d mi pc lv (.int x :: .int i :: .ref q :: st) M r := by
  subst hj
  exact Ev.zast hd hl (eIn_vp hin) k
theorem Ev.bastj {q n j : Nat} {i : Int32} {x : Int32} (hd : decode mi.2.1 pc = .ok (.bastore, 1)) (hl : lay[q]? = some (.inl (3, n))) (hin : eIn i n = true) (hj : i.toNatClampNeg = j) (k : Ev lay d mi (pc + 1) lv st (eI M q j (vp_nar .byte x)) r) : Ev lay d mi pc lv (.int x :: .int i :: .ref q :: st) M r := by
  subst hj
  exact Ev.bast hd hl (eIn_vp hin) k
theorem Ev.lastj {q n j : Nat} {i : Int32} {x : Int64} (hd : decode mi.2.1 pc = .ok (.lastore, 1)) (hl : lay[q]? = some (.inl (1, n))) (hin : eIn i n = true) (hj : i.toNatClampNeg = j) (k : Ev lay d mi (pc + 1) lv st (eJ M q j x) r) : Ev lay d mi pc lv (.long x :: .int i :: .ref q :: st) M r := by
  subst hj
  exact Ev.last hd hl (eIn_vp hin) k
theorem Ev.kaldj {j n : Nat} {i : Int32} (hd : decode mi.2.1 pc = .ok (.iaload, 1)) (hj : j < 4) (hin : eIn i 7 = true) (hn : i.toNatClampNeg = n) (k : Ev lay d mi (pc + 1) lv (.int ((eKA.getD j []).getD n 0) :: st) M r) : Ev lay d mi pc lv (.int i :: .ref (1000 + j) :: st) M r := by
  subst hn
  exact Ev.kald hd hj (eIn_vp hin) k
theorem Ev.strBj {j n N : Nat} {i : Int32} (hd : decode mi.2.1 pc = .ok (.baload, 1)) (hj : j < 6) (hin : eIn i N = true) (hn : i.toNatClampNeg = n) (hN : eSL.getD j 0 = N := by rfl) (k : Ev lay d mi (pc + 1) lv (.int ((eSB.getD j []).getD n 0) :: st) M r) : Ev lay d mi pc lv (.int i :: .ref (3000 + j) :: st) M r := by
  subst hn hN
  exact Ev.strB hd hj (eIn_vp hin) k
theorem Ev.strLenj {j : Nat} {v : Int32} (hd : decode mi.2.1 pc = .ok (.arraylength, 1)) (hj : j < 6) (hv : Int32.ofNat (eSL.getD j 0) = v) (k : Ev lay d mi (pc + 1) lv (.int v :: st) M r) : Ev lay d mi pc lv (.ref (3000 + j) :: st) M r := by
  subst hv
  exact Ev.strLen hd hj k
theorem Ev.aaldj {q t z : Nat} {i : Int32} {rows : List Nat} (hd : decode mi.2.1 pc = .ok (.aaload, 1)) (hl : lay[q]? = some (.inr (.inl (t, rows)))) (ht : t = 4 ∨ t = 5) (h0 : ¬ i < 0) (hz : rows[i.toNatClampNeg]? = some z) (k : Ev lay d mi (pc + 1) lv (.ref z :: st) M r) : Ev lay d mi pc lv (.int i :: .ref q :: st) M r := Ev.aald hd hl ht h0 hz k
theorem Ev.copyIj {idx q0 q1 n0 n1 sp2 dp2 n2 : Nat} {sp dp n : Int32} (hd : decode mi.2.1 pc = .ok (.invokestatic idx, 3)) (hy : eSys mi.1.cls idx) (ha0 : lay[q0]? = some (.inl (0, n0))) (ha1 : lay[q1]? = some (.inl (0, n1))) (e1 : sp.toNatClampNeg = sp2) (e2 : dp.toNatClampNeg = dp2) (e3 : n.toNatClampNeg = n2) (h1 : ¬ sp < 0) (h2 : ¬ dp < 0) (h3 : ¬ n < 0) (h4 : sp.toNatClampNeg + n.toNatClampNeg ≤ n0) (h5 : dp.toNatClampNeg + n.toNatClampNeg ≤ n1) (hdd : 1 ≤ d) (hcat : (st.map fun v => v.category).sum ≤ 8)
    (k : Ev lay d mi (pc + 3) lv st (eC M q1 (va_cpy (M.1 q0) (M.1 q1) sp2 dp2 n2)) r) : Ev lay d mi pc lv (.int n :: .int dp :: .ref q1 :: .int sp :: .ref q0 :: st) M r := by
  subst e1 e2 e3
  exact Ev.copyI hd hy ha0 ha1 h1 h2 h3 h4 h5 hdd hcat k
theorem Ev.copyZj {idx q0 q1 n0 n1 sp2 dp2 n2 : Nat} {sp dp n : Int32} (hd : decode mi.2.1 pc = .ok (.invokestatic idx, 3)) (hy : eSys mi.1.cls idx) (ha0 : lay[q0]? = some (.inl (2, n0))) (ha1 : lay[q1]? = some (.inl (2, n1))) (e1 : sp.toNatClampNeg = sp2) (e2 : dp.toNatClampNeg = dp2) (e3 : n.toNatClampNeg = n2) (h1 : ¬ sp < 0) (h2 : ¬ dp < 0) (h3 : ¬ n < 0) (h4 : sp.toNatClampNeg + n.toNatClampNeg ≤ n0) (h5 : dp.toNatClampNeg + n.toNatClampNeg ≤ n1) (hz : ∀ i, i < n2 → M.1 q0 (sp2 + i) = 0 ∨ M.1 q0 (sp2 + i) = 1) (hdd : 1 ≤ d) (hcat : (st.map fun v => v.category).sum ≤ 8)
    (k : Ev lay d mi (pc + 3) lv st (eC M q1 (va_cpy (M.1 q0) (M.1 q1) sp2 dp2 n2)) r) : Ev lay d mi pc lv (.int n :: .int dp :: .ref q1 :: .int sp :: .ref q0 :: st) M r := by
  subst e1 e2 e3
  exact Ev.copyZ hd hy ha0 ha1 h1 h2 h3 h4 h5 hz hdd hcat k
theorem Ev.copyLj {idx q0 q1 n0 n1 sp2 dp2 n2 : Nat} {sp dp n : Int32} (hd : decode mi.2.1 pc = .ok (.invokestatic idx, 3)) (hy : eSys mi.1.cls idx) (ha0 : lay[q0]? = some (.inl (1, n0))) (ha1 : lay[q1]? = some (.inl (1, n1))) (e1 : sp.toNatClampNeg = sp2) (e2 : dp.toNatClampNeg = dp2) (e3 : n.toNatClampNeg = n2) (h1 : ¬ sp < 0) (h2 : ¬ dp < 0) (h3 : ¬ n < 0) (h4 : sp.toNatClampNeg + n.toNatClampNeg ≤ n0) (h5 : dp.toNatClampNeg + n.toNatClampNeg ≤ n1) (hdd : 1 ≤ d) (hcat : (st.map fun v => v.category).sum ≤ 8)
    (k : Ev lay d mi (pc + 3) lv st (eCJ M q1 (va_cpy (M.2 q0) (M.2 q1) sp2 dp2 n2)) r) : Ev lay d mi pc lv (.int n :: .int dp :: .ref q1 :: .int sp :: .ref q0 :: st) M r := by
  subst e1 e2 e3
  exact Ev.copyL hd hy ha0 ha1 h1 h2 h3 h4 h5 hdd hcat k
end EVJ
