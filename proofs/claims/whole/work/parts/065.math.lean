/-! Math.max, Math.min, the copies, said short. -/
section EVM
variable {lay : List eLC} {d : Nat} {mi : eM} {pc : Nat} {lv : List (Option Value)} {st : List Value} {M : eMem} {r : Option Value × eMem}
def eMax (x y : Int32) : Int32 := if x < y then y else x
def eMin (x y : Int32) : Int32 := if y < x then y else x
def eMaxL (x y : Int64) : Int64 := if y < x then x else y
def eCpy (M : eMem) (q0 q1 sp dp n : Nat) : eMem := eC M q1 (va_cpy (M.1 q0) (M.1 q1) sp dp n)
def eCpyL (M : eMem) (q0 q1 sp dp n : Nat) : eMem := eCJ M q1 (va_cpy (M.2 q0) (M.2 q1) sp dp n)
def eFl32 (M : eMem) (q n : Nat) (v : Int32) : eMem := eC M q (eFill n v (M.1 q))
def eFl64 (M : eMem) (q n : Nat) (v : Int64) : eMem := eCJ M q (eFill n v (M.2 q))
def eMx (own : String) (idx : Nat) : Prop := Cond.methodLink own idx Lib.Math.max.name ∈ eTb ∧ Cond.static Lib.Math.max.name ∈ eTb ∧ Cond.initialized "java/lang/Math" ∈ eTb ∧ Cond.code Lib.Math.max.name Lib.Math.max.code 2 (some .int) ∈ eTb
def eMn (own : String) (idx : Nat) : Prop := Cond.methodLink own idx Lib.Math.min.name ∈ eTb ∧ Cond.static Lib.Math.min.name ∈ eTb ∧ Cond.initialized "java/lang/Math" ∈ eTb ∧ Cond.code Lib.Math.min.name Lib.Math.min.code 2 (some .int) ∈ eTb
def eMl (own : String) (idx : Nat) : Prop := Cond.methodLink own idx Lib.MathLoose.max_long.x ∈ eTb ∧ Cond.static Lib.MathLoose.max_long.x ∈ eTb ∧ Cond.initialized "java/lang/Math" ∈ eTb ∧ Cond.code Lib.MathLoose.max_long.x Lib.MathLoose.max_long.code 4 (some .long) ∈ eTb
theorem eRm_math {R : Room} {cells slots : Nat} {ad : Nat → Nat} (Rm : eRm R d cells slots) (hdd : 1 ≤ d) (hcat : (st.map fun v => v.category).sum ≤ 8) : 1 ≤ R.frames ∧ ((st.map (eV ad)).map fun v => v.category).sum + 15 ≤ R.locals := by
  obtain ⟨r1, r2, r3, r4⟩ := Rm
  have h1 : ((st.map (eV ad)).map fun v => v.category).sum ≤ 8 := by simpa [eV_cat_eq, Function.comp_def] using hcat
  omega
theorem Ev.mmax {idx : Nat} {x y : Int32} (hd : decode mi.2.1 pc = .ok (.invokestatic idx, 3)) (hy : eMx mi.1.cls idx) (hdd : 1 ≤ d) (hcat : (st.map fun v => v.category).sum ≤ 8) (k : Ev lay d mi (pc + 3) lv (.int (eMax x y) :: st) M r) : Ev lay d mi pc lv (.int y :: .int x :: st) M r := by
  intro p l e R s m args below meth c H locs cells slots Q D ac ad A ls C K Rm P Dd S L hend
  obtain ⟨y1, y2, y3, y4⟩ := hy
  have hr := eRm_math (ad := ad) Rm hdd hcat
  have hts := C.2.2.2.2
  exact va_mmax C.1 C.2.1 (C.2.2.1.trans L.1.symm) C.2.2.2.1 (hts _ y1) (hts _ y2) (hts _ y3) (hts _ y4) hr.1 (by omega) Rm.2.2.1 Rm.2.2.2 hd (k p l e R s m args below meth c H locs cells slots Q D ac ad A ls C K Rm P Dd S L hend)
theorem Ev.mmin {idx : Nat} {x y : Int32} (hd : decode mi.2.1 pc = .ok (.invokestatic idx, 3)) (hy : eMn mi.1.cls idx) (hdd : 1 ≤ d) (hcat : (st.map fun v => v.category).sum ≤ 8) (k : Ev lay d mi (pc + 3) lv (.int (eMin x y) :: st) M r) : Ev lay d mi pc lv (.int y :: .int x :: st) M r := by
  intro p l e R s m args below meth c H locs cells slots Q D ac ad A ls C K Rm P Dd S L hend
  obtain ⟨y1, y2, y3, y4⟩ := hy
  have hr := eRm_math (ad := ad) Rm hdd hcat
  have hts := C.2.2.2.2
  exact va_mmin C.1 C.2.1 (C.2.2.1.trans L.1.symm) C.2.2.2.1 (hts _ y1) (hts _ y2) (hts _ y3) (hts _ y4) hr.1 (by omega) Rm.2.2.1 Rm.2.2.2 hd (k p l e R s m args below meth c H locs cells slots Q D ac ad A ls C K Rm P Dd S L hend)
theorem Ev.mmaxL {idx : Nat} {x y : Int64} (hd : decode mi.2.1 pc = .ok (.invokestatic idx, 3)) (hy : eMl mi.1.cls idx) (hdd : 1 ≤ d) (hcat : (st.map fun v => v.category).sum ≤ 8) (k : Ev lay d mi (pc + 3) lv (.long (eMaxL x y) :: st) M r) : Ev lay d mi pc lv (.long y :: .long x :: st) M r := by
  intro p l e R s m args below meth c H locs cells slots Q D ac ad A ls C K Rm P Dd S L hend
  obtain ⟨y1, y2, y3, y4⟩ := hy
  have hr := eRm_math (ad := ad) Rm hdd hcat
  have hts := C.2.2.2.2
  exact va_mmax_long C.1 C.2.1 (C.2.2.1.trans L.1.symm) C.2.2.2.1 (hts _ y1) (hts _ y2) (hts _ y3) (hts _ y4) hr.1 (by omega) Rm.2.2.1 Rm.2.2.2 hd (k p l e R s m args below meth c H locs cells slots Q D ac ad A ls C K Rm P Dd S L hend)
end EVM
