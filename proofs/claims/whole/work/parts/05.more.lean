/-! COPIES, STRING CONSTANTS. -/
section EVS
variable {lay : List eLC} {d : Nat} {mi : eM} {pc : Nat} {lv : List (Option Value)} {st : List Value} {M : eMem} {r : Option Value × eMem}
def eSys (own : String) (idx : Nat) : Prop := Cond.methodLink own idx arraycopyName ∈ eTb ∧ Cond.native arraycopyName ∈ eTb ∧ Cond.static arraycopyName ∈ eTb ∧ Cond.initialized "java/lang/System" ∈ eTb
theorem eRm_copy {R : Room} {cells slots : Nat} {ad : Nat → Nat} (Rm : eRm R d cells slots) (hdd : 1 ≤ d) (hcat : (st.map fun v => v.category).sum ≤ 8) : 1 ≤ R.frames ∧ ((st.map (eV ad)).map fun v => v.category).sum + (nativeFrameWords "java/lang/System" "arraycopy" 5 + 11) ≤ R.locals := by
  obtain ⟨r1, r2, r3, r4⟩ := Rm
  have h1 : ((st.map (eV ad)).map fun v => v.category).sum ≤ 8 := by simpa [eV_cat_eq, Function.comp_def] using hcat
  have h2 : nativeFrameWords "java/lang/System" "arraycopy" 5 = 7 := by decide
  omega
theorem Ev.copyI {idx q0 q1 n0 n1 : Nat} {sp dp n : Int32} (hd : decode mi.2.1 pc = .ok (.invokestatic idx, 3)) (hy : eSys mi.1.cls idx) (ha0 : lay[q0]? = some (.inl (0, n0))) (ha1 : lay[q1]? = some (.inl (0, n1))) (h1 : ¬ sp < 0) (h2 : ¬ dp < 0) (h3 : ¬ n < 0) (h4 : sp.toNatClampNeg + n.toNatClampNeg ≤ n0) (h5 : dp.toNatClampNeg + n.toNatClampNeg ≤ n1) (hdd : 1 ≤ d) (hcat : (st.map fun v => v.category).sum ≤ 8)
    (k : Ev lay d mi (pc + 3) lv st (eC M q1 (va_cpy (M.1 q0) (M.1 q1) sp.toNatClampNeg dp.toNatClampNeg n.toNatClampNeg)) r) : Ev lay d mi pc lv (.int n :: .int dp :: .ref q1 :: .int sp :: .ref q0 :: st) M r := by
  intro p l e R s m args below meth c H locs cells slots Q D ac ad A ls C K Rm P Dd S L hend
  obtain ⟨y1, y2, y3, y4⟩ := hy
  have hr := eRm_copy (ad := ad) Rm hdd hcat
  have hts := C.2.2.2.2
  refine va_copyi C.1 C.2.1 (C.2.2.1.trans L.1.symm) C.2.2.2.1 (hts _ y1) (hts _ y2) (hts _ y3) (hts _ y4) K.1 P Dd S q0 q1 0 0 (eWs_get ha0) (eWs_get ha1) rfl rfl rfl h1 h2 h3 h4 h5 (fun _ _ => rfl) hr.1 hr.2 hd (fun H1 locs1 P1 D1 S1 => ?_)
  rw [← eWs_C ha1 (by decide)] at P1 D1
  exact k p l e R s m args below meth c H1 locs1 cells slots Q D ac ad A ls C K Rm P1 D1 S1 L hend
theorem Ev.copyZ {idx q0 q1 n0 n1 : Nat} {sp dp n : Int32} (hd : decode mi.2.1 pc = .ok (.invokestatic idx, 3)) (hy : eSys mi.1.cls idx) (ha0 : lay[q0]? = some (.inl (2, n0))) (ha1 : lay[q1]? = some (.inl (2, n1))) (h1 : ¬ sp < 0) (h2 : ¬ dp < 0) (h3 : ¬ n < 0) (h4 : sp.toNatClampNeg + n.toNatClampNeg ≤ n0) (h5 : dp.toNatClampNeg + n.toNatClampNeg ≤ n1) (hz : ∀ i, i < n.toNatClampNeg → M.1 q0 (sp.toNatClampNeg + i) = 0 ∨ M.1 q0 (sp.toNatClampNeg + i) = 1) (hdd : 1 ≤ d) (hcat : (st.map fun v => v.category).sum ≤ 8)
    (k : Ev lay d mi (pc + 3) lv st (eC M q1 (va_cpy (M.1 q0) (M.1 q1) sp.toNatClampNeg dp.toNatClampNeg n.toNatClampNeg)) r) : Ev lay d mi pc lv (.int n :: .int dp :: .ref q1 :: .int sp :: .ref q0 :: st) M r := by
  intro p l e R s m args below meth c H locs cells slots Q D ac ad A ls C K Rm P Dd S L hend
  obtain ⟨y1, y2, y3, y4⟩ := hy
  have hr := eRm_copy (ad := ad) Rm hdd hcat
  have hts := C.2.2.2.2
  refine va_copyi C.1 C.2.1 (C.2.2.1.trans L.1.symm) C.2.2.2.1 (hts _ y1) (hts _ y2) (hts _ y3) (hts _ y4) K.1 P Dd S q0 q1 2 2 (eWs_get ha0) (eWs_get ha1) rfl rfl rfl h1 h2 h3 h4 h5 (fun i hi => by rcases hz i hi with h | h <;> rw [h] <;> rfl) hr.1 hr.2 hd (fun H1 locs1 P1 D1 S1 => ?_)
  rw [← eWs_C ha1 (by decide)] at P1 D1
  exact k p l e R s m args below meth c H1 locs1 cells slots Q D ac ad A ls C K Rm P1 D1 S1 L hend
theorem Ev.copyL {idx q0 q1 n0 n1 : Nat} {sp dp n : Int32} (hd : decode mi.2.1 pc = .ok (.invokestatic idx, 3)) (hy : eSys mi.1.cls idx) (ha0 : lay[q0]? = some (.inl (1, n0))) (ha1 : lay[q1]? = some (.inl (1, n1))) (h1 : ¬ sp < 0) (h2 : ¬ dp < 0) (h3 : ¬ n < 0) (h4 : sp.toNatClampNeg + n.toNatClampNeg ≤ n0) (h5 : dp.toNatClampNeg + n.toNatClampNeg ≤ n1) (hdd : 1 ≤ d) (hcat : (st.map fun v => v.category).sum ≤ 8)
    (k : Ev lay d mi (pc + 3) lv st (eCJ M q1 (va_cpy (M.2 q0) (M.2 q1) sp.toNatClampNeg dp.toNatClampNeg n.toNatClampNeg)) r) : Ev lay d mi pc lv (.int n :: .int dp :: .ref q1 :: .int sp :: .ref q0 :: st) M r := by
  intro p l e R s m args below meth c H locs cells slots Q D ac ad A ls C K Rm P Dd S L hend
  obtain ⟨y1, y2, y3, y4⟩ := hy
  have hr := eRm_copy (ad := ad) Rm hdd hcat
  have hts := C.2.2.2.2
  refine va_copyl C.1 C.2.1 (C.2.2.1.trans L.1.symm) C.2.2.2.1 (hts _ y1) (hts _ y2) (hts _ y3) (hts _ y4) K.1 P Dd S q0 q1 1 1 (eWs_get ha0) (eWs_get ha1) rfl rfl rfl h1 h2 h3 h4 h5 (fun _ _ => rfl) hr.1 hr.2 hd (fun H1 locs1 P1 D1 S1 => ?_)
  rw [← eWs_CJ ha1] at P1 D1
  exact k p l e R s m args below meth c H1 locs1 cells slots Q D ac ad A ls C K Rm P1 D1 S1 L hend
/-- a method of a String constant -/
theorem Ev.callVS {idx n d' z j : Nat} {mj : eM} {as stk : List Value} {lvj : List (Option Value)} {rv : Option Value} {M' : eMem} (hd : decode mi.2.1 pc = .ok (.invokevirtual idx, 3))
    (hw : eWc mj n) (hl : Cond.methodLink mi.1.cls idx mj.1 ∈ eTb) (hin : Cond.instanceMethod mj.1 ∈ eTb) (hse : Cond.selects mj.1.cls mj.1 mj.1 ∈ eTb) (hj6 : j < 6) (hX : mj.1.cls = "java/lang/String")
    (hj : Ev lay d' mj 0 lvj [] M (rv, M')) (hlv : eEnt (.ref (2000 + j) :: as) ++ List.replicate z none = lvj) (hz : (eEnt (.ref (2000 + j) :: as)).length + z = mj.2.2.1) (hdd : d' < d) (hn : as.length = n) (hst : stk = as.reverse ++ .ref (2000 + j) :: st) (hcat : (st.map fun v => v.category).sum ≤ 8)
    (k : Ev lay d mi (pc + 3) lv (rv.toList ++ st) M' r) : Ev lay d mi pc lv stk M r := by
  intro p l e R s m args below meth c H locs cells slots Q D ac ad A ls C K Rm P Dd S L hend
  subst hlv hst
  have hM := Ev.met hj hw.2.2.2.1 hz l D ac ad
  have hts := C.2.2.2.2
  refine eBehind (st := st) (rv := rv) (M' := M') (va_runV (C := mj.1.cls) (b := ad (2000 + j)) (As := as.map (eV ad)) (rest := st.map (eV ad)) ⟨C.1, C.2.1, C.2.2.1, C.2.2.2.1, hts⟩ hM ⟨eCallB hw hl hdd Rm hts, hts _ hin, hts _ hse⟩ ⟨ePc_blind, by rw [hX]; exact vk_recv (adK := fun k => ad (2000 + k)) (i := j) K.2.2.2.1 hj6 S, fun U hU hW => ⟨rfl, by rw [hU]; exact P, eWs_D Dd (fun _ h => h), K.call S hU hW (eWs_A Dd)⟩⟩ rfl (by simpa using hn) L.1 (by simp [F0, eV]) ?_ hd ⟨Rm.2.2.1, Rm.2.2.2⟩) C K Rm Dd S L hend k
  refine lv_room ?_
  simpa [eV_cat_eq, Function.comp_def] using hcat
theorem Ev.strVal {idx j : Nat} (hd : decode mi.2.1 pc = .ok (.getfield idx, 3)) (hj : j < 6) (hl : Cond.fieldLink mi.1.cls idx "java/lang/String" "value" "[B" ∈ eTb) (k : Ev lay d mi (pc + 3) lv (.ref (3000 + j) :: st) M r) : Ev lay d mi pc lv (.ref (2000 + j) :: st) M r :=
  fun p l e R s m args below meth c H locs cells slots Q D ac ad A ls C K Rm P Dd S L hend => vk_getf C.1 C.2.1 (K.2.2.2.1.1 j hj).2.2.1 S C.2.2.2.1 (C.2.2.2.2 _ hl) (fun _ h => h) hd (k p l e R s m args below meth c H locs cells slots Q D ac ad A ls C K Rm P Dd S L hend)
theorem Ev.strCod {idx j : Nat} (hd : decode mi.2.1 pc = .ok (.getfield idx, 3)) (hj : j < 6) (hl : Cond.fieldLink mi.1.cls idx "java/lang/String" "coder" "B" ∈ eTb) (k : Ev lay d mi (pc + 3) lv (.int 0 :: st) M r) : Ev lay d mi pc lv (.ref (2000 + j) :: st) M r :=
  fun p l e R s m args below meth c H locs cells slots Q D ac ad A ls C K Rm P Dd S L hend => vk_getf C.1 C.2.1 (K.2.2.2.1.1 j hj).2.1 S C.2.2.2.1 (C.2.2.2.2 _ hl) (fun _ h => h) hd (k p l e R s m args below meth c H locs cells slots Q D ac ad A ls C K Rm P Dd S L hend)
theorem Ev.strLen {j : Nat} (hd : decode mi.2.1 pc = .ok (.arraylength, 1)) (hj : j < 6) (k : Ev lay d mi (pc + 1) lv (.int (Int32.ofNat (eSL.getD j 0)) :: st) M r) : Ev lay d mi pc lv (.ref (3000 + j) :: st) M r :=
  fun p l e R s m args below meth c H locs cells slots Q D ac ad A ls C K Rm P Dd S L hend => va_tlen C.1 C.2.1 (K.2.2.2.1.1 j hj).2.2.2 S rfl hd (k p l e R s m args below meth c H locs cells slots Q D ac ad A ls C K Rm P Dd S L hend)
theorem Ev.strB {j : Nat} {i : Int32} (hd : decode mi.2.1 pc = .ok (.baload, 1)) (hj : j < 6) (hin : vp_in i (eSL.getD j 0)) (k : Ev lay d mi (pc + 1) lv (.int ((eSB.getD j []).getD i.toNatClampNeg 0) :: st) M r) : Ev lay d mi pc lv (.int i :: .ref (3000 + j) :: st) M r :=
  fun p l e R s m args below meth c H locs cells slots Q D ac ad A ls C K Rm P Dd S L hend => va_tb C.1 C.2.1 (K.2.2.2.1.1 j hj).2.2.2 S hin rfl hd (k p l e R s m args below meth c H locs cells slots Q D ac ad A ls C K Rm P Dd S L hend)
theorem Ev.getCS {idx : Nat} (hd : decode mi.2.1 pc = .ok (.getstatic idx, 3)) (hl : Cond.fieldLink mi.1.cls idx "java/lang/String" "COMPACT_STRINGS" "Z" ∈ eTb) (k : Ev lay d mi (pc + 3) lv (.int 1 :: st) M r) : Ev lay d mi pc lv st M r :=
  fun p l e R s m args below meth c H locs cells slots Q D ac ad A ls C K Rm P Dd S L hend => va_gets C.1 C.2.1 K.2.2.2.2.2.1 S C.2.2.2.1 (C.2.2.2.2 _ hl) (fun _ h => h) hd (k p l e R s m args below meth c H locs cells slots Q D ac ad A ls C K Rm P Dd S L hend)
theorem Ev.getFm {idx : Nat} (hd : decode mi.2.1 pc = .ok (.getstatic idx, 3)) (hl : Cond.fieldLink mi.1.cls idx "jdk/internal/util/Preconditions" "SIOOBE_FORMATTER" "Ljava/util/function/BiFunction;" ∈ eTb) (k1 : Ev lay d mi (pc + 3) lv (.null :: st) M r) (k : Ev lay d mi (pc + 3) lv (.ref 4000 :: st) M r) : Ev lay d mi pc lv st M r := by
  intro p l e R s m args below meth c H locs cells slots Q D ac ad A ls C K Rm P Dd S L hend
  rcases K.2.2.2.2.2.2 with hZ | hZ
  · exact va_gets C.1 C.2.1 hZ S C.2.2.2.1 (C.2.2.2.2 _ hl) (fun _ h => h) hd (k1 p l e R s m args below meth c H locs cells slots Q D ac ad A ls C K Rm P Dd S L hend)
  · exact va_gets C.1 C.2.1 hZ S C.2.2.2.1 (C.2.2.2.2 _ hl) (fun _ h => h) hd (k p l e R s m args below meth c H locs cells slots Q D ac ad A ls C K Rm P Dd S L hend)
/-- fewer locals -/
def eSub : List (Option Value) → List (Option Value) → Prop
  | [], _ => True
  | none :: a, [] => eSub a []
  | none :: a, _ :: b => eSub a b
  | some _ :: _, [] => False
  | some v :: a, w :: b => w = some v ∧ eSub a b
theorem eSub_at : ∀ (a b : List (Option Value)), eSub a b → ∀ (k : Nat) (v : Value), a[k]? = some (some v) → b[k]? = some (some v) := by
  intro a
  induction a with
  | nil => intro b _ k v h; simp at h
  | cons x a ih =>
    intro b hb k v h
    cases x with
    | none =>
      cases b with
      | nil =>
        cases k with
        | zero => simp at h
        | succ k => exact absurd (ih [] hb k v (by simpa using h)) (by simp)
      | cons y b =>
        cases k with
        | zero => simp at h
        | succ k => simpa using ih b hb k v (by simpa using h)
    | some w =>
      cases b with
      | nil => exact absurd hb id
      | cons y b =>
        cases k with
        | zero => simp at h; subst h; simpa using hb.1
        | succ k => simpa using ih b hb.2 k v (by simpa using h)
theorem Ev.forget {lv' : List (Option Value)} (hs : eSub lv' lv) (k : Ev lay d mi pc lv' st M r) : Ev lay d mi pc lv st M r :=
  fun p l e R s m args below meth c H locs cells slots Q D ac ad A ls C K Rm P Dd S L hend => k p l e R s m args below meth c H locs cells slots Q D ac ad A ls C K Rm P Dd S (L.forget (eSub_at _ _ hs)) hend
end EVS
/-! the pure side's guards -/
def eIn (i : Int32) (n : Nat) : Bool := !(decide (i < 0)) && decide (i.toNatClampNeg < n)
theorem eIn_vp {i : Int32} {n : Nat} (h : eIn i n = true) : vp_in i n := by
  simp only [eIn, Bool.and_eq_true, Bool.not_eq_true', decide_eq_false_iff_not, decide_eq_true_eq] at h
  rintro (q | q)
  · exact h.1 q
  · omega
theorem eIn_nI {k n : Nat} (h : k < n) (hn : n < 2 ^ 31) : eIn (nI k) n = true := by
  simp only [eIn, Bool.and_eq_true, Bool.not_eq_true', decide_eq_false_iff_not, decide_eq_true_eq]
  exact ⟨nI_pos (by omega), by rw [nI_clamp (by omega)]; exact h⟩
def eCp (sp n : Int32) (len : Nat) : Bool := !(decide (sp < 0)) && !(decide (n < 0)) && decide (sp.toNatClampNeg + n.toNatClampNeg ≤ len)
theorem eCp_of {sp n : Int32} {len : Nat} (h : eCp sp n len = true) : ¬ sp < 0 ∧ ¬ n < 0 ∧ sp.toNatClampNeg + n.toNatClampNeg ≤ len := by
  simp only [eCp, Bool.and_eq_true, Bool.not_eq_true', decide_eq_false_iff_not, decide_eq_true_eq] at h
  exact ⟨h.1.1, h.1.2, h.2⟩
theorem eGd {α : Type} {c : Prop} {w : Decidable c} {a : Option α} {x : α} (h : (if c then a else none) = some x) : c ∧ a = some x := by
  by_cases hc : c
  · rw [if_pos hc] at h; exact ⟨hc, h⟩
  · rw [if_neg hc] at h; cases h
theorem eGn {α : Type} {c : Prop} {w : Decidable c} {a : Option α} {x : α} (h : (if c then none else a) = some x) : ¬ c ∧ a = some x := by
  by_cases hc : c
  · rw [if_pos hc] at h; cases h
  · rw [if_neg hc] at h; exact ⟨hc, h⟩
theorem eB {α β : Type} {o : Option α} {f : α → Option β} {x : β} (h : o.bind f = some x) : ∃ q, o = some q ∧ f q = some x := by
  cases o with
  | none => cases h
  | some q => exact ⟨q, rfl, h⟩
theorem eT {α : Type} {c : Prop} {w : Decidable c} {a b : Option α} {x : α} (h : (if c then a else b) = some x) (hc : c) : a = some x := by rwa [if_pos hc] at h
theorem eF {α : Type} {c : Prop} {w : Decidable c} {a b : Option α} {x : α} (h : (if c then a else b) = some x) (hc : ¬ c) : b = some x := by rwa [if_neg hc] at h
