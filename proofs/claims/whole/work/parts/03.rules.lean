/-! THE JUDGEMENT. -/
def eKA : List (List Int32) := [[0, 1, 4, 2, 0, 0, 0], [1, 2, 5, 0, 1, 0, 0], [9, 9, 9, 23, 4, 4, 11], [9, 9, 9, 23, 9, 99, 9]]
def eKN : List String := ["NEEDS", "PRICES", "MOST_A", "MOST_B"]
/-- the String constants: class, entry, text, bytes -/
def eSO : List (String × Nat × String) := [("GhostCoast$Tape", 42, "must may bar "), ("GhostCoast$Tape", 48, "show dummy camp net voice paper quiet "), ("GhostCoast$Tape", 59, "if "), ("GhostCoast$Tape", 74, "day hour hands story cell "), ("GhostCoast$Tape", 76, "= < > "), ("GhostCoastModel", 182, "must may bar show dummy camp net voice paper quiet day hour hands story cell if ")]
def eSB : List (List Int32) := [[109, 117, 115, 116, 32, 109, 97, 121, 32, 98, 97, 114, 32], [115, 104, 111, 119, 32, 100, 117, 109, 109, 121, 32, 99, 97, 109, 112, 32, 110, 101, 116, 32, 118, 111, 105, 99, 101, 32, 112, 97, 112, 101, 114, 32, 113, 117, 105, 101, 116, 32], [105, 102, 32], [100, 97, 121, 32, 104, 111, 117, 114, 32, 104, 97, 110, 100, 115, 32, 115, 116, 111, 114, 121, 32, 99, 101, 108, 108, 32], [61, 32, 60, 32, 62, 32], [109, 117, 115, 116, 32, 109, 97, 121, 32, 98, 97, 114, 32, 115, 104, 111, 119, 32, 100, 117, 109, 109, 121, 32, 99, 97, 109, 112, 32, 110, 101, 116, 32, 118, 111, 105, 99, 101, 32, 112, 97, 112, 101, 114, 32, 113, 117, 105, 101, 116, 32, 100, 97, 121, 32, 104, 111, 117, 114, 32, 104, 97, 110, 100, 115, 32, 115, 116, 111, 114, 121, 32, 99, 101, 108, 108, 32, 105, 102, 32]]
def eSL : List Nat := [13, 38, 3, 26, 6, 80]
/-- what stands outside the layout: static tables, String constants -/
def eOut (ad : Nat → Nat) (A : Nat → Prop) (s : State) : Prop :=
  (∀ k, k < 4 → va_Z "GhostCoast" (eKN.getD k "") "[I" (.ref (ad (1000 + k))) A s s.heap ∧ va_T .int (ad (1000 + k)) 7 (fun j => .int ((eKA.getD k []).getD j 0)) A s s.heap) ∧
  vk_S 6 eSL eSB (fun k => ad (2000 + k)) (fun k => ad (3000 + k)) A s s.heap ∧
  (∀ k, k < 6 → vk_R (eSO.getD k ("", 0, "")).1 (eSO.getD k ("", 0, "")).2.1 (eSO.getD k ("", 0, "")).2.2 (ad (2000 + k)) s) ∧
  va_Z "java/lang/String" "COMPACT_STRINGS" "Z" (.int 1) A s s.heap ∧
  (va_Z "jdk/internal/util/Preconditions" "SIOOBE_FORMATTER" "Ljava/util/function/BiFunction;" .null A s s.heap ∨ va_Z "jdk/internal/util/Preconditions" "SIOOBE_FORMATTER" "Ljava/util/function/BiFunction;" (.ref (ad 4000)) A s s.heap)
theorem eOut.call {ad : Nat → Nat} {A A' : Nat → Prop} {s U : State} {H : Heap} {locs : List Loc} (h : eOut ad A s) (hS : va_S A s.heap H locs) (hU : U.heap = H) (hW : s.WarmedH U.vm) (hA : ∀ q, A' q → A q) : eOut ad A' U := by
  obtain ⟨h1, h2, h3, h4, h5⟩ := h
  subst hU
  refine ⟨fun k hk => ⟨(((h1 k hk).1.kept hS.2.1).narrow hA).moved hW.alike, (((h1 k hk).2.kept hS.2.1).narrow hA).moved hW.alike⟩, ((h2.kept hS.2.1).narrow hA).moved hW.alike, fun k hk => (h3 k hk).warm hW, ((h4.kept hS.2.1).narrow hA).moved hW.alike, ?_⟩
  rcases h5 with h5 | h5
  · exact Or.inl (((h5.kept hS.2.1).narrow hA).moved hW.alike)
  · exact Or.inr (((h5.kept hS.2.1).narrow hA).moved hW.alike)
theorem eOut.blind {ad : Nat → Nat} {A : Nat → Prop} {U : State} {g : JFrame} {mk : MethodId} {a : Array Value} (h : eOut ad A U) : eOut ad A (U.calling g mk a) := by
  obtain ⟨h1, h2, h3, h4, h5⟩ := h
  have hv : U.vm.Alike (U.calling g mk a).vm := Vm.Alike.refl U.vm
  refine ⟨fun k hk => ⟨(h1 k hk).1.moved hv, (h1 k hk).2.moved hv⟩, h2.moved hv, fun k hk => (h3 k hk).same (U := U.calling g mk a) rfl, h4.moved hv, ?_⟩
  rcases h5 with h5 | h5
  · exact Or.inl (h5.moved hv)
  · exact Or.inr (h5.moved hv)
def eKs (D : va_G) (ac : Nat → ClassId) (ad : Nat → Nat) (A : Nat → Prop) (s : State) : Prop :=
  va_K D vwCl (eTy ac) s ∧ (∀ w ∈ eNest, va_Nw w s) ∧ eOut ad A s
theorem eNest_warm {w : Cond} (hw : w ∈ eNest) {s U : State} (hW : s.WarmedH U.vm) (h : va_Nw w s) : va_Nw w U := by
  have h1 := (List.mem_filter.mp hw).2
  cases w <;> simp only [eIsNest, Bool.false_eq_true] at h1
  · exact va_Nw.warmM hW h
  · exact va_Nw.warmF hW h
theorem eNest_same {w : Cond} (hw : w ∈ eNest) {U : State} {g : JFrame} {mk : MethodId} {a : Array Value} (h : va_Nw w U) : va_Nw w (U.calling g mk a) := by
  have h1 := (List.mem_filter.mp hw).2
  cases w <;> simp only [eIsNest, Bool.false_eq_true] at h1
  · exact va_Nw.same rfl (U := U.calling g mk a) rfl h
  · exact va_Nw.same rfl (U := U.calling g mk a) rfl h
theorem eKs.call {D : va_G} {ac : Nat → ClassId} {ad : Nat → Nat} {A A' : Nat → Prop} {s U : State} {H : Heap} {locs : List Loc} (h : eKs D ac ad A s) (hS : va_S A s.heap H locs) (hU : U.heap = H) (hW : s.WarmedH U.vm) (hA : ∀ q, A' q → A q) : eKs D ac ad A' U :=
  ⟨va_K.moved hW.alike h.1, fun w hw => eNest_warm hw hW (h.2.1 w hw), h.2.2.call hS hU hW hA⟩
theorem eKs.blind {D : va_G} {ac : Nat → ClassId} {ad : Nat → Nat} {A : Nat → Prop} {U : State} {g : JFrame} {mk : MethodId} {a : Array Value} (h : eKs D ac ad A U) : eKs D ac ad A (U.calling g mk a) :=
  ⟨va_K.moved (u := U) (U := U.calling g mk a) (Vm.Alike.refl U.vm) h.1, fun w hw => eNest_same hw (h.2.1 w hw), h.2.2.blind⟩
def eCx (p : Program) (s : State) (m : MethodId) (args : Array Value) (c : Code) (mi : eM) : Prop :=
  p.tables.exec = Jvm.exec ∧ c.code = mi.2.1 ∧ c.maxLocals = mi.2.2.1 ∧ s.vm.findClass mi.1.cls = some m.cls ∧ ∀ w ∈ eTb, w.before args s = true
def eRet (mi : eM) (pc : Nat) : Option Value → Prop
  | none => decode mi.2.1 pc = .ok (.return_, 1) ∧ mi.2.2.2 = none
  | some (.int v) => decode mi.2.1 pc = .ok (.ireturn, 1) ∧ ∃ ty, mi.2.2.2 = some ty ∧ narrow ty (.int v) = .int v
  | some (.long _) => decode mi.2.1 pc = .ok (.lreturn, 1) ∧ mi.2.2.2 = some .long
  | some (.ref _) => decode mi.2.1 pc = .ok (.areturn, 1) ∧ ∃ X, mi.2.2.2 = some (.object X)
  | _ => False
def eRm (R : Room) (d cells slots : Nat) : Prop := d ≤ R.frames ∧ 40 * d ≤ R.locals ∧ cells ≤ R.cells ∧ slots ≤ R.slots
def Ev (lay : List eLC) (d : Nat) (mi : eM) (pc : Nat) (lv : List (Option Value)) (st : List Value) (M : eMem) (r : Option Value × eMem) : Prop :=
  ∀ (p : Program) (l : Launch) (e : Env) (R : Room) (s : State) (m : MethodId) (args : Array Value) (below : List Frame) (meth : Method) (c : Code) (H : Heap) (locs : List Loc) (cells slots : Nat) (Q : State → Prop) (D : va_G) (ac : Nat → ClassId) (ad : Nat → Nat) (A : Nat → Prop) (ls : Array Slot),
    eCx p s m args c mi → eKs D ac ad A s → eRm R d cells slots →
    va_P D vwCl (eWs lay ac ad M) H → va_D A (eWs lay ac ad M) → va_S A s.heap H locs → eLs ad mi.2.2.1 lv ls →
    (∀ (pc' : Nat) (H' : Heap) (locs' : List Loc) (ls' : Array Slot), eRet mi pc' r.1 → va_P D vwCl (eWs lay ac ad r.2) H' → va_D A (eWs lay ac ad r.2) → va_S A s.heap H' locs' →
      W p l e R s m args below meth c H' locs' cells slots Q (F0 m pc' ls' (r.1.map (eV ad)).toList)) →
    W p l e R s m args below meth c H locs cells slots Q (F0 m pc ls (st.map (eV ad)))
section EVR
variable {lay : List eLC} {d : Nat} {mi : eM} {pc : Nat} {lv : List (Option Value)} {st : List Value} {M : eMem} {r : Option Value × eMem}
theorem Ev.iadd {x y : Int32} (hd : decode mi.2.1 pc = .ok (.iadd, 1))  (k : Ev lay d mi (pc + 1) lv (.int (x + y) :: st) M r) : Ev lay d mi pc lv (.int y :: .int x :: st) M r :=
  fun p l e R s m args below meth c H locs cells slots Q D ac ad A ls C K Rm P Dd S L hend => lv_iadd C.1 C.2.1 hd  (k p l e R s m args below meth c H locs cells slots Q D ac ad A ls C K Rm P Dd S L hend)
theorem Ev.isub {x y : Int32} (hd : decode mi.2.1 pc = .ok (.isub, 1))  (k : Ev lay d mi (pc + 1) lv (.int (x - y) :: st) M r) : Ev lay d mi pc lv (.int y :: .int x :: st) M r :=
  fun p l e R s m args below meth c H locs cells slots Q D ac ad A ls C K Rm P Dd S L hend => lv_isub C.1 C.2.1 hd  (k p l e R s m args below meth c H locs cells slots Q D ac ad A ls C K Rm P Dd S L hend)
theorem Ev.imul {x y : Int32} (hd : decode mi.2.1 pc = .ok (.imul, 1))  (k : Ev lay d mi (pc + 1) lv (.int (x * y) :: st) M r) : Ev lay d mi pc lv (.int y :: .int x :: st) M r :=
  fun p l e R s m args below meth c H locs cells slots Q D ac ad A ls C K Rm P Dd S L hend => lv_imul C.1 C.2.1 hd  (k p l e R s m args below meth c H locs cells slots Q D ac ad A ls C K Rm P Dd S L hend)
theorem Ev.iand {x y : Int32} (hd : decode mi.2.1 pc = .ok (.iand, 1))  (k : Ev lay d mi (pc + 1) lv (.int (x &&& y) :: st) M r) : Ev lay d mi pc lv (.int y :: .int x :: st) M r :=
  fun p l e R s m args below meth c H locs cells slots Q D ac ad A ls C K Rm P Dd S L hend => lv_iand C.1 C.2.1 hd  (k p l e R s m args below meth c H locs cells slots Q D ac ad A ls C K Rm P Dd S L hend)
theorem Ev.ior {x y : Int32} (hd : decode mi.2.1 pc = .ok (.ior, 1))  (k : Ev lay d mi (pc + 1) lv (.int (x ||| y) :: st) M r) : Ev lay d mi pc lv (.int y :: .int x :: st) M r :=
  fun p l e R s m args below meth c H locs cells slots Q D ac ad A ls C K Rm P Dd S L hend => lv_ior C.1 C.2.1 hd  (k p l e R s m args below meth c H locs cells slots Q D ac ad A ls C K Rm P Dd S L hend)
theorem Ev.ishl {x y : Int32} (hd : decode mi.2.1 pc = .ok (.ishl, 1))  (k : Ev lay d mi (pc + 1) lv (.int (x <<< (y &&& 31)) :: st) M r) : Ev lay d mi pc lv (.int y :: .int x :: st) M r :=
  fun p l e R s m args below meth c H locs cells slots Q D ac ad A ls C K Rm P Dd S L hend => lv_ishl C.1 C.2.1 hd  (k p l e R s m args below meth c H locs cells slots Q D ac ad A ls C K Rm P Dd S L hend)
theorem Ev.ishr {x y : Int32} (hd : decode mi.2.1 pc = .ok (.ishr, 1))  (k : Ev lay d mi (pc + 1) lv (.int (x >>> (y &&& 31)) :: st) M r) : Ev lay d mi pc lv (.int y :: .int x :: st) M r :=
  fun p l e R s m args below meth c H locs cells slots Q D ac ad A ls C K Rm P Dd S L hend => lv_ishr C.1 C.2.1 hd  (k p l e R s m args below meth c H locs cells slots Q D ac ad A ls C K Rm P Dd S L hend)
theorem Ev.idiv {x y : Int32} (hd : decode mi.2.1 pc = .ok (.idiv, 1)) (hne : ¬ y = 0) (k : Ev lay d mi (pc + 1) lv (.int (x / y) :: st) M r) : Ev lay d mi pc lv (.int y :: .int x :: st) M r :=
  fun p l e R s m args below meth c H locs cells slots Q D ac ad A ls C K Rm P Dd S L hend => lv_idiv C.1 C.2.1 hd hne (k p l e R s m args below meth c H locs cells slots Q D ac ad A ls C K Rm P Dd S L hend)
theorem Ev.irem {x y : Int32} (hd : decode mi.2.1 pc = .ok (.irem, 1)) (hne : ¬ y = 0) (k : Ev lay d mi (pc + 1) lv (.int (x - x / y * y) :: st) M r) : Ev lay d mi pc lv (.int y :: .int x :: st) M r :=
  fun p l e R s m args below meth c H locs cells slots Q D ac ad A ls C K Rm P Dd S L hend => lv_irem C.1 C.2.1 hd hne (k p l e R s m args below meth c H locs cells slots Q D ac ad A ls C K Rm P Dd S L hend)
theorem Ev.ladd {x y : Int64} (hd : decode mi.2.1 pc = .ok (.ladd, 1))  (k : Ev lay d mi (pc + 1) lv (.long (x + y) :: st) M r) : Ev lay d mi pc lv (.long y :: .long x :: st) M r :=
  fun p l e R s m args below meth c H locs cells slots Q D ac ad A ls C K Rm P Dd S L hend => lv_ladd C.1 C.2.1 hd  (k p l e R s m args below meth c H locs cells slots Q D ac ad A ls C K Rm P Dd S L hend)
theorem Ev.lsub {x y : Int64} (hd : decode mi.2.1 pc = .ok (.lsub, 1))  (k : Ev lay d mi (pc + 1) lv (.long (x - y) :: st) M r) : Ev lay d mi pc lv (.long y :: .long x :: st) M r :=
  fun p l e R s m args below meth c H locs cells slots Q D ac ad A ls C K Rm P Dd S L hend => lv_lsub C.1 C.2.1 hd  (k p l e R s m args below meth c H locs cells slots Q D ac ad A ls C K Rm P Dd S L hend)
theorem Ev.lmul {x y : Int64} (hd : decode mi.2.1 pc = .ok (.lmul, 1))  (k : Ev lay d mi (pc + 1) lv (.long (x * y) :: st) M r) : Ev lay d mi pc lv (.long y :: .long x :: st) M r :=
  fun p l e R s m args below meth c H locs cells slots Q D ac ad A ls C K Rm P Dd S L hend => lv_lmul C.1 C.2.1 hd  (k p l e R s m args below meth c H locs cells slots Q D ac ad A ls C K Rm P Dd S L hend)
theorem Ev.ldiv {x y : Int64} (hd : decode mi.2.1 pc = .ok (.ldiv, 1)) (hne : ¬ y = 0) (k : Ev lay d mi (pc + 1) lv (.long (x / y) :: st) M r) : Ev lay d mi pc lv (.long y :: .long x :: st) M r :=
  fun p l e R s m args below meth c H locs cells slots Q D ac ad A ls C K Rm P Dd S L hend => lv_ldiv C.1 C.2.1 hd hne (k p l e R s m args below meth c H locs cells slots Q D ac ad A ls C K Rm P Dd S L hend)
theorem Ev.lrem {x y : Int64} (hd : decode mi.2.1 pc = .ok (.lrem, 1)) (hne : ¬ y = 0) (k : Ev lay d mi (pc + 1) lv (.long (x - x / y * y) :: st) M r) : Ev lay d mi pc lv (.long y :: .long x :: st) M r :=
  fun p l e R s m args below meth c H locs cells slots Q D ac ad A ls C K Rm P Dd S L hend => lv_lrem C.1 C.2.1 hd hne (k p l e R s m args below meth c H locs cells slots Q D ac ad A ls C K Rm P Dd S L hend)
theorem Ev.lcmp {x y : Int64} (hd : decode mi.2.1 pc = .ok (.lcmp, 1))  (k : Ev lay d mi (pc + 1) lv (.int (lg_cmp x y) :: st) M r) : Ev lay d mi pc lv (.long y :: .long x :: st) M r :=
  fun p l e R s m args below meth c H locs cells slots Q D ac ad A ls C K Rm P Dd S L hend => W.lcmp C.1 C.2.1 hd  (k p l e R s m args below meth c H locs cells slots Q D ac ad A ls C K Rm P Dd S L hend)
theorem Ev.iushr {x y : Int32} (hd : decode mi.2.1 pc = .ok (.iushr, 1))  (k : Ev lay d mi (pc + 1) lv (.int ((x.toUInt32 >>> (y.toUInt32 &&& Int32.toUInt32 31)).toInt32) :: st) M r) : Ev lay d mi pc lv (.int y :: .int x :: st) M r :=
  fun p l e R s m args below meth c H locs cells slots Q D ac ad A ls C K Rm P Dd S L hend => lv_iushr C.1 C.2.1 hd rfl (k p l e R s m args below meth c H locs cells slots Q D ac ad A ls C K Rm P Dd S L hend)
theorem Ev.i2l {x : Int32} (hd : decode mi.2.1 pc = .ok (.i2l, 1))  (k : Ev lay d mi (pc + 1) lv (.long x.toInt64 :: st) M r) : Ev lay d mi pc lv (.int x :: st) M r :=
  fun p l e R s m args below meth c H locs cells slots Q D ac ad A ls C K Rm P Dd S L hend => lv_i2l C.1 C.2.1 hd rfl (k p l e R s m args below meth c H locs cells slots Q D ac ad A ls C K Rm P Dd S L hend)
theorem Ev.l2i {x : Int64} (hd : decode mi.2.1 pc = .ok (.l2i, 1))  (k : Ev lay d mi (pc + 1) lv (.int x.toInt32 :: st) M r) : Ev lay d mi pc lv (.long x :: st) M r :=
  fun p l e R s m args below meth c H locs cells slots Q D ac ad A ls C K Rm P Dd S L hend => lv_l2i C.1 C.2.1 hd rfl (k p l e R s m args below meth c H locs cells slots Q D ac ad A ls C K Rm P Dd S L hend)
theorem Ev.i2b {x : Int32} (hd : decode mi.2.1 pc = .ok (.i2b, 1))  (k : Ev lay d mi (pc + 1) lv (.int x.toInt8.toInt32 :: st) M r) : Ev lay d mi pc lv (.int x :: st) M r :=
  fun p l e R s m args below meth c H locs cells slots Q D ac ad A ls C K Rm P Dd S L hend => lv_i2b C.1 C.2.1 hd rfl (k p l e R s m args below meth c H locs cells slots Q D ac ad A ls C K Rm P Dd S L hend)
theorem Ev.i2c {x : Int32} (hd : decode mi.2.1 pc = .ok (.i2c, 1))  (k : Ev lay d mi (pc + 1) lv (.int (x.toUInt32 % 65536).toInt32 :: st) M r) : Ev lay d mi pc lv (.int x :: st) M r :=
  fun p l e R s m args below meth c H locs cells slots Q D ac ad A ls C K Rm P Dd S L hend => lv_i2c C.1 C.2.1 hd rfl (k p l e R s m args below meth c H locs cells slots Q D ac ad A ls C K Rm P Dd S L hend)
theorem Ev.iconst {n : Int} {v : Int32} (hd : decode mi.2.1 pc = .ok (.iconst n, 1)) (hv : Int32.ofInt n = v) (k : Ev lay d mi (pc + 1) lv (.int v :: st) M r) : Ev lay d mi pc lv (st) M r :=
  fun p l e R s m args below meth c H locs cells slots Q D ac ad A ls C K Rm P Dd S L hend => lv_iconst C.1 C.2.1 hd hv (k p l e R s m args below meth c H locs cells slots Q D ac ad A ls C K Rm P Dd S L hend)
theorem Ev.bipush {n : Int} {v : Int32} (hd : decode mi.2.1 pc = .ok (.bipush n, 2)) (hv : (Int8.ofInt n).toInt32 = v) (k : Ev lay d mi (pc + 2) lv (.int v :: st) M r) : Ev lay d mi pc lv (st) M r :=
  fun p l e R s m args below meth c H locs cells slots Q D ac ad A ls C K Rm P Dd S L hend => lv_bipush C.1 C.2.1 hd hv (k p l e R s m args below meth c H locs cells slots Q D ac ad A ls C K Rm P Dd S L hend)
theorem Ev.sipush {n : Int} {v : Int32} (hd : decode mi.2.1 pc = .ok (.sipush n, 3)) (hv : (Int16.ofInt n).toInt32 = v) (k : Ev lay d mi (pc + 3) lv (.int v :: st) M r) : Ev lay d mi pc lv (st) M r :=
  fun p l e R s m args below meth c H locs cells slots Q D ac ad A ls C K Rm P Dd S L hend => lv_sipush C.1 C.2.1 hd hv (k p l e R s m args below meth c H locs cells slots Q D ac ad A ls C K Rm P Dd S L hend)
theorem Ev.lconst {n : Fin 2} {v : Int64} (hd : decode mi.2.1 pc = .ok (.lconst n, 1)) (hv : Int64.ofNat (n : Nat) = v) (k : Ev lay d mi (pc + 1) lv (.long v :: st) M r) : Ev lay d mi pc lv (st) M r :=
  fun p l e R s m args below meth c H locs cells slots Q D ac ad A ls C K Rm P Dd S L hend => lv_lconst C.1 C.2.1 hd hv (k p l e R s m args below meth c H locs cells slots Q D ac ad A ls C K Rm P Dd S L hend)
theorem Ev.iload_n {i : Fin 4} {x : Int32} (hd : decode mi.2.1 pc = .ok (.iload_n i, 1)) (hl : lv[(i : Nat)]? = some (some (.int x))) (k : Ev lay d mi (pc + 1) lv (.int x :: st) M r) : Ev lay d mi pc lv (st) M r :=
  fun p l e R s m args below meth c H locs cells slots Q D ac ad A ls C K Rm P Dd S L hend => lv_iload_n C.1 C.2.1 hd rfl (L.at hl) (k p l e R s m args below meth c H locs cells slots Q D ac ad A ls C K Rm P Dd S L hend)
theorem Ev.iload {i : Nat} {x : Int32} (hd : decode mi.2.1 pc = .ok (.iload i, 2)) (hl : lv[i]? = some (some (.int x))) (k : Ev lay d mi (pc + 2) lv (.int x :: st) M r) : Ev lay d mi pc lv (st) M r :=
  fun p l e R s m args below meth c H locs cells slots Q D ac ad A ls C K Rm P Dd S L hend => lv_iload C.1 C.2.1 hd (L.at hl) (k p l e R s m args below meth c H locs cells slots Q D ac ad A ls C K Rm P Dd S L hend)
theorem Ev.lload_n {i : Fin 4} {x : Int64} (hd : decode mi.2.1 pc = .ok (.lload_n i, 1)) (hl : lv[(i : Nat)]? = some (some (.long x))) (k : Ev lay d mi (pc + 1) lv (.long x :: st) M r) : Ev lay d mi pc lv (st) M r :=
  fun p l e R s m args below meth c H locs cells slots Q D ac ad A ls C K Rm P Dd S L hend => lv_lload_n C.1 C.2.1 hd rfl (L.at hl) (k p l e R s m args below meth c H locs cells slots Q D ac ad A ls C K Rm P Dd S L hend)
theorem Ev.lload {i : Nat} {x : Int64} (hd : decode mi.2.1 pc = .ok (.lload i, 2)) (hl : lv[i]? = some (some (.long x))) (k : Ev lay d mi (pc + 2) lv (.long x :: st) M r) : Ev lay d mi pc lv (st) M r :=
  fun p l e R s m args below meth c H locs cells slots Q D ac ad A ls C K Rm P Dd S L hend => lv_lload C.1 C.2.1 hd (L.at hl) (k p l e R s m args below meth c H locs cells slots Q D ac ad A ls C K Rm P Dd S L hend)
theorem Ev.aload_n {i : Fin 4} {x : Nat} (hd : decode mi.2.1 pc = .ok (.aload_n i, 1)) (hl : lv[(i : Nat)]? = some (some (.ref x))) (k : Ev lay d mi (pc + 1) lv (.ref x :: st) M r) : Ev lay d mi pc lv (st) M r :=
  fun p l e R s m args below meth c H locs cells slots Q D ac ad A ls C K Rm P Dd S L hend => lv_aload_n C.1 C.2.1 hd rfl (L.at hl) (k p l e R s m args below meth c H locs cells slots Q D ac ad A ls C K Rm P Dd S L hend)
theorem Ev.aload {i : Nat} {x : Nat} (hd : decode mi.2.1 pc = .ok (.aload i, 2)) (hl : lv[i]? = some (some (.ref x))) (k : Ev lay d mi (pc + 2) lv (.ref x :: st) M r) : Ev lay d mi pc lv (st) M r :=
  fun p l e R s m args below meth c H locs cells slots Q D ac ad A ls C K Rm P Dd S L hend => lv_aload C.1 C.2.1 hd (L.at hl) (k p l e R s m args below meth c H locs cells slots Q D ac ad A ls C K Rm P Dd S L hend)
theorem eV_cat1 {ad : Nat → Nat} {v : Value} (h : v.category = 1) : (eV ad v).category = 1 := by cases v <;> simp [eV, Value.category] at h ⊢
theorem eV_cat2 {ad : Nat → Nat} {v : Value} (h : v.category = 2) : (eV ad v).category = 2 := by cases v <;> simp [eV, Value.category] at h ⊢
theorem Ev.dup {va : Value} (hd : decode mi.2.1 pc = .ok (.dup, 1)) (hva : va.category = 1) (k : Ev lay d mi (pc + 1) lv (va :: va :: st) M r) : Ev lay d mi pc lv (va :: st) M r :=
  fun p l e R s m args below meth c H locs cells slots Q D ac ad A ls C K Rm P Dd S L hend => lv_dup C.1 C.2.1 hd (eV_cat1 hva) (k p l e R s m args below meth c H locs cells slots Q D ac ad A ls C K Rm P Dd S L hend)
theorem Ev.pop {va : Value} (hd : decode mi.2.1 pc = .ok (.pop, 1)) (hva : va.category = 1) (k : Ev lay d mi (pc + 1) lv (st) M r) : Ev lay d mi pc lv (va :: st) M r :=
  fun p l e R s m args below meth c H locs cells slots Q D ac ad A ls C K Rm P Dd S L hend => lv_pop C.1 C.2.1 hd (eV_cat1 hva) (k p l e R s m args below meth c H locs cells slots Q D ac ad A ls C K Rm P Dd S L hend)
theorem Ev.dup_x1 {va vb : Value} (hd : decode mi.2.1 pc = .ok (.dup_x1, 1)) (hva : va.category = 1) (hvb : vb.category = 1) (k : Ev lay d mi (pc + 1) lv (va :: vb :: va :: st) M r) : Ev lay d mi pc lv (va :: vb :: st) M r :=
  fun p l e R s m args below meth c H locs cells slots Q D ac ad A ls C K Rm P Dd S L hend => lv_dup_x1 C.1 C.2.1 hd (eV_cat1 hva) (eV_cat1 hvb) (k p l e R s m args below meth c H locs cells slots Q D ac ad A ls C K Rm P Dd S L hend)
theorem Ev.dup2 {va vb : Value} (hd : decode mi.2.1 pc = .ok (.dup2, 1)) (hva : va.category = 1) (hvb : vb.category = 1) (k : Ev lay d mi (pc + 1) lv (va :: vb :: va :: vb :: st) M r) : Ev lay d mi pc lv (va :: vb :: st) M r :=
  fun p l e R s m args below meth c H locs cells slots Q D ac ad A ls C K Rm P Dd S L hend => lv_dup2_11 C.1 C.2.1 hd (eV_cat1 hva) (eV_cat1 hvb) (k p l e R s m args below meth c H locs cells slots Q D ac ad A ls C K Rm P Dd S L hend)
theorem Ev.dup2l {va : Value} (hd : decode mi.2.1 pc = .ok (.dup2, 1)) (hva : va.category = 2) (k : Ev lay d mi (pc + 1) lv (va :: va :: st) M r) : Ev lay d mi pc lv (va :: st) M r :=
  fun p l e R s m args below meth c H locs cells slots Q D ac ad A ls C K Rm P Dd S L hend => lv_dup2_2 C.1 C.2.1 hd (eV_cat2 hva) (k p l e R s m args below meth c H locs cells slots Q D ac ad A ls C K Rm P Dd S L hend)
theorem Ev.if_eq {x : Int32} {off : Int} {tgt : Nat} (hd : decode mi.2.1 pc = .ok (.ifCond .eq off, 3)) (ht : (pc : Int) + off = (tgt : Int)) (kt : x = 0 → Ev lay d mi tgt lv st M r) (kf : ¬ x = 0 → Ev lay d mi (pc + 3) lv st M r) : Ev lay d mi pc lv (.int x :: st) M r :=
  fun p l e R s m args below meth c H locs cells slots Q D ac ad A ls C K Rm P Dd S L hend => lv_if_eq C.1 C.2.1 hd ht (fun h => kt h p l e R s m args below meth c H locs cells slots Q D ac ad A ls C K Rm P Dd S L hend) (fun h => kf h p l e R s m args below meth c H locs cells slots Q D ac ad A ls C K Rm P Dd S L hend)
theorem Ev.if_ne {x : Int32} {off : Int} {tgt : Nat} (hd : decode mi.2.1 pc = .ok (.ifCond .ne off, 3)) (ht : (pc : Int) + off = (tgt : Int)) (kt : ¬ x = 0 → Ev lay d mi tgt lv st M r) (kf : x = 0 → Ev lay d mi (pc + 3) lv st M r) : Ev lay d mi pc lv (.int x :: st) M r :=
  fun p l e R s m args below meth c H locs cells slots Q D ac ad A ls C K Rm P Dd S L hend => lv_if_ne C.1 C.2.1 hd ht (fun h => kt h p l e R s m args below meth c H locs cells slots Q D ac ad A ls C K Rm P Dd S L hend) (fun h => kf h p l e R s m args below meth c H locs cells slots Q D ac ad A ls C K Rm P Dd S L hend)
theorem Ev.if_lt {x : Int32} {off : Int} {tgt : Nat} (hd : decode mi.2.1 pc = .ok (.ifCond .lt off, 3)) (ht : (pc : Int) + off = (tgt : Int)) (kt : x < 0 → Ev lay d mi tgt lv st M r) (kf : ¬ x < 0 → Ev lay d mi (pc + 3) lv st M r) : Ev lay d mi pc lv (.int x :: st) M r :=
  fun p l e R s m args below meth c H locs cells slots Q D ac ad A ls C K Rm P Dd S L hend => lv_if_lt C.1 C.2.1 hd ht (fun h => kt h p l e R s m args below meth c H locs cells slots Q D ac ad A ls C K Rm P Dd S L hend) (fun h => kf h p l e R s m args below meth c H locs cells slots Q D ac ad A ls C K Rm P Dd S L hend)
theorem Ev.if_ge {x : Int32} {off : Int} {tgt : Nat} (hd : decode mi.2.1 pc = .ok (.ifCond .ge off, 3)) (ht : (pc : Int) + off = (tgt : Int)) (kt : ¬ x < 0 → Ev lay d mi tgt lv st M r) (kf : x < 0 → Ev lay d mi (pc + 3) lv st M r) : Ev lay d mi pc lv (.int x :: st) M r :=
  fun p l e R s m args below meth c H locs cells slots Q D ac ad A ls C K Rm P Dd S L hend => lv_if_ge C.1 C.2.1 hd ht (fun h => kt (Int32.not_lt.mpr h) p l e R s m args below meth c H locs cells slots Q D ac ad A ls C K Rm P Dd S L hend) (fun h => kf (Int32.not_le.mp h) p l e R s m args below meth c H locs cells slots Q D ac ad A ls C K Rm P Dd S L hend)
theorem Ev.if_gt {x : Int32} {off : Int} {tgt : Nat} (hd : decode mi.2.1 pc = .ok (.ifCond .gt off, 3)) (ht : (pc : Int) + off = (tgt : Int)) (kt : 0 < x → Ev lay d mi tgt lv st M r) (kf : ¬ 0 < x → Ev lay d mi (pc + 3) lv st M r) : Ev lay d mi pc lv (.int x :: st) M r :=
  fun p l e R s m args below meth c H locs cells slots Q D ac ad A ls C K Rm P Dd S L hend => lv_if_gt C.1 C.2.1 hd ht (fun h => kt h p l e R s m args below meth c H locs cells slots Q D ac ad A ls C K Rm P Dd S L hend) (fun h => kf h p l e R s m args below meth c H locs cells slots Q D ac ad A ls C K Rm P Dd S L hend)
theorem Ev.if_le {x : Int32} {off : Int} {tgt : Nat} (hd : decode mi.2.1 pc = .ok (.ifCond .le off, 3)) (ht : (pc : Int) + off = (tgt : Int)) (kt : ¬ 0 < x → Ev lay d mi tgt lv st M r) (kf : 0 < x → Ev lay d mi (pc + 3) lv st M r) : Ev lay d mi pc lv (.int x :: st) M r :=
  fun p l e R s m args below meth c H locs cells slots Q D ac ad A ls C K Rm P Dd S L hend => lv_if_le C.1 C.2.1 hd ht (fun h => kt (Int32.not_lt.mpr h) p l e R s m args below meth c H locs cells slots Q D ac ad A ls C K Rm P Dd S L hend) (fun h => kf (Int32.not_le.mp h) p l e R s m args below meth c H locs cells slots Q D ac ad A ls C K Rm P Dd S L hend)
theorem Ev.icmp_eq {x y : Int32} {off : Int} {tgt : Nat} (hd : decode mi.2.1 pc = .ok (.if_icmp .eq off, 3)) (ht : (pc : Int) + off = (tgt : Int)) (kt : x = y → Ev lay d mi tgt lv st M r) (kf : ¬ x = y → Ev lay d mi (pc + 3) lv st M r) : Ev lay d mi pc lv (.int y :: .int x :: st) M r :=
  fun p l e R s m args below meth c H locs cells slots Q D ac ad A ls C K Rm P Dd S L hend => lv_icmp_eq C.1 C.2.1 hd ht (fun h => kt h p l e R s m args below meth c H locs cells slots Q D ac ad A ls C K Rm P Dd S L hend) (fun h => kf h p l e R s m args below meth c H locs cells slots Q D ac ad A ls C K Rm P Dd S L hend)
theorem Ev.icmp_ne {x y : Int32} {off : Int} {tgt : Nat} (hd : decode mi.2.1 pc = .ok (.if_icmp .ne off, 3)) (ht : (pc : Int) + off = (tgt : Int)) (kt : ¬ x = y → Ev lay d mi tgt lv st M r) (kf : x = y → Ev lay d mi (pc + 3) lv st M r) : Ev lay d mi pc lv (.int y :: .int x :: st) M r :=
  fun p l e R s m args below meth c H locs cells slots Q D ac ad A ls C K Rm P Dd S L hend => lv_icmp_ne C.1 C.2.1 hd ht (fun h => kt h p l e R s m args below meth c H locs cells slots Q D ac ad A ls C K Rm P Dd S L hend) (fun h => kf h p l e R s m args below meth c H locs cells slots Q D ac ad A ls C K Rm P Dd S L hend)
theorem Ev.icmp_lt {x y : Int32} {off : Int} {tgt : Nat} (hd : decode mi.2.1 pc = .ok (.if_icmp .lt off, 3)) (ht : (pc : Int) + off = (tgt : Int)) (kt : x < y → Ev lay d mi tgt lv st M r) (kf : ¬ x < y → Ev lay d mi (pc + 3) lv st M r) : Ev lay d mi pc lv (.int y :: .int x :: st) M r :=
  fun p l e R s m args below meth c H locs cells slots Q D ac ad A ls C K Rm P Dd S L hend => lv_icmp_lt C.1 C.2.1 hd ht (fun h => kt h p l e R s m args below meth c H locs cells slots Q D ac ad A ls C K Rm P Dd S L hend) (fun h => kf h p l e R s m args below meth c H locs cells slots Q D ac ad A ls C K Rm P Dd S L hend)
theorem Ev.icmp_ge {x y : Int32} {off : Int} {tgt : Nat} (hd : decode mi.2.1 pc = .ok (.if_icmp .ge off, 3)) (ht : (pc : Int) + off = (tgt : Int)) (kt : ¬ x < y → Ev lay d mi tgt lv st M r) (kf : x < y → Ev lay d mi (pc + 3) lv st M r) : Ev lay d mi pc lv (.int y :: .int x :: st) M r :=
  fun p l e R s m args below meth c H locs cells slots Q D ac ad A ls C K Rm P Dd S L hend => lv_icmp_ge C.1 C.2.1 hd ht (fun h => kt (Int32.not_lt.mpr h) p l e R s m args below meth c H locs cells slots Q D ac ad A ls C K Rm P Dd S L hend) (fun h => kf (Int32.not_le.mp h) p l e R s m args below meth c H locs cells slots Q D ac ad A ls C K Rm P Dd S L hend)
theorem Ev.icmp_gt {x y : Int32} {off : Int} {tgt : Nat} (hd : decode mi.2.1 pc = .ok (.if_icmp .gt off, 3)) (ht : (pc : Int) + off = (tgt : Int)) (kt : y < x → Ev lay d mi tgt lv st M r) (kf : ¬ y < x → Ev lay d mi (pc + 3) lv st M r) : Ev lay d mi pc lv (.int y :: .int x :: st) M r :=
  fun p l e R s m args below meth c H locs cells slots Q D ac ad A ls C K Rm P Dd S L hend => lv_icmp_gt C.1 C.2.1 hd ht (fun h => kt h p l e R s m args below meth c H locs cells slots Q D ac ad A ls C K Rm P Dd S L hend) (fun h => kf h p l e R s m args below meth c H locs cells slots Q D ac ad A ls C K Rm P Dd S L hend)
theorem Ev.icmp_le {x y : Int32} {off : Int} {tgt : Nat} (hd : decode mi.2.1 pc = .ok (.if_icmp .le off, 3)) (ht : (pc : Int) + off = (tgt : Int)) (kt : ¬ y < x → Ev lay d mi tgt lv st M r) (kf : y < x → Ev lay d mi (pc + 3) lv st M r) : Ev lay d mi pc lv (.int y :: .int x :: st) M r :=
  fun p l e R s m args below meth c H locs cells slots Q D ac ad A ls C K Rm P Dd S L hend => lv_icmp_le C.1 C.2.1 hd ht (fun h => kt (Int32.not_lt.mpr h) p l e R s m args below meth c H locs cells slots Q D ac ad A ls C K Rm P Dd S L hend) (fun h => kf (Int32.not_le.mp h) p l e R s m args below meth c H locs cells slots Q D ac ad A ls C K Rm P Dd S L hend)
theorem Ev.goto {off : Int} {tgt : Nat} (hd : decode mi.2.1 pc = .ok (.goto off, 3)) (ht : (pc : Int) + off = (tgt : Int)) (k : Ev lay d mi tgt lv st M r) : Ev lay d mi pc lv st M r :=
  fun p l e R s m args below meth c H locs cells slots Q D ac ad A ls C K Rm P Dd S L hend => lv_goto C.1 C.2.1 hd ht (k p l e R s m args below meth c H locs cells slots Q D ac ad A ls C K Rm P Dd S L hend)
theorem Ev.tsIn {x : Int32} {dflt lo hi off : Int} {offs : Array Int} {len tgt : Nat} (hd : decode mi.2.1 pc = .ok (.tableswitch dflt lo hi offs, len)) (h1 : ¬ x.toInt < lo) (h2 : ¬ hi < x.toInt) (ho : offs[(x.toInt - lo).toNat]? = some off) (ht : (pc : Int) + off = (tgt : Int)) (k : Ev lay d mi tgt lv st M r) : Ev lay d mi pc lv (.int x :: st) M r :=
  fun p l e R s m args below meth c H locs cells slots Q D ac ad A ls C K Rm P Dd S L hend => lv_tableIn C.1 C.2.1 hd h1 h2 ho ht (k p l e R s m args below meth c H locs cells slots Q D ac ad A ls C K Rm P Dd S L hend)
theorem Ev.tsOut {x : Int32} {dflt lo hi : Int} {offs : Array Int} {len tgt : Nat} (hd : decode mi.2.1 pc = .ok (.tableswitch dflt lo hi offs, len)) (h : x.toInt < lo ∨ hi < x.toInt) (ht : (pc : Int) + dflt = (tgt : Int)) (k : Ev lay d mi tgt lv st M r) : Ev lay d mi pc lv (.int x :: st) M r :=
  fun p l e R s m args below meth c H locs cells slots Q D ac ad A ls C K Rm P Dd S L hend => lv_tableOut C.1 C.2.1 hd h ht (k p l e R s m args below meth c H locs cells slots Q D ac ad A ls C K Rm P Dd S L hend)
theorem Ev.lookup {x : Int32} {dflt off : Int} {ps : Array (Int × Int)} {len tgt : Nat} (hd : decode mi.2.1 pc = .ok (.lookupswitch dflt ps, len)) (hp : (ps.toList.zip (ps.toList.drop 1)).all (fun (a, next) => a.1 < next.1) = true) (ho : Op.lookupswitch.offset ps.toList dflt x.toInt = off) (ht : (pc : Int) + off = (tgt : Int)) (k : Ev lay d mi tgt lv st M r) : Ev lay d mi pc lv (.int x :: st) M r :=
  fun p l e R s m args below meth c H locs cells slots Q D ac ad A ls C K Rm P Dd S L hend => lv_lookup C.1 C.2.1 hd hp ho ht (k p l e R s m args below meth c H locs cells slots Q D ac ad A ls C K Rm P Dd S L hend)
theorem Ev.istore_n {i : Fin 4} {x : Int32} (hd : decode mi.2.1 pc = .ok (.istore_n i, 1)) (hn : (i : Nat) < mi.2.2.1) (h1 : eNd lv = true) (h2 : eOk lv (i : Nat) = true) (k : Ev lay d mi (pc + 1) (lv.set (i : Nat) (some (.int x))) st M r) : Ev lay d mi pc lv (.int x :: st) M r :=
  fun p l e R s m args below meth c H locs cells slots Q D ac ad A ls C K Rm P Dd S L hend => lv_istore_n C.1 C.2.1 hd rfl L hn rfl (fun ls2 L2 => k p l e R s m args below meth c H locs cells slots Q D ac ad A ls2 C K Rm P Dd S (eLs.set1 h1 h2 L2) hend)
theorem Ev.istore {i : Nat} {x : Int32} (hd : decode mi.2.1 pc = .ok (.istore i, 2)) (hn : i < mi.2.2.1) (h1 : eNd lv = true) (h2 : eOk lv i = true) (k : Ev lay d mi (pc + 2) (lv.set i (some (.int x))) st M r) : Ev lay d mi pc lv (.int x :: st) M r :=
  fun p l e R s m args below meth c H locs cells slots Q D ac ad A ls C K Rm P Dd S L hend => lv_istore C.1 C.2.1 hd L hn rfl (fun ls2 L2 => k p l e R s m args below meth c H locs cells slots Q D ac ad A ls2 C K Rm P Dd S (eLs.set1 h1 h2 L2) hend)
theorem Ev.astore_n {i : Fin 4} {x : Nat} (hd : decode mi.2.1 pc = .ok (.astore_n i, 1)) (hn : (i : Nat) < mi.2.2.1) (h1 : eNd lv = true) (h2 : eOk lv (i : Nat) = true) (k : Ev lay d mi (pc + 1) (lv.set (i : Nat) (some (.ref x))) st M r) : Ev lay d mi pc lv (.ref x :: st) M r :=
  fun p l e R s m args below meth c H locs cells slots Q D ac ad A ls C K Rm P Dd S L hend => lv_astore_n C.1 C.2.1 hd rfl L hn rfl (fun ls2 L2 => k p l e R s m args below meth c H locs cells slots Q D ac ad A ls2 C K Rm P Dd S (eLs.set1 h1 h2 L2) hend)
theorem Ev.astore {i : Nat} {x : Nat} (hd : decode mi.2.1 pc = .ok (.astore i, 2)) (hn : i < mi.2.2.1) (h1 : eNd lv = true) (h2 : eOk lv i = true) (k : Ev lay d mi (pc + 2) (lv.set i (some (.ref x))) st M r) : Ev lay d mi pc lv (.ref x :: st) M r :=
  fun p l e R s m args below meth c H locs cells slots Q D ac ad A ls C K Rm P Dd S L hend => lv_astore C.1 C.2.1 hd L hn rfl (fun ls2 L2 => k p l e R s m args below meth c H locs cells slots Q D ac ad A ls2 C K Rm P Dd S (eLs.set1 h1 h2 L2) hend)
theorem Ev.lstore_n {i : Fin 4} {x : Int64} (hd : decode mi.2.1 pc = .ok (.lstore_n i, 1)) (hn : (i : Nat) + 1 < mi.2.2.1) (h1 : eNd lv = true) (h2 : eOk lv (i : Nat) = true) (k : Ev lay d mi (pc + 1) ((lv.set (i : Nat) (some (.long x))).set ((i : Nat) + 1) none) st M r) : Ev lay d mi pc lv (.long x :: st) M r :=
  fun p l e R s m args below meth c H locs cells slots Q D ac ad A ls C K Rm P Dd S L hend => lv_lstore_n C.1 C.2.1 hd rfl L hn rfl (fun ls2 L2 => k p l e R s m args below meth c H locs cells slots Q D ac ad A ls2 C K Rm P Dd S (eLs.set2 h1 h2 L2) hend)
theorem Ev.lstore {i : Nat} {x : Int64} (hd : decode mi.2.1 pc = .ok (.lstore i, 2)) (hn : i + 1 < mi.2.2.1) (h1 : eNd lv = true) (h2 : eOk lv i = true) (k : Ev lay d mi (pc + 2) ((lv.set i (some (.long x))).set (i + 1) none) st M r) : Ev lay d mi pc lv (.long x :: st) M r :=
  fun p l e R s m args below meth c H locs cells slots Q D ac ad A ls C K Rm P Dd S L hend => lv_lstore C.1 C.2.1 hd L hn rfl (fun ls2 L2 => k p l e R s m args below meth c H locs cells slots Q D ac ad A ls2 C K Rm P Dd S (eLs.set2 h1 h2 L2) hend)
theorem Ev.iinc {i : Nat} {n : Int} {x : Int32} (hd : decode mi.2.1 pc = .ok (.iinc i n, 3)) (hx : lv[i]? = some (some (.int x))) (hn : i < mi.2.2.1) (h1 : eNd lv = true) (h2 : eOk lv i = true) (k : Ev lay d mi (pc + 3) (lv.set i (some (.int (x + Int32.ofInt n)))) st M r) : Ev lay d mi pc lv st M r := by
  intro p l e R s m args below meth c H locs cells slots Q D ac ad A ls C K Rm P Dd S L hend
  obtain ⟨j, hj⟩ := List.getElem?_of_mem (eAl_mem (q := (i, .int x)) (ad := ad).mpr ⟨.int x, hx, rfl⟩)
  exact lv_iinc C.1 C.2.1 hd L hj rfl hn rfl (fun ls2 L2 => k p l e R s m args below meth c H locs cells slots Q D ac ad A ls2 C K Rm P Dd S (eLs.set1 (v := .int (x + Int32.ofInt n)) h1 h2 L2) hend)
theorem Ev.ldc {v : Int32} {n : Nat} (hd : decode mi.2.1 pc = .ok (.ldc n, 2)) (hw : Cond.constant mi.1.cls n v ∈ eTb) (k : Ev lay d mi (pc + 2) lv (.int v :: st) M r) : Ev lay d mi pc lv st M r :=
  fun p l e R s m args below meth c H locs cells slots Q D ac ad A ls C K Rm P Dd S L hend => lv_ldc C.1 C.2.1 C.2.2.2.1 (C.2.2.2.2 _ hw) hd (k p l e R s m args below meth c H locs cells slots Q D ac ad A ls C K Rm P Dd S L hend)
theorem Ev.ldcw {v : Int32} {n : Nat} (hd : decode mi.2.1 pc = .ok (.ldc_w n, 3)) (hw : Cond.constant mi.1.cls n v ∈ eTb) (k : Ev lay d mi (pc + 3) lv (.int v :: st) M r) : Ev lay d mi pc lv st M r :=
  fun p l e R s m args below meth c H locs cells slots Q D ac ad A ls C K Rm P Dd S L hend => lv_ldcw C.1 C.2.1 C.2.2.2.1 (C.2.2.2.2 _ hw) hd (k p l e R s m args below meth c H locs cells slots Q D ac ad A ls C K Rm P Dd S L hend)
theorem Ev.ldc2 {v : Int64} {n : Nat} (hd : decode mi.2.1 pc = .ok (.ldc2_w n, 3)) (hw : Cond.constantLong mi.1.cls n v ∈ eTb) (k : Ev lay d mi (pc + 3) lv (.long v :: st) M r) : Ev lay d mi pc lv st M r :=
  fun p l e R s m args below meth c H locs cells slots Q D ac ad A ls C K Rm P Dd S L hend => lv_ldc2 C.1 C.2.1 C.2.2.2.1 (C.2.2.2.2 _ hw) hd (k p l e R s m args below meth c H locs cells slots Q D ac ad A ls C K Rm P Dd S L hend)
theorem Ev.ldcS {n j : Nat} (hd : decode mi.2.1 pc = .ok (.ldc n, 2)) (hj : j < 6) (h1 : (eSO.getD j ("", 0, "")).1 = mi.1.cls) (h2 : (eSO.getD j ("", 0, "")).2.1 = n) (k : Ev lay d mi (pc + 2) lv (.ref (2000 + j) :: st) M r) : Ev lay d mi pc lv st M r := by
  intro p l e R s m args below meth c H locs cells slots Q D ac ad A ls C K Rm P Dd S L hend
  have h := K.2.2.2.2.1 j hj
  rw [h1, h2] at h
  exact va_ldcS C.1 C.2.1 C.2.2.2.1 h hd (k p l e R s m args below meth c H locs cells slots Q D ac ad A ls C K Rm P Dd S L hend)
/-- what the tables say of a field's entry -/
def eFl (own : String) (idx ci k : Nat) : Prop := ∃ (X : String) (T : u_T) (N : Nat), vwCl[ci]? = some (X, T, N) ∧ (∀ w ∈ u_ws X T N, w ∈ eTb) ∧ k < N ∧ Cond.fieldLink own idx (T k).1 (T k).2.1 (T k).2.2.1 ∈ eTb
def eFp (own : String) (idx ci k : Nat) (ty : FieldType) : Prop := ∃ (X : String) (T : u_T) (N : Nat) (ty0 : Nat → FieldType), vwCl[ci]? = some (X, T, N) ∧ (∀ w ∈ u_ws X T N, w ∈ eTb) ∧ k < N ∧ Cond.fieldLink own idx (T k).1 (T k).2.1 (T k).2.2.1 ∈ eTb ∧ (∀ k, k < N → parseFieldDescriptor (T k).2.2.1 = some (ty0 k)) ∧ (∀ a, a < N → ∀ b, b < N → a ≠ b → (T a).2.1 ≠ (T b).2.1) ∧ (T k).2.2.2 = false ∧ parseFieldDescriptor (T k).2.2.1 = some ty
theorem Ev.getI {idx ci i q : Nat} {fs : List (Option Nat)} (hd : decode mi.2.1 pc = .ok (.getfield idx, 3)) (hf : eFl mi.1.cls idx ci i) (hl : lay[q]? = some (.inr (.inr (ci, fs)))) (hi : fs[i]? = some none) (k : Ev lay d mi (pc + 3) lv (.int (M.1 q i) :: st) M r) : Ev lay d mi pc lv (.ref q :: st) M r := by
  intro p l e R s m args below meth c H locs cells slots Q D ac ad A ls C K Rm P Dd S L hend
  obtain ⟨X, T, N, f1, f2, f3, f4⟩ := hf
  exact va_get C.1 C.2.1 C.2.2.2.2 f2 C.2.2.2.1 K.1 P q (eWs_get hl) f1 i f3 (C.2.2.2.2 _ f4) (fun _ h => h) (v := .int (M.1 q i)) (by simp [hi]) hd (k p l e R s m args below meth c H locs cells slots Q D ac ad A ls C K Rm P Dd S L hend)
theorem Ev.getR {idx ci i q z : Nat} {fs : List (Option Nat)} (hd : decode mi.2.1 pc = .ok (.getfield idx, 3)) (hf : eFl mi.1.cls idx ci i) (hl : lay[q]? = some (.inr (.inr (ci, fs)))) (hi : fs[i]? = some (some z)) (k : Ev lay d mi (pc + 3) lv (.ref z :: st) M r) : Ev lay d mi pc lv (.ref q :: st) M r := by
  intro p l e R s m args below meth c H locs cells slots Q D ac ad A ls C K Rm P Dd S L hend
  obtain ⟨X, T, N, f1, f2, f3, f4⟩ := hf
  exact va_get C.1 C.2.1 C.2.2.2.2 f2 C.2.2.2.1 K.1 P q (eWs_get hl) f1 i f3 (C.2.2.2.2 _ f4) (fun _ h => h) (v := .ref (ad z)) (by simp [hi]) hd (k p l e R s m args below meth c H locs cells slots Q D ac ad A ls C K Rm P Dd S L hend)
theorem Ev.putI {idx ci i q : Nat} {fs : List (Option Nat)} {v : Int32} {ty : FieldType} (hd : decode mi.2.1 pc = .ok (.putfield idx, 3)) (hf : eFp mi.1.cls idx ci i ty) (hl : lay[q]? = some (.inr (.inr (ci, fs)))) (hi : fs[i]? = some none) (hn : narrow ty (.int v) = .int v) (hv : fits ty (.int v) = true) (k : Ev lay d mi (pc + 3) lv st (eI M q i v) r) : Ev lay d mi pc lv (.int v :: .ref q :: st) M r := by
  intro p l e R s m args below meth c H locs cells slots Q D ac ad A ls C K Rm P Dd S L hend
  obtain ⟨X, T, N, ty0, f1, f2, f3, f4, f5, f6, f7, f8⟩ := hf
  refine va_put (v := .int v) C.1 C.2.1 C.2.2.2.2 f2 ty0 f5 f6 C.2.2.2.1 K.1 P Dd S q (eWs_get hl) f1 i f3 (C.2.2.2.2 _ f4) (fun _ h => h) f7 f8 hn hv (by simpa using (List.getElem?_eq_some_iff.mp hi).1) hd (fun H1 locs1 P1 D1 S1 => ?_)
  rw [← eWs_F hl hi] at P1 D1
  exact k p l e R s m args below meth c H1 locs1 cells slots Q D ac ad A ls C K Rm P1 D1 S1 L hend
theorem Ev.iald {q n : Nat} {i : Int32} (hd : decode mi.2.1 pc = .ok (.iaload, 1)) (hl : lay[q]? = some (.inl (0, n))) (hin : vp_in i n) (k : Ev lay d mi (pc + 1) lv (.int (M.1 q i.toNatClampNeg) :: st) M r) : Ev lay d mi pc lv (.int i :: .ref q :: st) M r :=
  fun p l e R s m args below meth c H locs cells slots Q D ac ad A ls C K Rm P Dd S L hend => va_iald C.1 C.2.1 K.1 P q 0 (eWs_get hl) rfl hin hd (k p l e R s m args below meth c H locs cells slots Q D ac ad A ls C K Rm P Dd S L hend)
theorem Ev.lald {q n : Nat} {i : Int32} (hd : decode mi.2.1 pc = .ok (.laload, 1)) (hl : lay[q]? = some (.inl (1, n))) (hin : vp_in i n) (k : Ev lay d mi (pc + 1) lv (.long (M.2 q i.toNatClampNeg) :: st) M r) : Ev lay d mi pc lv (.int i :: .ref q :: st) M r :=
  fun p l e R s m args below meth c H locs cells slots Q D ac ad A ls C K Rm P Dd S L hend => va_lald C.1 C.2.1 K.1 P q 1 (eWs_get hl) rfl hin hd (k p l e R s m args below meth c H locs cells slots Q D ac ad A ls C K Rm P Dd S L hend)
theorem Ev.zald {q n : Nat} {i : Int32} (hd : decode mi.2.1 pc = .ok (.baload, 1)) (hl : lay[q]? = some (.inl (2, n))) (hin : vp_in i n) (k : Ev lay d mi (pc + 1) lv (.int (M.1 q i.toNatClampNeg) :: st) M r) : Ev lay d mi pc lv (.int i :: .ref q :: st) M r :=
  fun p l e R s m args below meth c H locs cells slots Q D ac ad A ls C K Rm P Dd S L hend => va_zald C.1 C.2.1 K.1 P q 2 (eWs_get hl) rfl hin hd (k p l e R s m args below meth c H locs cells slots Q D ac ad A ls C K Rm P Dd S L hend)
theorem Ev.bald {q n : Nat} {i : Int32} (hd : decode mi.2.1 pc = .ok (.baload, 1)) (hl : lay[q]? = some (.inl (3, n))) (hin : vp_in i n) (k : Ev lay d mi (pc + 1) lv (.int (M.1 q i.toNatClampNeg) :: st) M r) : Ev lay d mi pc lv (.int i :: .ref q :: st) M r :=
  fun p l e R s m args below meth c H locs cells slots Q D ac ad A ls C K Rm P Dd S L hend => va_bald C.1 C.2.1 K.1 P q 3 (eWs_get hl) rfl hin hd (k p l e R s m args below meth c H locs cells slots Q D ac ad A ls C K Rm P Dd S L hend)
theorem Ev.iast {q n : Nat} {i : Int32} {x : Int32} (hd : decode mi.2.1 pc = .ok (.iastore, 1)) (hl : lay[q]? = some (.inl (0, n))) (hin : vp_in i n) (k : Ev lay d mi (pc + 1) lv st (eI M q i.toNatClampNeg x) r) : Ev lay d mi pc lv (.int x :: .int i :: .ref q :: st) M r := by
  intro p l e R s m args below meth c H locs cells slots Q D ac ad A ls C K Rm P Dd S L hend
  refine va_iast C.1 C.2.1 K.1 P Dd S q 0 (eWs_get hl) rfl hin hd (fun H1 locs1 P1 D1 S1 => ?_)
  rw [← eWs_C hl (by decide)] at P1 D1
  exact k p l e R s m args below meth c H1 locs1 cells slots Q D ac ad A ls C K Rm P1 D1 S1 L hend
theorem Ev.zast {q n : Nat} {i : Int32} {x : Int32} (hd : decode mi.2.1 pc = .ok (.bastore, 1)) (hl : lay[q]? = some (.inl (2, n))) (hin : vp_in i n) (k : Ev lay d mi (pc + 1) lv st (eI M q i.toNatClampNeg (vp_nar .boolean x)) r) : Ev lay d mi pc lv (.int x :: .int i :: .ref q :: st) M r := by
  intro p l e R s m args below meth c H locs cells slots Q D ac ad A ls C K Rm P Dd S L hend
  refine va_zast C.1 C.2.1 K.1 P Dd S q 2 (eWs_get hl) rfl hin hd (fun H1 locs1 P1 D1 S1 => ?_)
  rw [← eWs_C hl (by decide)] at P1 D1
  exact k p l e R s m args below meth c H1 locs1 cells slots Q D ac ad A ls C K Rm P1 D1 S1 L hend
theorem Ev.bast {q n : Nat} {i : Int32} {x : Int32} (hd : decode mi.2.1 pc = .ok (.bastore, 1)) (hl : lay[q]? = some (.inl (3, n))) (hin : vp_in i n) (k : Ev lay d mi (pc + 1) lv st (eI M q i.toNatClampNeg (vp_nar .byte x)) r) : Ev lay d mi pc lv (.int x :: .int i :: .ref q :: st) M r := by
  intro p l e R s m args below meth c H locs cells slots Q D ac ad A ls C K Rm P Dd S L hend
  refine va_bast C.1 C.2.1 K.1 P Dd S q 3 (eWs_get hl) rfl hin hd (fun H1 locs1 P1 D1 S1 => ?_)
  rw [← eWs_C hl (by decide)] at P1 D1
  exact k p l e R s m args below meth c H1 locs1 cells slots Q D ac ad A ls C K Rm P1 D1 S1 L hend
theorem Ev.last {q n : Nat} {i : Int32} {x : Int64} (hd : decode mi.2.1 pc = .ok (.lastore, 1)) (hl : lay[q]? = some (.inl (1, n))) (hin : vp_in i n) (k : Ev lay d mi (pc + 1) lv st (eJ M q i.toNatClampNeg x) r) : Ev lay d mi pc lv (.long x :: .int i :: .ref q :: st) M r := by
  intro p l e R s m args below meth c H locs cells slots Q D ac ad A ls C K Rm P Dd S L hend
  refine va_last C.1 C.2.1 K.1 P Dd S q 1 (eWs_get hl) rfl hin hd (fun H1 locs1 P1 D1 S1 => ?_)
  rw [← eWs_CJ hl] at P1 D1
  exact k p l e R s m args below meth c H1 locs1 cells slots Q D ac ad A ls C K Rm P1 D1 S1 L hend
theorem Ev.alen {q t n : Nat} {v : Int32} (hd : decode mi.2.1 pc = .ok (.arraylength, 1)) (hl : lay[q]? = some (.inl (t, n))) (ht : t < 4) (hv : Int32.ofNat n = v) (k : Ev lay d mi (pc + 1) lv (.int v :: st) M r) : Ev lay d mi pc lv (.ref q :: st) M r := by
  intro p l e R s m args below meth c H locs cells slots Q D ac ad A ls C K Rm P Dd S L hend
  have hg := eWs_get (ac := ac) (ad := ad) (M := M) hl
  by_cases h1 : t = 1
  · subst h1
    exact va_alen C.1 C.2.1 K.1 P q 1 (x := (n, .inr (.inl (M.2 q)))) hg rfl hv hd (k p l e R s m args below meth c H locs cells slots Q D ac ad A ls C K Rm P Dd S L hend)
  · rw [show eCel ac ad M q (.inl (t, n)) = .inl (ac t, n, .inl (M.1 q)) by simp [eCel, h1]] at hg
    rcases (show t = 0 ∨ t = 2 ∨ t = 3 by omega) with rfl | rfl | rfl
    · exact va_alen C.1 C.2.1 K.1 P q 0 hg rfl hv hd (k p l e R s m args below meth c H locs cells slots Q D ac ad A ls C K Rm P Dd S L hend)
    · exact va_alen C.1 C.2.1 K.1 P q 2 hg rfl hv hd (k p l e R s m args below meth c H locs cells slots Q D ac ad A ls C K Rm P Dd S L hend)
    · exact va_alen C.1 C.2.1 K.1 P q 3 hg rfl hv hd (k p l e R s m args below meth c H locs cells slots Q D ac ad A ls C K Rm P Dd S L hend)
theorem Ev.aald {q t z : Nat} {i : Int32} {rows : List Nat} (hd : decode mi.2.1 pc = .ok (.aaload, 1)) (hl : lay[q]? = some (.inr (.inl (t, rows)))) (ht : t = 4 ∨ t = 5) (h0 : ¬ i < 0) (hz : rows[i.toNatClampNeg]? = some z) (k : Ev lay d mi (pc + 1) lv (.ref z :: st) M r) : Ev lay d mi pc lv (.int i :: .ref q :: st) M r := by
  intro p l e R s m args below meth c H locs cells slots Q D ac ad A ls C K Rm P Dd S L hend
  have hlt : i.toNatClampNeg < rows.length := (List.getElem?_eq_some_iff.mp hz).1
  have hz2 : va_rf ((rows[i.toNatClampNeg]?).map ad) = .ref (ad z) := by rw [hz]; rfl
  have hK : ∃ ty, (eTy ac)[t]? = some (ac t, .array ty) := by rcases ht with rfl | rfl <;> exact ⟨_, rfl⟩
  obtain ⟨ty, hty⟩ := hK
  exact W.aald (v := .ref (ad z)) (ty := .array ty) C.1 C.2.1 (P q _ (eWs_get hl)) ((K.1.2 t _ hty).1 rows.length (fun j => va_rf ((rows[j]?).map ad))) rfl (fun q => by cases q) (by show ¬ (i < 0 ∨ (arrV _ _ _).slots.size ≤ _); rw [arrV_size]; exact fun q => q.elim h0 (Nat.not_le.mpr hlt)) (by show (arrV _ _ _).slots[_]? = _; rw [arrV_read _ _ hlt, hz2]) rfl rfl hd (k p l e R s m args below meth c H locs cells slots Q D ac ad A ls C K Rm P Dd S L hend)
/-- a static table -/
theorem Ev.getK {idx j : Nat} (hd : decode mi.2.1 pc = .ok (.getstatic idx, 3)) (hj : j < 4) (hw : Cond.fieldLink mi.1.cls idx "GhostCoast" (eKN.getD j "") "[I" ∈ eTb) (k : Ev lay d mi (pc + 3) lv (.ref (1000 + j) :: st) M r) : Ev lay d mi pc lv st M r :=
  fun p l e R s m args below meth c H locs cells slots Q D ac ad A ls C K Rm P Dd S L hend => va_gets C.1 C.2.1 (K.2.2.1 j hj).1 S C.2.2.2.1 (C.2.2.2.2 _ hw) (fun _ h => h) hd (k p l e R s m args below meth c H locs cells slots Q D ac ad A ls C K Rm P Dd S L hend)
theorem Ev.getKN {idx j : Nat} (hd : decode mi.2.1 pc = .ok (.getstatic idx, 3)) (hj : j < 4) (hw : Cond.fieldLinkNest mi.1.cls idx "GhostCoast" (eKN.getD j "") "[I" "GhostCoast" ∈ eNest) (k : Ev lay d mi (pc + 3) lv (.ref (1000 + j) :: st) M r) : Ev lay d mi pc lv st M r :=
  fun p l e R s m args below meth c H locs cells slots Q D ac ad A ls C K Rm P Dd S L hend => va_getsN C.1 C.2.1 (K.2.2.1 j hj).1 S C.2.2.2.1 (va_Nw.use rfl (K.2.1 _ hw)) (fun _ h => h) hd (k p l e R s m args below meth c H locs cells slots Q D ac ad A ls C K Rm P Dd S L hend)
theorem Ev.kald {j : Nat} {i : Int32} (hd : decode mi.2.1 pc = .ok (.iaload, 1)) (hj : j < 4) (hin : vp_in i 7) (k : Ev lay d mi (pc + 1) lv (.int ((eKA.getD j []).getD i.toNatClampNeg 0) :: st) M r) : Ev lay d mi pc lv (.int i :: .ref (1000 + j) :: st) M r :=
  fun p l e R s m args below meth c H locs cells slots Q D ac ad A ls C K Rm P Dd S L hend => va_ti C.1 C.2.1 (K.2.2.1 j hj).2 S hin rfl hd (k p l e R s m args below meth c H locs cells slots Q D ac ad A ls C K Rm P Dd S L hend)
end EVR
