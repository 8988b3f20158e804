/-! TWO DIMENSIONS AT ONCE: the outer array, then its rows one after another. -/
def gF (h i : Nat) : Nat → Value := fun j => if j < i then .ref (h + 1 + j) else .null
theorem gF_next (h i : Nat) : updV (gF h i) i (.ref (h + 1 + i)) = gF h (i + 1) := by
  funext j
  unfold updV gF
  by_cases e : j = i
  · subst e; simp
  · by_cases k : j < i
    · simp [e, k, Nat.lt_succ_of_lt k]
    · rw [if_neg e, if_neg k, if_neg (by omega)]
/-- the outer array of class c and length N at the free end, and i rows behind it -/
def gS (T : State) (c : ClassId) (N : Nat) (row : Cell) : Nat → State
  | 0 => T.pushCell (arrV c N (gF T.heap.size 0))
  | i + 1 => ((gS T c N row i).pushCell row).setCell T.heap.size ((arrV c N (gF T.heap.size i)).setSlot i (.ref (T.heap.size + 1 + i)))
theorem gS_facts (T : State) (c : ClassId) (N : Nat) (row : Cell) : ∀ i, (gS T c N row i).heap.size = T.heap.size + 1 + i ∧ (gS T c N row i).vm = T.vm ∧ (gS T c N row i).slotsUsed = T.slotsUsed + N + i * row.slots.size ∧
    (gS T c N row i).heap[T.heap.size]? = some (arrV c N (gF T.heap.size i)) ∧ (∀ q, q < T.heap.size → (gS T c N row i).heap[q]? = T.heap[q]?) ∧ ∀ j, j < i → (gS T c N row i).heap[T.heap.size + 1 + j]? = some row := by
  intro i
  induction i with
  | zero =>
    refine ⟨by simp [gS], rfl, by simp [gS, arrV_size], by simp [gS], fun q hq => State.heap_pushCell_of_lt _ _ hq, fun j hj => absurd hj (Nat.not_lt_zero j)⟩
  | succ i ih =>
    obtain ⟨z, v, u, o, b, r⟩ := ih
    have hl : T.heap.size < (gS T c N row i).heap.size := by omega
    have ho : ((gS T c N row i).pushCell row).heap[T.heap.size]? = some (arrV c N (gF T.heap.size i)) := by
      rw [State.heap_pushCell_of_lt (h := hl)]; exact o
    refine ⟨?_, ?_, ?_, ?_, fun q hq => ?_, fun j hj => ?_⟩
    · simp [gS, State.setCell, z]; omega
    · simp [gS, v]
    · simp [gS, u, Nat.succ_mul]; omega
    · show (((gS T c N row i).pushCell row).setCell T.heap.size _).heap[T.heap.size]? = _
      rw [State.heap_setCell_self ho, arrV_store, gF_next]
    · show (((gS T c N row i).pushCell row).setCell T.heap.size _).heap[q]? = _
      have hq2 : q < (gS T c N row i).heap.size := Nat.lt_trans hq hl
      rw [State.heap_setCell_other (Nat.ne_of_gt hq), State.heap_pushCell_of_lt (h := hq2)]
      exact b q hq
    · show (((gS T c N row i).pushCell row).setCell T.heap.size _).heap[T.heap.size + 1 + j]? = _
      rw [State.heap_setCell_other (show T.heap.size ≠ T.heap.size + 1 + j by omega)]
      by_cases e : j = i
      · subst e
        have h9 := State.heap_pushCell_size (gS T c N row j) row
        rw [z] at h9
        exact h9
      · have hj2 : T.heap.size + 1 + j < (gS T c N row i).heap.size := by rw [z]; omega
        rw [State.heap_pushCell_of_lt (h := hj2)]
        exact r j (by omega)
theorem gS_top (T : State) (f : JFrame) (c : ClassId) (N : Nat) (row : Cell) : ∀ i, gS (T.setTop f) c N row i = (gS T c N row i).setTop f := by
  intro i
  induction i with
  | zero => rfl
  | succ i ih => simp only [gS, ih, State.heap_setTop, State.pushCell_setTop, State.setCell_setTop]
section G1
variable {E : CtlPost} {e : Env} {d : Bool} {acts : List Action} {s : State}
theorem gNew {c comp : ClassId} {k : Class} {ty : FieldType} {N : Nat} {v : Value} (hk : s.vm.classes[c]? = some k) (hkind : k.kind = .array comp ty) (hl : ¬ N > e.platform.arrayLengthLimit) (hh : ¬ N * componentBytes ty > e.platform.maxHeapBytes)
    (hf : fits ty v = true) (hd : v.isDefault = true) {Q : Addr → Pre} (h1 : s.heap.size < e.platform.maxCells) (h2 : s.slotsUsed + N ≤ e.platform.maxSlots) (hq : Q s.heap.size d acts (s.pushCell (arrV c N (fun _ => v)))) :
    wp (Jvm.newArray c N v) Q E e d acts s := by
  rw [← arrV_new] at hq
  have ha : allocActs (Array.replicate N v) s.heap.size acts = acts := by
    unfold allocActs
    rw [if_pos]
    rw [Array.all_replicate]
    split
    · rfl
    · exact hd
  have hs : ∀ (i : Nat) (w : Value), (Array.replicate N v)[i]? = some w → s.fitsSlot c .none i w = true := by
    intro i w hw
    rw [Array.getElem?_replicate] at hw
    split at hw
    · cases hw
      simp [State.fitsSlot, State.slotType?, hk, hkind, hf]
    · cases hw
  simp only [Jvm.newArray, Jvm.arrayFits, wp_bind', W.ask, W.ite, hl, if_false, wp_pure', W.theClass, hk, hkind, hh, W.alloc, W.stop, Option.some.injEq, exists_eq_left', Array.size_replicate, ha]
  rw [if_neg (by omega)]
  exact ⟨h1, h2, hs, hq⟩
theorem gFit {t : FieldType} (h : t.isReference = true) (v : Value) (hv : v = .null ∨ ∃ a, v = .ref a) : fits t v = true := by
  rcases hv with rfl | ⟨a, rfl⟩
  · cases t <;> first | rfl | cases h
  · cases t <;> first | rfl | cases h
theorem gMake {c comp cc : ClassId} {k kc : Class} {t0 ty : FieldType} {n m : Int32} {N M : Nat} (en : n.toNatClampNeg = N) (em : m.toNatClampNeg = M) (hk : s.vm.classes[c]? = some k) (hkind : k.kind = .array comp t0) (href : t0.isReference = true)
    (hkc : s.vm.classes[comp]? = some kc) (hkindc : kc.kind = .array cc ty) (hn : ¬ n < 0) (hm : ¬ m < 0)
    (hl1 : ¬ N > e.platform.arrayLengthLimit) (hh1 : ¬ N * componentBytes t0 > e.platform.maxHeapBytes) (hl2 : ¬ M > e.platform.arrayLengthLimit) (hh2 : ¬ M * componentBytes ty > e.platform.maxHeapBytes)
    (hdf : fits ty (defaultValue ty) = true) (hdd : (defaultValue ty).isDefault = true) (hc : s.heap.size + (1 + N) ≤ e.platform.maxCells) (hs : s.slotsUsed + (N + N * M) ≤ e.platform.maxSlots)
    {Q : Addr → Pre} (hq : ∀ d' acts', Q s.heap.size d' acts' (gS s c N (arrV comp M (fun _ => defaultValue ty)) N)) :
    wp (multianewarray.make c [n, m]) Q E e d acts s := by
  subst en em
  generalize hR : arrV comp m.toNatClampNeg (fun _ => defaultValue ty) = row at hq
  have hrz : row.slots.size = m.toNatClampNeg := by rw [← hR, arrV_size]
  have hfind : ([m].find? (· < 0)) = none := by simp [hm]
  rw [multianewarray.make]
  simp only [wp_bind', W.ite, hn, if_false, wp_pure', W.theClass, hk, hkind, Option.some.injEq, exists_eq_left']
  refine gNew hk hkind hl1 hh1 (gFit href _ (Or.inl rfl)) rfl (by omega) (by have := Nat.zero_le (n.toNatClampNeg * m.toNatClampNeg); omega) ?_
  simp only [hfind]
  rw [ite_self, wp_bind', Std.Legacy.Range.forIn_eq_forIn_range']
  have hsz : ([:n.toNatClampNeg] : Std.Legacy.Range).size = n.toNatClampNeg := by simp [Std.Legacy.Range.size]
  rw [hsz]
  show wp (forIn (List.range' 0 n.toNatClampNeg 1) PUnit.unit _) _ E e d acts _
  refine wp_forIn_inv (fun rest s' => ∃ i, i ≤ n.toNatClampNeg ∧ rest = List.range' i (n.toNatClampNeg - i) ∧ s' = gS s c n.toNatClampNeg row i) _ _ ⟨0, Nat.zero_le _, rfl, ?_⟩ ?_ ?_
  · show s.pushCell _ = s.pushCell _
    have e0 : gF s.heap.size 0 = fun _ => Value.null := by funext j; simp [gF]
    rw [e0]
  · rintro x rest s' d' acts' Q' ⟨i, hi, hl, rfl⟩ hnext
    obtain ⟨w, hw⟩ : ∃ w, n.toNatClampNeg - i = w + 1 := by
      cases h9 : n.toNatClampNeg - i with
      | zero => rw [h9] at hl; simp at hl
      | succ w => exact ⟨w, rfl⟩
    rw [hw, List.range'_succ] at hl
    obtain ⟨rfl, hrest⟩ := List.cons.inj hl
    obtain ⟨z, v, u, o, -, -⟩ := gS_facts s c n.toNatClampNeg row x
    have hmul : x * m.toNatClampNeg + m.toNatClampNeg ≤ n.toNatClampNeg * m.toNatClampNeg := by
      rw [← Nat.succ_mul]
      exact Nat.mul_le_mul_right _ (by omega)
    rw [hrz] at u
    have hlt : s.heap.size < (gS s c n.toNatClampNeg row x).heap.size := by omega
    simp only [wp_bind']
    rw [multianewarray.make]
    simp only [wp_bind', W.ite, hm, if_false, wp_pure', W.theClass, v, hkc, hkindc, Option.some.injEq, exists_eq_left']
    refine gNew (by rw [v]; exact hkc) hkindc hl2 hh2 hdf hdd (by omega) (by omega) ?_
    rw [hR]
    simp only [wp_bind', W.writeLoc, wp_pure']
    refine ⟨arrV c n.toNatClampNeg (gF s.heap.size x), by rw [State.heap_pushCell_of_lt (h := hlt)]; exact o, by simp [arrV], by rw [arrV_size]; omega, ?_, hnext _ _ _ ⟨x + 1, by omega, ?_, ?_⟩⟩
    · show State.fitsSlot _ c .none _ _ = true
      simp [State.fitsSlot, State.slotType?, v, hk, hkind, gFit href _ (Or.inr ⟨_, rfl⟩)]
    · rw [hrest]; congr 1; omega
    · rw [z]; rfl
  · rintro s' d' acts' ⟨i, hi, hl, rfl⟩
    have hiN : i = n.toNatClampNeg := by
      cases h9 : n.toNatClampNeg - i with
      | zero => omega
      | succ w => rw [h9, List.range'_succ] at hl; cases hl
    subst hiN
    simp only [wp_pure']
    exact hq _ _
end G1
section G2
variable {p : Program} {l : Launch} {e : Env} {R : Room} {s : State} {m : MethodId} {args : Array Value} {below : List Frame} {meth : Method} {c : Code} {T : State} {locs : List Loc} {cells slots : Nat}
theorem gStand (X : Stand p l e R s m args below meth c T locs cells slots) (cA : ClassId) (N : Nat) (row : Cell) :
    ∀ i, Stand p l e R s m args below meth c (gS T cA N row i) (locs ++ (List.range i).map fun j => ⟨T.heap.size, j⟩) (cells + 1 + i) (slots + N + i * row.slots.size) := by
  intro i
  induction i with
  | zero =>
    have h := X.pushed (arrV cA N (gF T.heap.size 0))
    rw [arrV_size] at h
    simpa [gS] using h
  | succ i ih =>
    obtain ⟨z, -, -, o, -, -⟩ := gS_facts T cA N row i
    have hl : T.heap.size < (gS T cA N row i).heap.size := by omega
    have h := (ih.pushed row).stored (by rw [State.heap_pushCell_of_lt (h := hl)]; exact o) i (.ref (T.heap.size + 1 + i))
    have e1 : (locs ++ (List.range (i + 1)).map fun j => (⟨T.heap.size, j⟩ : Loc)) = (locs ++ (List.range i).map fun j => (⟨T.heap.size, j⟩ : Loc)) ++ [⟨T.heap.size, i⟩] := by simp [List.range_succ, List.append_assoc]
    have e2 : slots + N + (i + 1) * row.slots.size = slots + N + i * row.slots.size + row.slots.size := by rw [Nat.succ_mul]; omega
    rw [e1, e2]
    exact h
theorem gGrid {H : Heap} {Q : State → Prop} {cc : ByteArray} (hexec : p.tables.exec = Jvm.exec) (hb : c.code = cc) {own : String} {index : Nat} {ty : FieldType} (hown : s.vm.findClass own = some m.cls) (hlink : (Cond.classLink own index ("[" ++ (FieldType.array ty).toString)).before args s = true)
    {cA cI cx : ClassId} {kA kI : Class} (hname : s.vm.findClass ("[" ++ (FieldType.array ty).toString) = some cA) (hkA : s.vm.classes[cA]? = some kA) (hkindA : kA.kind = .array cI (.array ty)) (hkI : s.vm.classes[cI]? = some kI) (hkindI : kI.kind = .array cx ty)
    {pc : Nat} {ls : Array Slot} {rest : List Value} {n k : Int32} {N M : Nat} (hdg : decode cc pc = .ok (.multianewarray index 2, 4)) (en : n.toNatClampNeg = N) (ek : k.toNatClampNeg = M) (hn : ¬ n < 0) (hk : ¬ k < 0) (hb1 : N * 4 ≤ 536870912) (hb2 : M * componentBytes ty ≤ 536870912) (hb3 : M ≤ 536870912)
    (hdf : fits ty (defaultValue ty) = true) (hdd : (defaultValue ty).isDefault = true) (hcells : cells + (1 + N) ≤ R.cells) (hslots : slots + (N + N * M) ≤ R.slots)
    (kk : ∀ (H' : Heap) (locs' : List Loc), H'.size = H.size + 1 + N → H'[H.size]? = some (arrV cA N (gF H.size N)) → (∀ j, j < N → H'[H.size + 1 + j]? = some (arrV cI M (fun _ => defaultValue ty))) → (∀ q, q < H.size → H'[q]? = H[q]?) → (∀ z ∈ locs', z ∈ locs ∨ z.base = H.size) →
      W p l e R s m args below meth c H' locs' (cells + (1 + N)) (slots + (N + N * M)) Q (F0 m (pc + 4) ls (.ref H.size :: rest))) : W p l e R s m args below meth c H locs cells slots Q (F0 m pc ls (.int k :: .int n :: rest)) := by
  intro T hT X
  subst hT; subst hb
  have hpl : e.platform.magicAccessors = ({} : Platform).magicAccessors := by rw [X.admits.platform]
  obtain ⟨c0, hfc, hcl⟩ := Cond.classLink_spec hown hlink e.platform hpl
  cases hname.symm.trans hfc
  obtain ⟨hg1, hw1, hr1⟩ := State.classEntry (e := e) X.warmed hcl
  generalize T.vm.noted m.cls index (.cls cA) = vm1 at hg1 hw1 hr1
  have hal : s.vm.Alike vm1 := hw1.alike
  obtain ⟨kA1, hkA1, heA⟩ := hal.2.2 _ _ hkA
  obtain ⟨kI1, hkI1, heI⟩ := hal.2.2 _ _ hkI
  have hkindA1 : kA1.kind = .array cI (.array ty) := by rw [heA]; exact hkindA
  have hkindI1 : kI1.kind = .array cx ty := by rw [heI]; exact hkindI
  have X1 := X.noted hw1
  obtain ⟨hr1, hr2⟩ := X.roomAbove hcells hslots
  have hl1 : ¬ N > e.platform.arrayLengthLimit := by rw [Launch.admits_arrayLengthLimit X.admits]; omega
  have hh1 : ¬ N * componentBytes (.array ty) > e.platform.maxHeapBytes := by
    rw [Launch.admits_maxHeapBytes X.admits]; show ¬ N * 4 > 536870912; omega
  have hl2 : ¬ M > e.platform.arrayLengthLimit := by rw [Launch.admits_arrayLengthLimit X.admits]; omega
  have hh2 : ¬ M * componentBytes ty > e.platform.maxHeapBytes := by rw [Launch.admits_maxHeapBytes X.admits]; omega
  have XF := gStand X1 cA N (arrV cI M (fun _ => defaultValue ty)) N
  rw [arrV_size] at XF
  obtain ⟨z, -, -, o, b, r⟩ := gS_facts (T.setVm vm1) cA N (arrV cI M (fun _ => defaultValue ty)) N
  rw [show cells + 1 + N = cells + (1 + N) by omega, show slots + N + N * M = slots + (N + N * M) by omega] at XF
  obtain ⟨t, a1, b1⟩ := kk _ _ z o r b (fun y hy => by
    rcases List.mem_append.mp hy with h | h
    · exact Or.inl h
    · obtain ⟨j, -, rfl⟩ := List.mem_map.mp h
      exact Or.inr rfl) _ rfl XF
  refine ⟨t, ?_, b1⟩
  jvm_step X.here [hexec, hdg]
  simp only [multianewarray.sem, wp_bind', W.resolveClassAt_links (State.method?_setTop (F0 m pc ls (.int k :: .int n :: rest)) X.here.top) hg1]
  rw [W.popN, if_neg (by decide)]
  refine ⟨F0 m pc ls (.int k :: .int n :: rest), State.topJava?_setTop' (s := T.setVm vm1) _ X.here.top, [.int n, .int k], rest, rfl, rfl, ?_⟩
  simp only [List.mapM_cons, List.mapM_nil, wp_bind', wp_pure']
  refine gMake (s := ((T.setTop (F0 m pc ls (.int k :: .int n :: rest))).setVm vm1).setTop { F0 m pc ls (.int k :: .int n :: rest) with stack := rest }) en ek (k := kA1) (kc := kI1) (t0 := .array ty) (ty := ty) hkA1 hkindA1 rfl hkI1 hkindI1 hn hk hl1 hh1 hl2 hh2 hdf hdd hr1 hr2 (fun d' acts' => ?_)
  have eS : ((T.setTop (F0 m pc ls (.int k :: .int n :: rest))).setVm vm1).setTop { F0 m pc ls (.int k :: .int n :: rest) with stack := rest } = (T.setVm vm1).setTop { F0 m pc ls (.int k :: .int n :: rest) with stack := rest } := by
    show ((T.setVm vm1).setTop _).setTop _ = _
    rw [State.setTop_setTop]
  rw [eS, gS_top]
  simp only [wp_bind', W.mark, W.pushRef, State.topJava?_setTop' _ XF.here.top, Option.some.injEq, exists_eq_left', State.setTop_setTop, State.heap_setTop]
  intro acts
  simp [jvm, XF.here.top]
  exact a1
end G2
