/-! THE ENGINE. A fixed layout of cells (nothing is made while the methods run); a picture of its contents as two functions (whole numbers, longs); a judgement Ev: from this place, with these locals, this stack and these contents, the method comes to its return with this answer and these contents. One row an instruction; one row a call. -/
def eTb : List Cond := lw_tbl.filter goodWord
theorem eTb_in {w : Cond} (h : w ∈ lw_tbl) (g : goodWord w = true) : w ∈ eTb := List.mem_filter.mpr ⟨h, g⟩
theorem eTb_t {w : Cond} (n : Nat) (h : tables_1[n]? = some w) (g : goodWord w = true) : w ∈ eTb := eTb_in (List.mem_append_right _ (List.mem_of_getElem? h)) g
theorem eTb_p {w : Cond} (n : Nat) (h : (k2_sels lw_privs)[n]? = some w) (g : goodWord w = true) : w ∈ eTb := eTb_in (List.mem_append_left _ (List.mem_of_getElem? h)) g
theorem eTb_lw {args : Array Value} {s : State} (h : ∀ w ∈ lw_tbl, w.before args s = true) : ∀ w ∈ eTb, w.before args s = true := fun w hw => h w (List.mem_filter.mp hw).1
def eIsNest : Cond → Bool
  | .methodLinkNest _ _ _ _ => true
  | .fieldLinkNest _ _ _ _ _ _ => true
  | _ => false
def eNest : List Cond := tables_1.filter eIsNest
theorem eNest_t {w : Cond} (n : Nat) (h : tables_1[n]? = some w) (g : eIsNest w = true) : w ∈ eNest := List.mem_filter.mpr ⟨List.mem_of_getElem? h, g⟩
abbrev eM : Type := MethodName × ByteArray × Nat × Option FieldType
abbrev eMem : Type := (Nat → Nat → Int32) × (Nat → Nat → Int64)
abbrev eLC : Type := (Nat × Nat) ⊕ ((Nat × List Nat) ⊕ (Nat × List (Option Nat)))
def eTy (ac : Nat → ClassId) : List (ClassId × FieldType) := [(ac 0, .int), (ac 1, .long), (ac 2, .boolean), (ac 3, .byte), (ac 4, .array .int), (ac 5, .array .long)]
def eCel (ac : Nat → ClassId) (ad : Nat → Nat) (M : eMem) (p : Nat) : eLC → va_E
  | .inl (t, n) => if t = 1 then .inl (ac t, n, .inr (.inl (M.2 p))) else .inl (ac t, n, .inl (M.1 p))
  | .inr (.inl (t, rows)) => .inl (ac t, rows.length, .inr (.inr (.inr (.inr (fun j => (rows[j]?).map ad)))))
  | .inr (.inr (ci, fs)) => .inr (ci, fs.mapIdx (fun k o => match o with | none => Value.int (M.1 p k) | some q => Value.ref (ad q)))
def eWs (lay : List eLC) (ac : Nat → ClassId) (ad : Nat → Nat) (M : eMem) : va_W := lay.mapIdx (fun p c => (ad p, eCel ac ad M p c))
theorem eWs_get {lay : List eLC} {ac : Nat → ClassId} {ad : Nat → Nat} {M : eMem} {p : Nat} {c : eLC} (h : lay[p]? = some c) : (eWs lay ac ad M)[p]? = some (ad p, eCel ac ad M p c) := by
  simp [eWs, h]
def eV (ad : Nat → Nat) : Value → Value
  | .ref a => .ref (ad a)
  | v => v
/-- the contents of the row p become f -/
def eC (M : eMem) (p : Nat) (f : Nat → Int32) : eMem := (fun q => if q = p then f else M.1 q, M.2)
def eCJ (M : eMem) (p : Nat) (f : Nat → Int64) : eMem := (M.1, fun q => if q = p then f else M.2 q)
/-- number i of the row p becomes v -/
def eI (M : eMem) (p i : Nat) (v : Int32) : eMem := eC M p (upd (M.1 p) i v)
def eJ (M : eMem) (p i : Nat) (v : Int64) : eMem := eCJ M p (vp_updL (M.2 p) i v)
theorem eWs_C {lay : List eLC} {ac : Nat → ClassId} {ad : Nat → Nat} {M : eMem} {p t n : Nat} {f : Nat → Int32} (h : lay[p]? = some (.inl (t, n))) (ht : t ≠ 1) :
    eWs lay ac ad (eC M p f) = (eWs lay ac ad M).set p (ad p, .inl (ac t, n, .inl f)) := by
  apply List.ext_getElem?
  intro q
  by_cases hq : q = p
  · subst hq
    have hl : q < lay.length := (List.getElem?_eq_some_iff.mp h).1
    rw [eWs_get h, List.getElem?_set_self (by simpa [eWs] using hl)]
    simp [eCel, ht, eC]
  · rw [List.getElem?_set_ne (Ne.symm hq)]
    cases hc : lay[q]? with
    | none => simp [eWs, hc]
    | some c =>
      rw [eWs_get hc, eWs_get hc]
      rcases c with ⟨t, n⟩ | ⟨t, rows⟩ | ⟨ci, fs⟩ <;> simp [eCel, eC, hq]
theorem eWs_CJ {lay : List eLC} {ac : Nat → ClassId} {ad : Nat → Nat} {M : eMem} {p n : Nat} {f : Nat → Int64} (h : lay[p]? = some (.inl (1, n))) :
    eWs lay ac ad (eCJ M p f) = (eWs lay ac ad M).set p (ad p, .inl (ac 1, n, .inr (.inl f))) := by
  apply List.ext_getElem?
  intro q
  by_cases hq : q = p
  · subst hq
    have hl : q < lay.length := (List.getElem?_eq_some_iff.mp h).1
    rw [eWs_get h, List.getElem?_set_self (by simpa [eWs] using hl)]
    simp [eCel, eCJ]
  · rw [List.getElem?_set_ne (Ne.symm hq)]
    cases hc : lay[q]? with
    | none => simp [eWs, hc]
    | some c =>
      rw [eWs_get hc, eWs_get hc]
      rcases c with ⟨t, n⟩ | ⟨t, rows⟩ | ⟨ci, fs⟩ <;> simp [eCel, eCJ, hq]
theorem eWs_F {lay : List eLC} {ac : Nat → ClassId} {ad : Nat → Nat} {M : eMem} {p k ci : Nat} {v : Int32} {fs : List (Option Nat)} (h : lay[p]? = some (.inr (.inr (ci, fs)))) (hk : fs[k]? = some none) :
    eWs lay ac ad (eI M p k v) = (eWs lay ac ad M).set p (ad p, .inr (ci, (fs.mapIdx (fun k o => match o with | none => Value.int (M.1 p k) | some q => Value.ref (ad q))).set k (.int v))) := by
  apply List.ext_getElem?
  intro q
  by_cases hq : q = p
  · subst hq
    have hl : q < lay.length := (List.getElem?_eq_some_iff.mp h).1
    rw [eWs_get h, List.getElem?_set_self (by simpa [eWs] using hl)]
    simp only [eCel, Option.some.injEq, Prod.mk.injEq, true_and, Sum.inr.injEq]
    apply List.ext_getElem?
    intro j
    by_cases hj : j = k
    · subst hj
      have hl2 : j < fs.length := (List.getElem?_eq_some_iff.mp hk).1
      rw [List.getElem?_set_self (by simpa using hl2)]
      simp [hk, eI, eC, upd]
    · rw [List.getElem?_set_ne (Ne.symm hj)]
      cases hf : fs[j]? with
      | none => simp [hf]
      | some o => cases o <;> simp [hf, eI, eC, upd, hj]
  · rw [List.getElem?_set_ne (Ne.symm hq)]
    cases hc : lay[q]? with
    | none => simp [eWs, hc]
    | some c =>
      rw [eWs_get hc, eWs_get hc]
      rcases c with ⟨t, n⟩ | ⟨t, rows⟩ | ⟨ci, fs⟩ <;> simp [eCel, eI, eC, hq]
/-- the locals that are known -/
def eAl (ad : Nat → Nat) (ls : List (Option Value)) : List (Nat × Value) := (ls.mapIdx (fun k o => (k, o))).filterMap (fun q => q.2.map (fun v => (q.1, eV ad v)))
theorem eAl_mem {ad : Nat → Nat} {ls : List (Option Value)} {q : Nat × Value} : q ∈ eAl ad ls ↔ ∃ v, ls[q.1]? = some (some v) ∧ q.2 = eV ad v := by
  obtain ⟨k, w⟩ := q
  simp only [eAl, List.mem_filterMap, List.mem_mapIdx, Prod.exists, Option.map_eq_some_iff, Prod.mk.injEq]
  constructor
  · rintro ⟨a, b, ⟨i, hi, rfl, rfl⟩, v, hv, rfl, rfl⟩
    exact ⟨v, by rw [List.getElem?_eq_getElem hi, hv], rfl⟩
  · rintro ⟨v, h1, rfl⟩
    obtain ⟨hi, h2⟩ := List.getElem?_eq_some_iff.mp h1
    exact ⟨k, some v, ⟨k, hi, rfl, h2⟩, v, rfl, rfl, rfl⟩
def eLs (ad : Nat → Nat) (n : Nat) (ls : List (Option Value)) (fls : Array Slot) : Prop := lv_has fls n (eAl ad ls)
theorem eLs.at {ad : Nat → Nat} {n i : Nat} {ls : List (Option Value)} {fls : Array Slot} {v : Value} (h : eLs ad n ls fls) (hi : ls[i]? = some (some v)) : fls[i]? = some (.val (eV ad v)) :=
  h.2.2 (i, eV ad v) (eAl_mem.mpr ⟨v, hi, rfl⟩)
/-- no long stands at i - 1 -/
def eOk (ls : List (Option Value)) : Nat → Bool
  | 0 => true
  | k + 1 => match ls[k]? with
    | some (some (.long _)) => false
    | _ => true
theorem eOk_ne {ls : List (Option Value)} {k : Nat} {x : Int64} (h : eOk ls (k + 1) = true) : ls[k]? ≠ some (some (.long x)) := by
  intro e
  simp [eOk, e] at h
theorem eV_cat {ad : Nat → Nat} {v : Value} (h : (eV ad v).category = 2) : (∃ x, v = .long x) ∨ ∃ x, v = .double x := by
  cases v <;> simp [eV, Value.category] at h ⊢
def eNd (ls : List (Option Value)) : Bool := ls.all (fun o => match o with | some (.double _) => false | _ => true)
theorem eNd_ne {ls : List (Option Value)} {k : Nat} {x : UInt64} (h : eNd ls = true) : ls[k]? ≠ some (some (.double x)) := by
  intro e
  have h1 := List.all_eq_true.mp h _ (List.mem_of_getElem? e)
  simp at h1
theorem eLs.set1 {ad : Nat → Nat} {n i : Nat} {ls : List (Option Value)} {fls : Array Slot} {v : Value} (hd : eNd ls = true) (ho : eOk ls i = true)
    (h : lv_has fls n ((i, eV ad v) :: (eAl ad ls).filter (fun q => !(q.1 == i) && !(q.1 + 1 == i && q.2.category == 2)))) : eLs ad n (ls.set i (some v)) fls := by
  refine ⟨h.1, h.2.1, ?_⟩
  rintro ⟨k, w⟩ hq
  obtain ⟨u, h1, h2⟩ := eAl_mem.mp hq
  dsimp only at h1 h2
  subst h2
  by_cases hk : k = i
  · subst hk
    have hl : k < ls.length := by
      have := (List.getElem?_eq_some_iff.mp h1).1
      simpa using this
    rw [List.getElem?_set_self hl] at h1
    cases h1
    exact h.2.2 (k, eV ad v) List.mem_cons_self
  · rw [List.getElem?_set_ne (Ne.symm hk)] at h1
    refine h.2.2 (k, eV ad u) (List.mem_cons_of_mem _ (List.mem_filter.mpr ⟨eAl_mem.mpr ⟨u, h1, rfl⟩, ?_⟩))
    simp only [Bool.and_eq_true, Bool.not_eq_true', beq_eq_false_iff_ne, ne_eq, hk, not_false_eq_true, true_and, Bool.and_eq_false_iff]
    by_cases hk1 : k + 1 = i
    · right
      intro hc
      rcases eV_cat hc with ⟨x, rfl⟩ | ⟨x, rfl⟩
      · subst hk1
        exact eOk_ne ho h1
      · exact eNd_ne hd h1
    · exact Or.inl hk1
theorem eLs.set2 {ad : Nat → Nat} {n i : Nat} {ls : List (Option Value)} {fls : Array Slot} {v : Value} (hd : eNd ls = true) (ho : eOk ls i = true)
    (h : lv_has fls n ((i, eV ad v) :: (eAl ad ls).filter (fun q => !(q.1 == i) && (!(q.1 == i + 1) && !(q.1 + 1 == i && q.2.category == 2))))) : eLs ad n ((ls.set i (some v)).set (i + 1) none) fls := by
  refine ⟨h.1, h.2.1, ?_⟩
  rintro ⟨k, w⟩ hq
  obtain ⟨u, h1, h2⟩ := eAl_mem.mp hq
  dsimp only at h1 h2
  subst h2
  by_cases hk2 : k = i + 1
  · subst hk2
    by_cases hl : i + 1 < (ls.set i (some v)).length
    · rw [List.getElem?_set_self hl] at h1
      cases h1
    · rw [List.getElem?_eq_none (by simpa using hl)] at h1
      cases h1
  rw [List.getElem?_set_ne (Ne.symm hk2)] at h1
  by_cases hk : k = i
  · subst hk
    have hl : k < ls.length := by
      have := (List.getElem?_eq_some_iff.mp h1).1
      simpa using this
    rw [List.getElem?_set_self hl] at h1
    cases h1
    exact h.2.2 (k, eV ad v) List.mem_cons_self
  · rw [List.getElem?_set_ne (Ne.symm hk)] at h1
    refine h.2.2 (k, eV ad u) (List.mem_cons_of_mem _ (List.mem_filter.mpr ⟨eAl_mem.mpr ⟨u, h1, rfl⟩, ?_⟩))
    simp only [Bool.and_eq_true, Bool.not_eq_true', beq_eq_false_iff_ne, ne_eq, hk, hk2, not_false_eq_true, true_and, Bool.and_eq_false_iff]
    by_cases hk1 : k + 1 = i
    · right
      intro hc
      rcases eV_cat hc with ⟨x, rfl⟩ | ⟨x, rfl⟩
      · subst hk1
        exact eOk_ne ho h1
      · exact eNd_ne hd h1
    · exact Or.inl hk1
