/-! RETURNS, CALLS. -/
section EVC
variable {lay : List eLC} {d : Nat} {mi : eM} {pc : Nat} {lv : List (Option Value)} {st : List Value} {M : eMem} {r : Option Value × eMem}
theorem Ev.vret (hd : decode mi.2.1 pc = .ok (.return_, 1)) (ht : mi.2.2.2 = none) : Ev lay d mi pc lv [] M (none, M) :=
  fun p l e R s m args below meth c H locs cells slots Q D ac ad A ls C K Rm P Dd S L hend => hend pc H locs ls ⟨hd, ht⟩ P Dd S
theorem Ev.iret {v : Int32} {ty : FieldType} (hd : decode mi.2.1 pc = .ok (.ireturn, 1)) (ht : mi.2.2.2 = some ty) (hn : narrow ty (.int v) = .int v) : Ev lay d mi pc lv [.int v] M (some (.int v), M) :=
  fun p l e R s m args below meth c H locs cells slots Q D ac ad A ls C K Rm P Dd S L hend => hend pc H locs ls ⟨hd, ty, ht, hn⟩ P Dd S
theorem Ev.lret {v : Int64} (hd : decode mi.2.1 pc = .ok (.lreturn, 1)) (ht : mi.2.2.2 = some .long) : Ev lay d mi pc lv [.long v] M (some (.long v), M) :=
  fun p l e R s m args below meth c H locs cells slots Q D ac ad A ls C K Rm P Dd S L hend => hend pc H locs ls ⟨hd, ht⟩ P Dd S
theorem Ev.aret {q : Nat} {X : String} (hd : decode mi.2.1 pc = .ok (.areturn, 1)) (ht : mi.2.2.2 = some (.object X)) : Ev lay d mi pc lv [.ref q] M (some (.ref q), M) :=
  fun p l e R s m args below meth c H locs cells slots Q D ac ad A ls C K Rm P Dd S L hend => hend pc H locs ls ⟨hd, X, ht⟩ P Dd S
theorem Ev.fall {pc' : Nat} {lv' : List (Option Value)} {st' : List Value} {M' : eMem} {r' : Option Value × eMem} (h : Ev lay d mi pc' lv' st' M' r') (e1 : pc' = pc) (e2 : lv' = lv) (e3 : st' = st) (e4 : M' = M) (e5 : r' = r) : Ev lay d mi pc lv st M r := by
  subst e1; subst e2; subst e3; subst e4; subst e5; exact h
/-- fewer locals are known -/
theorem eLs.forget {ad : Nat → Nat} {n : Nat} {lv lv' : List (Option Value)} {fls : Array Slot} (h : eLs ad n lv fls) (hf : ∀ (k : Nat) (v : Value), lv'[k]? = some (some v) → lv[k]? = some (some v)) : eLs ad n lv' fls :=
  ⟨h.1, h.2.1, fun q hq => by
    obtain ⟨v, h1, h2⟩ := eAl_mem.mp hq
    exact h.2.2 q (eAl_mem.mpr ⟨v, hf _ _ h1, h2⟩)⟩
/-- entry -/
def eEnt : List Value → List (Option Value)
  | [] => []
  | v :: vs => if v.category = 2 then some v :: none :: eEnt vs else some v :: eEnt vs
theorem eV_cat_eq {ad : Nat → Nat} {v : Value} : (eV ad v).category = v.category := by cases v <;> rfl
theorem eEnt_args {ad : Nat → Nat} : ∀ (as : List Value) (i k : Nat) (v : Value), (eEnt as)[k]? = some (some v) → (i + k, eV ad v) ∈ lv_args i (as.map (eV ad)) := by
  intro as
  induction as with
  | nil => intro i k v h; simp [eEnt] at h
  | cons a as ih =>
    intro i k v h
    by_cases hc : a.category = 2
    · simp only [eEnt, hc, if_true] at h
      simp only [List.map_cons, lv_args, eV_cat_eq, hc, if_true]
      match k, h with
      | 0, h => cases h; exact List.mem_cons_self
      | 1, h => cases h
      | k + 2, h =>
        have h2 := ih (i + 2) k v (by simpa using h)
        rw [show i + (k + 2) = i + 2 + k by omega]
        exact List.mem_cons_of_mem _ h2
    · simp only [eEnt, hc, if_false] at h
      simp only [List.map_cons, lv_args, eV_cat_eq, hc, if_false]
      match k, h with
      | 0, h => cases h; exact List.mem_cons_self
      | k + 1, h =>
        have h2 := ih (i + 1) k v (by simpa using h)
        rw [show i + (k + 1) = i + 1 + k by omega]
        exact List.mem_cons_of_mem _ h2
theorem lg_sl_eV {ad : Nat → Nat} : ∀ as : List Value, (lg_sl (as.map (eV ad))).length = (eEnt as).length := by
  intro as
  induction as with
  | nil => rfl
  | cons a as ih =>
    have e : lg_sl ((a :: as).map (eV ad)) = (if (eV ad a).category = 2 then [Slot.val (eV ad a), .second] else [Slot.val (eV ad a)]) ++ lg_sl (as.map (eV ad)) := by simp [lg_sl]
    rw [e, eV_cat_eq]
    by_cases hc : a.category = 2 <;> simp [eEnt, hc, ih]
/-- the cells of a layout -/
def eA (lay : List eLC) (ad : Nat → Nat) : Nat → Prop := fun q => ∃ p, p < lay.length ∧ q = ad p
theorem eWs_addr {lay : List eLC} {ac : Nat → ClassId} {ad : Nat → Nat} {M : eMem} {k : Nat} {q : Nat × va_E} (h : (eWs lay ac ad M)[k]? = some q) : k < lay.length ∧ q.1 = ad k := by
  have hl : k < lay.length := by
    have := (List.getElem?_eq_some_iff.mp h).1
    simpa [eWs] using this
  refine ⟨hl, ?_⟩
  rw [eWs_get (List.getElem?_eq_getElem hl)] at h
  cases h
  rfl
theorem eWs_D {lay : List eLC} {ac : Nat → ClassId} {ad : Nat → Nat} {M M' : eMem} {A A' : Nat → Prop} (h : va_D A (eWs lay ac ad M)) (hA : ∀ q, eA lay ad q → A' q) : va_D A' (eWs lay ac ad M') := by
  refine ⟨fun i j x y hx hy hxy => ?_, fun k q hk => ?_⟩
  · obtain ⟨h1, h2⟩ := eWs_addr hx
    obtain ⟨h3, h4⟩ := eWs_addr hy
    exact h.1 i j _ _ (eWs_get (List.getElem?_eq_getElem h1)) (eWs_get (List.getElem?_eq_getElem h3)) (by show ad i = ad j; rw [← h2, ← h4, hxy])
  · obtain ⟨h1, h2⟩ := eWs_addr hk
    exact hA _ ⟨k, h1, h2⟩
theorem eWs_A {lay : List eLC} {ac : Nat → ClassId} {ad : Nat → Nat} {M : eMem} {A : Nat → Prop} (h : va_D A (eWs lay ac ad M)) : ∀ q, eA lay ad q → A q := by
  rintro q ⟨p, hp, rfl⟩
  exact h.2 p _ (eWs_get (List.getElem?_eq_getElem hp))
def ePc (lay : List eLC) (M : eMem) (D : va_G) (ac : Nat → ClassId) (ad : Nat → Nat) (as : List Value) : Array Value → State → Prop :=
  va_Pc (as.map (eV ad)) (fun U => va_P D vwCl (eWs lay ac ad M) U.heap ∧ va_D (eA lay ad) (eWs lay ac ad M) ∧ eKs D ac ad (eA lay ad) U)
def eQc (lay : List eLC) (r : Option Value × eMem) (D : va_G) (ac : Nat → ClassId) (ad : Nat → Nat) : Array Value → State → Outcome → State → Prop :=
  fun _ st o t => (o = .returned (r.1.map (eV ad)) ∧ va_P D vwCl (eWs lay ac ad r.2) t.heap) ∧ va_F (eA lay ad) st t
def eRoom (d : Nat) : Room := { frames := d, cells := 0, slots := 0, locals := 40 * d }
abbrev eWd (mi : eM) : List Cond := Cond.code mi.1 mi.2.1 mi.2.2.1 mi.2.2.2 :: eTb
theorem Ev.met {as : List Value} {z : Nat} (hj : Ev lay d mi 0 (eEnt as ++ List.replicate z none) [] M r) (hp : plainName mi.1.cls = true) (hz : (eEnt as).length + z = mi.2.2.1) (l : Launch) (D : va_G) (ac : Nat → ClassId) (ad : Nat → Nat) :
    Met l mi.1 (eWd mi) (eRoom d) (ePc lay M D ac ad as) (eQc lay r D ac ad) 0 0 (eA lay ad) := by
  refine Met.ofW (cc := mi.2.1) (maxL := mi.2.2.1) (ret := mi.2.2.2) hp rfl ?_
  intro p e s m args below meth c s₁ B hml hv
  obtain ⟨rfl, hP, hD, hK⟩ := hv
  have hx := B.exec
  have hb := B.bytes
  have hr := B.returns
  have hts := atoms_spec (ws := eWd mi) B.pre
  have hown : s.vm.findClass mi.1.cls = some m.cls := findClass_of_methodNamed B.named
  have hlocks := B.notSynchronized
  have hl := lv_entry (as.map (eV ad)) (n := mi.2.2.1) (by rw [lg_sl_eV]; omega)
  rw [lg_entry_eq]
  generalize (lg_sl (as.map (eV ad)) ++ List.replicate (mi.2.2.1 - (lg_sl (as.map (eV ad))).length) Slot.unset).toArray = ls at hl ⊢
  have hL : eLs ad mi.2.2.1 (eEnt as ++ List.replicate z none) ls := by
    refine ⟨hl.1, hl.2.1, fun q hq => ?_⟩
    obtain ⟨v, h1, h2⟩ := eAl_mem.mp hq
    have h3 : (eEnt as)[q.1]? = some (some v) := by
      by_cases hk : q.1 < (eEnt as).length
      · rwa [List.getElem?_append_left hk] at h1
      · rw [List.getElem?_append_right (by omega), List.getElem?_replicate] at h1
        split at h1 <;> cases h1
    have h4 := hl.2.2 _ (eEnt_args (ad := ad) as 0 q.1 v h3)
    obtain ⟨k, w⟩ := q
    dsimp only at h2 h4 ⊢
    subst h2
    simpa using h4
  refine hj p l e _ s m _ below meth c s.heap [] 0 0 _ D ac ad (eA lay ad) ls ⟨hx, hb, hml, hown, fun w hw => hts w (List.mem_cons_of_mem _ hw)⟩ hK ⟨Nat.le_refl _, Nat.le_refl _, Nat.zero_le _, Nat.zero_le _⟩ hP hD va_S.rf hL ?_
  intro pc' H' locs' ls' hret P' D' S'
  obtain ⟨rv, M'⟩ := r
  have hq : ∀ t : State, t.heap = H' → s.WarmedH t.vm → eQc lay (rv, M') D ac ad (as.map (eV ad)).toArray s (.returned (rv.map (eV ad))) t := fun t ht _ => ⟨⟨rfl, by rw [ht]; exact P'⟩, S'.F ht⟩
  cases rv with
  | none => exact W.vret hx hb (hr.trans hret.2) hq S'.2.2 hret.1
  | some v =>
    cases v with
    | int v =>
      obtain ⟨h1, ty, h2, h3⟩ := hret
      exact W.zret hx hb (hr.trans h2) h3 hq S'.2.2 h1
    | long v => exact W.lret hx hb (hr.trans hret.2) hq S'.2.2 hret.1
    | ref a =>
      obtain ⟨h1, X, h2⟩ := hret
      exact W.aret hx hb (hr.trans h2) (Or.inl ⟨X, rfl⟩) (Or.inr ⟨ad a, rfl⟩) hq S'.2.2 h1
    | _ => exact absurd hret id
theorem ePc_blind {D : va_G} {ac : Nat → ClassId} {ad : Nat → Nat} {as : List Value} : FrameBlind (ePc lay M D ac ad as) :=
  fun _ _ _ _ h => ⟨h.1, h.2.1, h.2.2.1, h.2.2.2.blind⟩
theorem eGood {mi : eM} (h : Cond.code mi.1 mi.2.1 mi.2.2.1 mi.2.2.2 ∈ eTb) : GoodIn eTb (eWd mi) := by
  intro w hw
  have h1 : w ∈ eTb := by
    rcases List.mem_cons.mp hw with e | e
    · rw [e]; exact h
    · exact e
  exact ⟨h1, good_of_word (List.mem_filter.mp h1).2⟩
/-- behind a call: the caller goes on -/
theorem eBehind {p : Program} {l : Launch} {e : Env} {R : Room} {s : State} {m : MethodId} {args : Array Value} {below : List Frame} {meth : Method} {c : Code} {H : Heap} {locs : List Loc} {cells slots : Nat} {Q : State → Prop} {D : va_G} {ac : Nat → ClassId} {ad : Nat → Nat} {A : Nat → Prop} {ls : Array Slot} {st0 : List Value} {a : Array Value} {rv : Option Value} {M' : eMem}
    (hr : va_Run p l e R s m args below meth c H locs cells slots 0 0 (F0 m pc ls st0) (st.map (eV ad)) (eQc lay (rv, M') D ac ad a) (eA lay ad))
    (C : eCx p s m args c mi) (K : eKs D ac ad A s) (Rm : eRm R d cells slots) (Dd : va_D A (eWs lay ac ad M)) (S : va_S A s.heap H locs) (L : eLs ad mi.2.2.1 lv ls)
    (hend : ∀ (pc' : Nat) (H' : Heap) (locs' : List Loc) (ls' : Array Slot), eRet mi pc' r.1 → va_P D vwCl (eWs lay ac ad r.2) H' → va_D A (eWs lay ac ad r.2) → va_S A s.heap H' locs' →
      W p l e R s m args below meth c H' locs' cells slots Q (F0 m pc' ls' (r.1.map (eV ad)).toList))
    (k : Ev lay d mi (pc + 3) lv (rv.toList ++ st) M' r) : W p l e R s m args below meth c H locs cells slots Q (F0 m pc ls st0) := by
  intro T hT X
  obtain ⟨v, st₀, t, T', L', h0, X', hL, e1, e2, ⟨⟨ho, hP⟩, hz, hk⟩, stp⟩ := hr T hT X
  have hfree := eWs_A Dd
  cases ho
  rw [h0] at hz hk
  have S' : va_S A s.heap T'.heap (locs ++ L') := ⟨Nat.le_trans S.1 (by rw [e1]; exact hz), fun q h1 h2 => by rw [e1, hk q (Nat.lt_of_lt_of_le h1 S.1) (fun z => h2 (hfree q z))]; exact S.2.1 q h1 h2, fun q hq => by
      rcases List.mem_append.mp hq with h | h
      · exact S.2.2 q h
      · exact hfree _ (hL q h)⟩
  obtain ⟨t2, a1, b1⟩ := k p l e R s m args below meth c T'.heap (locs ++ L') cells slots Q D ac ad A ls C K Rm (by rw [e1]; exact hP) (eWs_D Dd hfree) S' L hend T' rfl X'
  refine ⟨t2, stp t2 ?_, b1⟩
  have e9 : (rv.toList ++ st).map (eV ad) = (rv.map (eV ad)).toList ++ st.map (eV ad) := by cases rv <;> simp
  rw [e9] at a1
  exact a1
/-- what the tables say of a call -/
def eWc (mj : eM) (n : Nat) : Prop := Cond.code mj.1 mj.2.1 mj.2.2.1 mj.2.2.2 ∈ eTb ∧ Cond.initialized mj.1.cls ∈ eTb ∧ (mj.1.cls ≠ "java/lang/invoke/MethodHandle" ∧ mj.1.cls ≠ "java/lang/invoke/VarHandle" ∧ (parseMethodDescriptor mj.1.desc).map (fun d => d.parameters.length) = some n) ∧ plainName mj.1.cls = true ∧ mj.2.2.1 ≤ 21
theorem eCallB {R : Room} {s : State} {args : Array Value} {own : String} {idx n d' d cells slots : Nat} {mj : eM} (hw : eWc mj n) (hl : Cond.methodLink own idx mj.1 ∈ eTb) (hdd : d' < d) (Rm : eRm R d cells slots) (ht : ∀ w ∈ eTb, w.before args s = true) :
    CallB R s args own idx mj.1 mj.2.1 mj.2.2.1 mj.2.2.2 (eWd mj) (eRoom d') 0 0 n := by
  obtain ⟨h1, h2, h3, h4, h5⟩ := hw
  obtain ⟨r1, r2, r3, r4⟩ := Rm
  exact callB_of n ht (eGood h1) rfl rfl rfl (ht _ h2) (ht _ hl) h3 ⟨by show d' + 1 ≤ R.frames; omega, by show 8 + (mj.2.2.1 + 11) + 40 * d' ≤ R.locals; omega⟩
theorem eCallN {R : Room} {s : State} {args : Array Value} {own host : String} {idx n d' d cells slots : Nat} {mj : eM} (hw : eWc mj n) (hl : va_Nw (.methodLinkNest own idx mj.1 host) s) (hdd : d' < d) (Rm : eRm R d cells slots) (ht : ∀ w ∈ eTb, w.before args s = true) :
    va_CN R s args own idx mj.1 host mj.2.1 mj.2.2.1 mj.2.2.2 (eWd mj) (eRoom d') 0 0 n := by
  obtain ⟨h1, h2, h3, h4, h5⟩ := hw
  obtain ⟨r1, r2, r3, r4⟩ := Rm
  exact va_cnB n ht (eGood h1) rfl rfl rfl hl (ht _ h2) h3 ⟨by show d' + 1 ≤ R.frames; omega, by show 8 + (mj.2.2.1 + 11) + 40 * d' ≤ R.locals; omega⟩
/-- an instance method: public, of the package, or private of the own class -/
theorem Ev.callV {idx n d' z q ci : Nat} {mj : eM} {as stk : List Value} {lvj : List (Option Value)} {fs : List (Option Nat)} {X : String} {T : u_T} {N : Nat} {rv : Option Value} {M' : eMem} (hd : decode mi.2.1 pc = .ok (.invokevirtual idx, 3))
    (hw : eWc mj n) (hl : Cond.methodLink mi.1.cls idx mj.1 ∈ eTb) (hin : Cond.instanceMethod mj.1 ∈ eTb) (hse : Cond.selects mj.1.cls mj.1 mj.1 ∈ eTb) (hlay : lay[q]? = some (.inr (.inr (ci, fs)))) (hcl : vwCl[ci]? = some (X, T, N)) (hX : X = mj.1.cls)
    (hj : Ev lay d' mj 0 lvj [] M (rv, M')) (hlv : eEnt (.ref q :: as) ++ List.replicate z none = lvj) (hz : (eEnt (.ref q :: as)).length + z = mj.2.2.1) (hdd : d' < d) (hn : as.length = n) (hst : stk = as.reverse ++ .ref q :: st) (hcat : (st.map fun v => v.category).sum ≤ 8)
    (k : Ev lay d mi (pc + 3) lv (rv.toList ++ st) M' r) : Ev lay d mi pc lv stk M r := by
  intro p l e R s m args below meth c H locs cells slots Q D ac ad A ls C K Rm P Dd S L hend
  subst hlv hst hX
  have hM := Ev.met hj hw.2.2.2.1 hz l D ac ad
  have hts := C.2.2.2.2
  refine eBehind (st := st) (rv := rv) (M' := M') (va_runV (C := mj.1.cls) (b := ad q) (As := as.map (eV ad)) (rest := st.map (eV ad)) ⟨C.1, C.2.1, C.2.2.1, C.2.2.2.1, hts⟩ hM ⟨eCallB hw hl hdd Rm hts, hts _ hin, hts _ hse⟩ ⟨ePc_blind, va_recv K.1 P hcl (eWs_get hlay), fun U hU hW => ⟨rfl, by rw [hU]; exact P, eWs_D Dd (fun _ h => h), K.call S hU hW (eWs_A Dd)⟩⟩ rfl (by simpa using hn) L.1 (by simp [F0, eV]) ?_ hd ⟨Rm.2.2.1, Rm.2.2.2⟩) C K Rm Dd S L hend k
  refine lv_room ?_
  simpa [eV_cat_eq, Function.comp_def] using hcat
/-- a static method -/
theorem Ev.callS {idx n d' z : Nat} {mj : eM} {as stk : List Value} {lvj : List (Option Value)} {rv : Option Value} {M' : eMem} (hd : decode mi.2.1 pc = .ok (.invokestatic idx, 3))
    (hw : eWc mj n) (hl : Cond.methodLink mi.1.cls idx mj.1 ∈ eTb) (hsm : Cond.static mj.1 ∈ eTb)
    (hj : Ev lay d' mj 0 lvj [] M (rv, M')) (hlv : eEnt as ++ List.replicate z none = lvj) (hz : (eEnt as).length + z = mj.2.2.1) (hdd : d' < d) (hn : as.length = n) (hst : stk = as.reverse ++ st) (hcat : (st.map fun v => v.category).sum ≤ 8)
    (k : Ev lay d mi (pc + 3) lv (rv.toList ++ st) M' r) : Ev lay d mi pc lv stk M r := by
  intro p l e R s m args below meth c H locs cells slots Q D ac ad A ls C K Rm P Dd S L hend
  subst hlv hst
  have hM := Ev.met hj hw.2.2.2.1 hz l D ac ad
  have hts := C.2.2.2.2
  refine eBehind (st := st) (rv := rv) (M' := M') (va_runS (As := as.map (eV ad)) (rest := st.map (eV ad)) ⟨C.1, C.2.1, C.2.2.1, C.2.2.2.1, hts⟩ hM ⟨eCallB hw hl hdd Rm hts, hts _ hsm⟩ ⟨ePc_blind, fun U hU hW => ⟨rfl, by rw [hU]; exact P, eWs_D Dd (fun _ h => h), K.call S hU hW (eWs_A Dd)⟩⟩ rfl (by simpa using hn) L.1 (by simp [F0]) ?_ hd ⟨Rm.2.2.1, Rm.2.2.2⟩) C K Rm Dd S L hend k
  refine lv_room ?_
  simpa [eV_cat_eq, Function.comp_def] using hcat
/-- a private static method of a nest mate -/
theorem Ev.callSN {idx n d' z : Nat} {mj : eM} {as stk : List Value} {lvj : List (Option Value)} {rv : Option Value} {M' : eMem} {host : String} (hd : decode mi.2.1 pc = .ok (.invokestatic idx, 3))
    (hw : eWc mj n) (hl : Cond.methodLinkNest mi.1.cls idx mj.1 host ∈ eNest) (hsm : Cond.static mj.1 ∈ eTb)
    (hj : Ev lay d' mj 0 lvj [] M (rv, M')) (hlv : eEnt as ++ List.replicate z none = lvj) (hz : (eEnt as).length + z = mj.2.2.1) (hdd : d' < d) (hn : as.length = n) (hst : stk = as.reverse ++ st) (hcat : (st.map fun v => v.category).sum ≤ 8)
    (k : Ev lay d mi (pc + 3) lv (rv.toList ++ st) M' r) : Ev lay d mi pc lv stk M r := by
  intro p l e R s m args below meth c H locs cells slots Q D ac ad A ls C K Rm P Dd S L hend
  subst hlv hst
  have hM := Ev.met hj hw.2.2.2.1 hz l D ac ad
  have hts := C.2.2.2.2
  refine eBehind (st := st) (rv := rv) (M' := M') (va_runSN (host := host) (As := as.map (eV ad)) (rest := st.map (eV ad)) ⟨C.1, C.2.1, C.2.2.1, C.2.2.2.1, hts⟩ hM ⟨eCallN hw (K.2.1 _ hl) hdd Rm hts, hts _ hsm, trivial⟩ ⟨ePc_blind, fun U hU hW => ⟨rfl, by rw [hU]; exact P, eWs_D Dd (fun _ h => h), K.call S hU hW (eWs_A Dd)⟩⟩ rfl (by simpa using hn) L.1 (by simp [F0]) ?_ hd ⟨Rm.2.2.1, Rm.2.2.2⟩) C K Rm Dd S L hend k
  refine lv_room ?_
  simpa [eV_cat_eq, Function.comp_def] using hcat
end EVC
