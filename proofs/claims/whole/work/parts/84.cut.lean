/-! A world cut into the worlds of its parts. -/
section CUT
variable {ac : Nat → ClassId} {ad : Nat → Nat} {M : eMem}
def eWF (ac : Nat → ClassId) (ad : Nat → Nat) (M : eMem) : Nat → List eLC → va_W
  | _, [] => []
  | k, c :: l => (ad k, eCel ac ad M k c) :: eWF ac ad M (k + 1) l
theorem eWF_get : ∀ (l : List eLC) (k i : Nat), (eWF ac ad M k l)[i]? = (l[i]?).map (fun c => (ad (k + i), eCel ac ad M (k + i) c)) := by
  intro l
  induction l with
  | nil => intro k i; rfl
  | cons c l ih =>
    intro k i
    match i with
    | 0 => rfl
    | i + 1 =>
      show (eWF ac ad M (k + 1) l)[i]? = (l[i]?).map _
      rw [ih, show k + 1 + i = k + (i + 1) by omega]
theorem eWs_eWF {lay : List eLC} : eWs lay ac ad M = eWF ac ad M 0 lay := by
  apply List.ext_getElem?
  intro i
  rw [eWF_get, Nat.zero_add]
  cases h : lay[i]? with
  | none => simp [eWs, h]
  | some c => rw [eWs_get h]; rfl
theorem eWF_app : ∀ (l1 l2 : List eLC) (k : Nat), eWF ac ad M k (l1 ++ l2) = eWF ac ad M k l1 ++ eWF ac ad M (k + l1.length) l2 := by
  intro l1
  induction l1 with
  | nil => intro l2 k; rfl
  | cons c l ih =>
    intro l2 k
    show _ :: eWF ac ad M (k + 1) (l ++ l2) = _ :: (eWF ac ad M (k + 1) l ++ eWF ac ad M (k + (l.length + 1)) l2)
    rw [ih, show k + 1 + l.length = k + (l.length + 1) by omega]
def eSh (k : Nat) : eLC → eLC
  | .inl x => .inl x
  | .inr (.inl (t, rows)) => .inr (.inl (t, rows.map (k + ·)))
  | .inr (.inr (ci, fs)) => .inr (.inr (ci, fs.map (Option.map (k + ·))))
def eBd (n : Nat) : eLC → Bool
  | .inl _ => true
  | .inr (.inl (_, rows)) => rows.all (fun r => decide (r < n))
  | .inr (.inr (_, fs)) => fs.all (fun o => match o with | none => true | some r => decide (r < n))
theorem eCel_sh {k p n : Nat} {aj : Nat → Nat} {Mj : eMem} {c : eLC} (hb : eBd n c = true) (ha : ∀ p, p < n → ad (k + p) = aj p) (h1 : M.1 (k + p) = Mj.1 p) (h2 : M.2 (k + p) = Mj.2 p) : eCel ac ad M (k + p) (eSh k c) = eCel ac aj Mj p c := by
  rcases c with ⟨t, z⟩ | ⟨t, rows⟩ | ⟨ci, fs⟩
  · simp only [eSh, eCel, h1, h2]
  · simp only [eBd, List.all_eq_true, decide_eq_true_eq] at hb
    simp only [eSh, eCel, List.length_map]
    congr 7
    funext j
    rw [List.getElem?_map, Option.map_map]
    cases h : rows[j]? with
    | none => rfl
    | some r => show some _ = some _; rw [Function.comp, ha r (hb r (List.mem_of_getElem? h))]
  · simp only [eBd, List.all_eq_true] at hb
    simp only [eSh, eCel]
    congr 2
    apply List.ext_getElem?
    intro j
    rw [List.getElem?_mapIdx, List.getElem?_mapIdx, List.getElem?_map]
    cases h : fs[j]? with
    | none => rfl
    | some o =>
      cases o with
      | none => show some (Value.int (M.1 (k + p) j)) = some (Value.int (Mj.1 p j)); rw [h1]
      | some r =>
        have h3 := hb _ (List.mem_of_getElem? h)
        show some (Value.ref (ad (k + r))) = some (Value.ref (aj r))
        rw [ha r (by simpa using h3)]
theorem wKid {k k' : Nat} {layj lay : List eLC} {aj : Nat → Nat} {Mj : eMem} {w : va_W} (hb : layj.all (eBd layj.length) = true) (hk : k + layj.length = k') (ha : ∀ p, p < layj.length → ad (k + p) = aj p) (h1 : ∀ p, p < layj.length → M.1 (k + p) = Mj.1 p) (h2 : ∀ p, p < layj.length → M.2 (k + p) = Mj.2 p) (hw : w = eWF ac ad M k' lay) :
    eWs layj ac aj Mj ++ w = eWF ac ad M k (layj.map (eSh k) ++ lay) := by
  rw [eWF_app, List.length_map, hk, ← hw]
  congr 1
  apply List.ext_getElem?
  intro i
  rw [eWF_get, List.getElem?_map, Option.map_map]
  cases h : layj[i]? with
  | none => simp [eWs, h]
  | some c =>
    have hi := (List.getElem?_eq_some_iff.mp h).1
    rw [eWs_get h]
    show some _ = some _
    simp only [Function.comp]
    rw [ha i hi, eCel_sh (List.all_eq_true.mp hb c (List.mem_of_getElem? h)) ha (h1 i hi) (h2 i hi)]
theorem wOne {k q n : Nat} {lay : List eLC} {w : va_W} (ha : ad k = q) (h1 : M.1 k = fun _ => 0) (hw : w = eWF ac ad M (k + 1) lay) : (q, .inl (ac 0, n, cZ 0)) :: w = eWF ac ad M k (.inl (0, n) :: lay) := by
  subst ha hw
  show _ = (_, eCel ac ad M k (.inl (0, n))) :: _
  simp only [eCel, h1]
  rfl
theorem wObj {ci h0 : Nat} {fs : List (Option Nat)} {vs : List Value} {lay : List eLC} {w : va_W} (ha : ad 0 = h0) (hv : vs = fs.mapIdx (fun k o => match o with | none => Value.int (M.1 0 k) | some q => Value.ref (ad q))) (hw : w = eWF ac ad M 1 lay) : (h0, .inr (ci, vs)) :: w = eWF ac ad M 0 (.inr (.inr (ci, fs)) :: lay) := by
  subst ha hw hv
  rfl
theorem wRowI {k q n t : Nat} {f : Nat → Int32} {lay : List eLC} {w : va_W} (ht : t ≠ 1) (ha : ad k = q) (h1 : M.1 k = f) (hw : w = eWF ac ad M (k + 1) lay) : (q, .inl (ac t, n, .inl f)) :: w = eWF ac ad M k (.inl (t, n) :: lay) := by
  subst ha hw
  show _ = (_, eCel ac ad M k (.inl (t, n))) :: _
  simp only [eCel, h1, if_neg ht]
theorem wRowJ {k q n : Nat} {f : Nat → Int64} {lay : List eLC} {w : va_W} (ha : ad k = q) (h1 : M.2 k = f) (hw : w = eWF ac ad M (k + 1) lay) : (q, .inl (ac 1, n, .inr (.inl f))) :: w = eWF ac ad M k (.inl (1, n) :: lay) := by
  subst ha hw
  show _ = (_, eCel ac ad M k (.inl (1, n))) :: _
  simp only [eCel, h1, if_true]
def eFV (f : Nat → Int32) (ad : Nat → Nat) : Nat → List (Option Nat) → List Value
  | _, [] => []
  | k, none :: l => Value.int (f k) :: eFV f ad (k + 1) l
  | k, some q :: l => Value.ref (ad q) :: eFV f ad (k + 1) l
theorem eFV_get {f : Nat → Int32} : ∀ (l : List (Option Nat)) (k i : Nat), (eFV f ad k l)[i]? = (l[i]?).map (fun o => match o with | none => Value.int (f (k + i)) | some q => Value.ref (ad q)) := by
  intro l
  induction l with
  | nil => intro k i; rfl
  | cons o l ih =>
    intro k i
    match i with
    | 0 => cases o <;> rfl
    | i + 1 =>
      have h : (eFV f ad (k + 1) l)[i]? = (l[i]?).map (fun o => match o with | none => Value.int (f (k + (i + 1))) | some q => Value.ref (ad q)) := by rw [ih, show k + 1 + i = k + (i + 1) by omega]
      cases o <;> exact h
theorem wObj2 {ci h0 : Nat} {fs : List (Option Nat)} {vs : List Value} {lay : List eLC} {w : va_W} (ha : ad 0 = h0) (hv : vs = eFV (M.1 0) ad 0 fs) (hw : w = eWF ac ad M 1 lay) : (h0, .inr (ci, vs)) :: w = eWF ac ad M 0 (.inr (.inr (ci, fs)) :: lay) := by
  refine wObj ha ?_ hw
  rw [hv]
  apply List.ext_getElem?
  intro i
  rw [eFV_get, List.getElem?_mapIdx, Nat.zero_add]
end CUT
section CW
variable {D : va_G} {ac : Nat → ClassId} {d : Nat} {mi : eM} {cc sc ci : Nat} {post : va_W → Prop} {pc h0 : Nat} {fs : List Value} {tl : va_W}
theorem Cn.objW {layj : List eLC} {Mj : eMem} {pc2 pc3 pc4 pc5 pc6 k idx idx2 idx3 cj N dj ccj scj : Nat} {ty : FieldType} {mj : eM} {fj : List Value} {host : String} (h1 : decode mi.2.1 pc = .ok (.aload_n 0, 1)) (h2 : decode mi.2.1 pc2 = .ok (.new idx, 3)) (h3 : decode mi.2.1 pc3 = .ok (.dup, 1)) (h4 : decode mi.2.1 pc4 = .ok (.invokespecial idx2, 3)) (h5 : decode mi.2.1 pc5 = .ok (.putfield idx3, 3))
    (e2 : pc + 1 = pc2) (e3 : pc2 + 3 = pc3) (e4 : pc3 + 1 = pc4) (e5 : pc4 + 3 = pc5) (e6 : pc5 + 3 = pc6) (hnw : cNw mi.1.cls idx cj N fj) (hwc : cWc mj) (hnl : Cond.methodLinkNest mi.1.cls idx2 mj.1 host ∈ eNest) (hj : ∀ q, Cn D ac dj mj ccj scj cj (fun w => ∃ ad : Nat → Nat, ad 0 = q ∧ w = eWs layj ac ad Mj) 0 q fj []) (hdd : dj < d) (hm1 : mi.2.2.1 = 1)
    (hf : cFf mi.1.cls idx3 ci k ty) (hna : ∀ q, narrow ty (.ref q) = .ref q) (hfi : ∀ q, fits ty (.ref q) = true) (hk : k < fs.length)
    (kk : ∀ aj : Nat → Nat, Cn D ac d mi cc sc ci post pc6 h0 (fs.set k (.ref (aj 0))) (tl ++ eWs layj ac aj Mj)) : Cn D ac d mi (cc + (1 + ccj)) (sc + (N + scj)) ci post pc h0 fs tl := by
  refine Cn.obj h1 h2 h3 h4 h5 e2 e3 e4 e5 e6 hnw hwc hnl hj hdd hm1 hf hna hfi hk (fun q w hw => ?_)
  obtain ⟨aj, rfl, rfl⟩ := hw
  exact kk aj
end CW
