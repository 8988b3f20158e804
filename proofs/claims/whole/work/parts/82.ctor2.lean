/-! CONSTRUCTORS as contracts; one in another. -/
theorem cJoin {A : Nat → Prop} {D : va_G} {cl : List vw_C} {rs w1 : va_W} {q : Nat} {e : va_E} {H H1 : Heap} (hP : va_P D cl (rs ++ [(q, e)]) H) (hD : va_D A (rs ++ [(q, e)])) (hk : ∀ x : Nat, x < H.size → ¬ va_A [(q, e)] H.size x → H1[x]? = H[x]?) (hF : ∀ x, va_A [(q, e)] H.size x → A x)
    (hP1 : va_P D cl w1 H1) (hD1 : va_D (va_A [(q, e)] H.size) w1) : va_P D cl (rs ++ w1) H1 ∧ va_D A (rs ++ w1) := by
  have hq : (rs ++ [(q, e)])[rs.length]? = some (q, e) := by simp
  have key : ∀ (i : Nat) (x : Nat × va_E), rs[i]? = some x → x.1 < H.size ∧ ¬ va_A [(q, e)] H.size x.1 := by
    intro i x hx
    have hl : i < rs.length := (List.getElem?_eq_some_iff.mp hx).1
    have h1 : (rs ++ [(q, e)])[i]? = some x := by rw [List.getElem?_append_left hl]; exact hx
    have h2 := (hP i x h1).lt
    refine ⟨h2, fun h => ?_⟩
    rcases h with ⟨k, e', h⟩ | h
    · have hk0 : k < 1 := (List.getElem?_eq_some_iff.mp h).1
      rw [show k = 0 by omega] at h
      have e9 := hD.1 i rs.length x (q, e) h1 hq (by cases h; rfl)
      omega
    · omega
  have hPr : va_P D cl rs H := fun i x hx => hP i x (by rw [List.getElem?_append_left (List.getElem?_eq_some_iff.mp hx).1]; exact hx)
  have spl : ∀ (i : Nat) (x : Nat × va_E), (rs ++ w1)[i]? = some x → (i < rs.length ∧ rs[i]? = some x) ∨ (rs.length ≤ i ∧ w1[i - rs.length]? = some x) := by
    intro i x hx
    by_cases hi : i < rs.length
    · rw [List.getElem?_append_left hi] at hx
      exact Or.inl ⟨hi, hx⟩
    · rw [List.getElem?_append_right (by omega)] at hx
      exact Or.inr ⟨by omega, hx⟩
  refine ⟨(hPr.kept (fun i x hx => hk _ (key i x hx).1 (key i x hx).2)).app hP1, fun i j x y hx hy hxy => ?_, fun i x hx => ?_⟩
  · rcases spl i x hx with ⟨a1, a2⟩ | ⟨a1, a2⟩ <;> rcases spl j y hy with ⟨b1, b2⟩ | ⟨b1, b2⟩
    · exact hD.1 i j x y (by rw [List.getElem?_append_left a1]; exact a2) (by rw [List.getElem?_append_left b1]; exact b2) hxy
    · exact absurd (hxy ▸ hD1.2 _ y b2) (key i x a2).2
    · exact absurd (hxy ▸ hD1.2 _ x a2) (key j y b2).2
    · have := hD1.1 _ _ x y a2 b2 hxy
      omega
  · rcases spl i x hx with ⟨a1, a2⟩ | ⟨a1, a2⟩
    · exact hD.2 i x (by rw [List.getElem?_append_left a1]; exact a2)
    · exact hF _ (hD1.2 _ x a2)
section CO
variable {D : va_G} {ac : Nat → ClassId} {d : Nat} {mi : eM} {cc sc ci : Nat} {post : va_W → Prop} {pc h0 : Nat} {fs : List Value} {tl : va_W}
def cPc (D : va_G) (ac : Nat → ClassId) (ci h0 sz : Nat) (fs : List Value) : Array Value → State → Prop := va_Pc [.ref h0] (fun U => U.heap.size = sz ∧ va_P D vwCl [(h0, .inr (ci, fs))] U.heap ∧ cKs D ac U)
def cQc (D : va_G) (ci h0 sz : Nat) (fs : List Value) (post : va_W → Prop) : Array Value → State → Outcome → State → Prop :=
  va_Qv post (fun (w : va_W) (t : State) => va_P D vwCl w t.heap ∧ va_D (va_A [(h0, .inr (ci, fs))] sz) w) (va_A [(h0, .inr (ci, fs))] sz)
def cRoom (d cc sc : Nat) : Room := { frames := d, cells := cc, slots := sc, locals := 40 * d }
theorem Cn.met (hj : Cn D ac d mi cc sc ci post 0 h0 fs []) (hp : plainName mi.1.cls = true) (hn : mi.1.name = "<init>") (hm : mi.2.2.1 = 1) (hret : mi.2.2.2 = none) (l : Launch) (sz : Nat) :
    Met l mi.1 (eWd mi) (cRoom d cc sc) (cPc D ac ci h0 sz fs) (cQc D ci h0 sz fs post) cc sc (va_A [(h0, .inr (ci, fs))] sz) := by
  refine Met.ofW (cc := mi.2.1) (maxL := mi.2.2.1) (ret := mi.2.2.2) hp rfl ?_
  intro p e s m args below meth c s₁ B hml hv
  obtain ⟨rfl, hsz, hP, hK⟩ := hv
  have hx := B.exec
  have hb := B.bytes
  have hr := B.returns
  have hts := atoms_spec (ws := eWd mi) B.pre
  have hown : s.vm.findClass mi.1.cls = some m.cls := findClass_of_methodNamed B.named
  have hlocks := B.notSynchronized
  have hin : meth.name = "<init>" := ((name_of_methodNamed B.named B.method).1).trans hn
  have hl := lv_entry ([.ref h0]) (n := mi.2.2.1) (by rw [hm]; exact Nat.le_refl 1)
  rw [lg_entry_eq]
  generalize (lg_sl ([.ref h0]) ++ List.replicate (mi.2.2.1 - (lg_sl ([.ref h0])).length) Slot.unset).toArray = ls at hl ⊢
  have hL : lv_has ls 1 [(0, .ref h0)] := by rw [hm] at hl; exact hl
  subst hsz
  have hD : va_D (va_A [(h0, .inr (ci, fs))] s.heap.size) [(h0, .inr (ci, fs))] := by
    refine ⟨fun i j x y hx hy _ => ?_, fun i x hx => va_A.in hx⟩
    have h1 : i < 1 := (List.getElem?_eq_some_iff.mp hx).1
    have h2 : j < 1 := (List.getElem?_eq_some_iff.mp hy).1
    omega
  refine hj p l e _ s m _ below meth c s.heap [] 0 0 _ (va_A [(h0, .inr (ci, fs))] s.heap.size) ls ⟨hx, hb, hml, hown, fun w hw => hts w (List.mem_cons_of_mem _ hw)⟩ hin hK ⟨Nat.le_refl _, Nat.le_refl _, by rw [Nat.zero_add]; exact Nat.le_refl _, by rw [Nat.zero_add]; exact Nat.le_refl _⟩ hP hD va_S.rf (fun q h => Or.inr h) hL ?_
  intro pc' H' locs' ls' ws' hd hpost P' D' S'
  rw [Nat.zero_add, Nat.zero_add]
  exact W.vret hx hb (hr.trans hret) (fun t ht hW => ⟨⟨ws', rfl, hpost, by rw [ht]; exact P', D'⟩, S'.F ht⟩) S'.2.2 hd
theorem cPc_blind {ci h0 sz : Nat} {fs : List Value} : FrameBlind (cPc D ac ci h0 sz fs) :=
  fun _ _ _ _ h => ⟨h.1, h.2.1, h.2.2.1, h.2.2.2.blind⟩
/-- what the tables say of making an object -/
def cNw (own : String) (idx ci N : Nat) (fs0 : List Value) : Prop := ∃ (X : String) (T : u_T) (ty0 : Nat → FieldType), vwCl[ci]? = some (X, T, N) ∧ (∀ w ∈ u_ws X T N, w ∈ eTb) ∧ (∀ k, k < N → parseFieldDescriptor (T k).2.2.1 = some (ty0 k)) ∧ Cond.classLink own idx X ∈ eTb ∧ Cond.instantiable X N ∈ eTb ∧ Cond.initialized X ∈ eTb ∧ (∀ j, j < N → defaultValue (ty0 j) = vp_V fs0 j)
def cWc (mj : eM) : Prop := Cond.code mj.1 mj.2.1 mj.2.2.1 mj.2.2.2 ∈ eTb ∧ Cond.initialized mj.1.cls ∈ eTb ∧ (mj.1.cls ≠ "java/lang/invoke/MethodHandle" ∧ mj.1.cls ≠ "java/lang/invoke/VarHandle" ∧ (parseMethodDescriptor mj.1.desc).map (fun d => d.parameters.length) = some 0) ∧ plainName mj.1.cls = true ∧ mj.1.name = "<init>" ∧ mj.2.2.1 = 1 ∧ mj.2.2.2 = none ∧ Cond.instanceMethod mj.1 ∈ eTb
/-- this.k = new X(), the constructor private in a nest mate -/
theorem Cn.obj {pc2 pc3 pc4 pc5 pc6 k idx idx2 idx3 cj N dj ccj scj : Nat} {ty : FieldType} {mj : eM} {fj : List Value} {postj : Nat → va_W → Prop} {host : String} (h1 : decode mi.2.1 pc = .ok (.aload_n 0, 1)) (h2 : decode mi.2.1 pc2 = .ok (.new idx, 3)) (h3 : decode mi.2.1 pc3 = .ok (.dup, 1)) (h4 : decode mi.2.1 pc4 = .ok (.invokespecial idx2, 3)) (h5 : decode mi.2.1 pc5 = .ok (.putfield idx3, 3))
    (e2 : pc + 1 = pc2) (e3 : pc2 + 3 = pc3) (e4 : pc3 + 1 = pc4) (e5 : pc4 + 3 = pc5) (e6 : pc5 + 3 = pc6) (hnw : cNw mi.1.cls idx cj N fj) (hwc : cWc mj) (hnl : Cond.methodLinkNest mi.1.cls idx2 mj.1 host ∈ eNest) (hj : ∀ q, Cn D ac dj mj ccj scj cj (postj q) 0 q fj []) (hdd : dj < d) (hm1 : mi.2.2.1 = 1)
    (hf : cFf mi.1.cls idx3 ci k ty) (hna : ∀ q, narrow ty (.ref q) = .ref q) (hfi : ∀ q, fits ty (.ref q) = true) (hk : k < fs.length)
    (kk : ∀ (q : Nat) (w : va_W), postj q w → Cn D ac d mi cc sc ci post pc6 h0 (fs.set k (.ref q)) (tl ++ w)) : Cn D ac d mi (cc + (1 + ccj)) (sc + (N + scj)) ci post pc h0 fs tl := by
  intro p l e R s m args below meth c H locs cells slots Q A ls C NN K Rm P Dd S hA L hend
  subst e2 e3 e4 e5 e6
  have hts := C.2.2.2.2
  obtain ⟨r1, r2, r3, r4⟩ := Rm
  obtain ⟨X, T, ty0, n1, n2, n3, n4, n5, n6, n7⟩ := hnw
  obtain ⟨w1, w2, w3, w4, w5, w6, w7, w8⟩ := hwc
  obtain ⟨X', T', NN', ty0', f1, f2, f3, f4, f5, f6, f7, f8, f9⟩ := hf
  refine lv_aload_n C.1 C.2.1 h1 rfl (lv_at L 0 rfl) ?_
  refine va_new (ci := cj) (fs := fj) C.1 C.2.1 hts n2 ty0 n3 C.2.2.2.1 (hts _ n4) (hts _ n5) (hts _ n6) K.1 P Dd S hA n1 n7 (by omega) (by omega) h2 (fun q H1 P1 D1 S1 => ?_)
  refine lv_dup C.1 C.2.1 h3 rfl ?_
  have hM := Cn.met (hj q) w4 w5 w6 w7 l H1.size
  have hFc : ∀ x, va_A [(q, .inr (cj, fj))] H1.size x → A x := by
    rintro x (⟨i, e', hi⟩ | hx)
    · have hi0 : i < 1 := (List.getElem?_eq_some_iff.mp hi).1
      rw [show i = 0 by omega] at hi
      cases hi
      exact D1.2 (tl.length + 1) (q, .inr (cj, fj)) (by simp)
    · exact hA _ (Nat.le_trans S1.1 hx)
  have P1q : va_P D vwCl [(q, .inr (cj, fj))] H1 := fun i x hx => by
    have hi0 : i < 1 := (List.getElem?_eq_some_iff.mp hx).1
    rw [show i = 0 by omega] at hx
    cases hx
    exact P1 (tl.length + 1) _ (by simp)
  have hwd : eWd mj = Cond.code mj.1 mj.2.1 mj.2.2.1 none :: eTb := by rw [← w7]
  refine va_callv (va_runIN (host := host) (As := []) (rest := [.ref q, .ref h0]) ⟨C.1, C.2.1, C.2.2.1, C.2.2.2.1, hts⟩ hM
    ⟨va_cnB 0 hts (eGood w1) hwd rfl rfl (K.2.1 _ hnl) (hts _ w2) w3 ⟨by show dj + 1 ≤ R.frames; omega, by show 8 + (mj.2.2.1 + 11) + 40 * dj ≤ R.locals; omega⟩, w5, hts _ w8⟩
    ⟨cPc_blind, fun U hU hW => ⟨rfl, by rw [hU], by rw [hU]; exact P1q, K.call hW⟩⟩ rfl rfl (by rw [L.1]; exact hm1.symm) rfl (lv_room (Nat.le_of_ble_eq_true rfl)) h4 ⟨by omega, by omega⟩) S1 (fun x _ h => hFc x h) hFc (fun w t H2 locs2 ht hvm hpost hB hz2 hk2 S2 => ?_)
  obtain ⟨Pw, Dw⟩ := hB
  rw [ht] at Pw
  obtain ⟨P3, D3⟩ := cJoin (rs := (h0, .inr (ci, fs)) :: tl) P1 D1 hk2 hFc Pw Dw
  refine va_putF (v := .ref q) C.1 C.2.1 hts f2 ty0' f5 f6 C.2.2.2.1 K.1 P3 D3 S2 0 rfl f1 k f3 (hts _ f4) (fun _ h => h) f7 NN f9 f8 (hna _) (hfi _) hk h5 (fun H3 locs3 P4 D4 S4 => ?_)
  refine kk q w hpost p l e R s m args below meth c H3 locs3 (cells + 1 + ccj) (slots + N + scj) Q A ls C NN K ⟨r1, r2, by omega, by omega⟩ P4 D4 S4 hA L (fun pc' H' locs' ls' ws' g1 g2 g3 g4 g5 => ?_)
  rw [show cells + 1 + ccj + cc = cells + (cc + (1 + ccj)) by omega, show slots + N + scj + sc = slots + (sc + (N + scj)) by omega]
  exact hend pc' H' locs' ls' ws' g1 g2 g3 g4 g5
/-- this.k[i] = v, an int row -/
theorem Cn.iast {pc2 pc3 pc4 pc5 pc6 len len2 k idx j n q : Nat} {v i : Int32} {f : Nat → Int32} (h1 : decode mi.2.1 pc = .ok (.aload_n 0, 1)) (h2 : decode mi.2.1 pc2 = .ok (.getfield idx, 3)) (h3 : cPush mi.2.1 pc3 len i) (h4 : cPush mi.2.1 pc4 len2 v) (h5 : decode mi.2.1 pc5 = .ok (.iastore, 1)) (e2 : pc + 1 = pc2) (e3 : pc2 + 3 = pc3) (e4 : pc3 + len = pc4) (e5 : pc4 + len2 = pc5) (e6 : pc5 + 1 = pc6)
    (hf : eFl mi.1.cls idx ci k) (hk : fs[k]? = some (.ref q)) (hj : tl[j]? = some (q, .inl (ac 0, n, .inl f))) (hin : vp_in i n)
    (kk : Cn D ac d mi cc sc ci post pc6 h0 fs (tl.set j (q, .inl (ac 0, n, .inl (upd f i.toNatClampNeg v))))) : Cn D ac d mi cc sc ci post pc h0 fs tl := by
  intro p l e R s m args below meth c H locs cells slots Q A ls C N K Rm P Dd S hA L hend
  subst e2 e3 e4 e5 e6
  have hts := C.2.2.2.2
  obtain ⟨X, T, NN, f1, f2, f3, f4⟩ := hf
  refine lv_aload_n C.1 C.2.1 h1 rfl (lv_at L 0 rfl) ?_
  refine va_get C.1 C.2.1 hts f2 C.2.2.2.1 K.1 P 0 rfl f1 k f3 (hts _ f4) (fun _ h => h) hk h2 ?_
  refine h3.run C.1 C.2.1 ?_
  refine h4.run C.1 C.2.1 ?_
  refine va_iast C.1 C.2.1 K.1 P Dd S (j + 1) 0 hj rfl hin h5 (fun H1 locs1 P1 D1 S1 => ?_)
  exact kk p l e R s m args below meth c H1 locs1 cells slots Q A ls C N K Rm P1 D1 S1 hA L hend
end CO
