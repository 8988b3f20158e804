/-! CONSTRUCTORS: the world is the object and, behind it, what was made for it, in the order of making. -/
def cKs (D : va_G) (ac : Nat → ClassId) (s : State) : Prop :=
  va_K D vwCl (eTy ac) s ∧ (∀ w ∈ eNest, va_Nw w s) ∧ (∃ k : Class, s.vm.classes[ac 4]? = some k ∧ k.kind = .array (ac 0) (.array .int)) ∧ (∃ k : Class, s.vm.classes[ac 5]? = some k ∧ k.kind = .array (ac 1) (.array .long))
theorem cKind_moved {u U : State} (hvm : u.vm.Alike U.vm) {a : ClassId} {x : ClassId} {ty : FieldType} (h : ∃ k : Class, u.vm.classes[a]? = some k ∧ k.kind = .array x ty) : ∃ k : Class, U.vm.classes[a]? = some k ∧ k.kind = .array x ty := by
  obtain ⟨k, h1, h2⟩ := h
  obtain ⟨k', hk', he⟩ := hvm.2.2 _ _ h1
  exact ⟨k', hk', by rw [he]; exact h2⟩
theorem cKs.call {D : va_G} {ac : Nat → ClassId} {s U : State} (h : cKs D ac s) (hW : s.WarmedH U.vm) : cKs D ac U :=
  ⟨va_K.moved hW.alike h.1, fun w hw => eNest_warm hw hW (h.2.1 w hw), cKind_moved hW.alike h.2.2.1, cKind_moved hW.alike h.2.2.2⟩
theorem cKs.blind {D : va_G} {ac : Nat → ClassId} {U : State} {g : JFrame} {mk : MethodId} {a : Array Value} (h : cKs D ac U) : cKs D ac (U.calling g mk a) :=
  ⟨va_K.moved (u := U) (U := U.calling g mk a) (Vm.Alike.refl U.vm) h.1, fun w hw => eNest_same hw (h.2.1 w hw), cKind_moved (u := U) (U := U.calling g mk a) (Vm.Alike.refl U.vm) h.2.2.1, cKind_moved (u := U) (U := U.calling g mk a) (Vm.Alike.refl U.vm) h.2.2.2⟩
def cRm (R : Room) (d cells slots cc sc : Nat) : Prop := d ≤ R.frames ∧ 40 * d ≤ R.locals ∧ cells + cc ≤ R.cells ∧ slots + sc ≤ R.slots
def Cn (D : va_G) (ac : Nat → ClassId) (d : Nat) (mi : eM) (cc sc ci : Nat) (post : va_W → Prop) (pc h0 : Nat) (fs : List Value) (tl : va_W) : Prop :=
  ∀ (p : Program) (l : Launch) (e : Env) (R : Room) (s : State) (m : MethodId) (args : Array Value) (below : List Frame) (meth : Method) (c : Code) (H : Heap) (locs : List Loc) (cells slots : Nat) (Q : State → Prop) (A : Nat → Prop) (ls : Array Slot),
    eCx p s m args c mi → meth.name = "<init>" → cKs D ac s → cRm R d cells slots cc sc →
    va_P D vwCl ((h0, .inr (ci, fs)) :: tl) H → va_D A ((h0, .inr (ci, fs)) :: tl) → va_S A s.heap H locs → (∀ q, s.heap.size ≤ q → A q) → lv_has ls 1 [(0, .ref h0)] →
    (∀ (pc' : Nat) (H' : Heap) (locs' : List Loc) (ls' : Array Slot) (ws' : va_W), decode mi.2.1 pc' = .ok (.return_, 1) → post ws' → va_P D vwCl ws' H' → va_D A ws' → va_S A s.heap H' locs' →
      W p l e R s m args below meth c H' locs' (cells + cc) (slots + sc) Q (F0 m pc' ls' [])) →
    W p l e R s m args below meth c H locs cells slots Q (F0 m pc ls [])
def cPush (cc : ByteArray) (pc len : Nat) (v : Int32) : Prop :=
  (∃ n : Int, decode cc pc = .ok (.iconst n, 1) ∧ Int32.ofInt n = v ∧ len = 1) ∨ (∃ n : Int, decode cc pc = .ok (.bipush n, 2) ∧ (Int8.ofInt n).toInt32 = v ∧ len = 2) ∨ (∃ n : Int, decode cc pc = .ok (.sipush n, 3) ∧ (Int16.ofInt n).toInt32 = v ∧ len = 3)
section CNS
variable {p : Program} {l : Launch} {e : Env} {R : Room} {s : State} {m : MethodId} {args : Array Value} {below : List Frame} {meth : Method} {c : Code} {H : Heap} {locs : List Loc} {cells slots : Nat} {Q : State → Prop} {ls : Array Slot} {rest : List Value} {pc : Nat}
theorem cPush.run {cc : ByteArray} {len : Nat} {v : Int32} (h : cPush cc pc len v) (hx : p.tables.exec = Jvm.exec) (hb : c.code = cc) (k : W p l e R s m args below meth c H locs cells slots Q (F0 m (pc + len) ls (.int v :: rest))) : W p l e R s m args below meth c H locs cells slots Q (F0 m pc ls rest) := by
  rcases h with ⟨n, h1, h2, rfl⟩ | ⟨n, h1, h2, rfl⟩ | ⟨n, h1, h2, rfl⟩
  · exact lv_iconst hx hb h1 h2 k
  · exact lv_bipush hx hb h1 h2 k
  · exact lv_sipush hx hb h1 h2 k
end CNS
section CN
variable {D : va_G} {ac : Nat → ClassId} {d : Nat} {mi : eM} {cc sc ci : Nat} {post : va_W → Prop} {pc h0 : Nat} {fs : List Value} {tl : va_W}
theorem Cn.ret (hd : decode mi.2.1 pc = .ok (.return_, 1)) (hp : post ((h0, .inr (ci, fs)) :: tl)) : Cn D ac d mi 0 0 ci post pc h0 fs tl :=
  fun p l e R s m args below meth c H locs cells slots Q A ls C N K Rm P Dd S hA L hend => hend pc H locs ls _ hd hp P Dd S
theorem Cn.super {idx : Nat} (h1 : decode mi.2.1 0 = .ok (.aload_n 0, 1)) (h2 : decode mi.2.1 1 = .ok (.invokespecial idx, 3)) (hl : Cond.methodLink mi.1.cls idx Lib.objectInit ∈ eTb) (hin : Cond.instanceMethod Lib.objectInit ∈ eTb) (hco : Cond.code Lib.objectInit ⟨#[0xb1]⟩ 1 none ∈ eTb) (hm : mi.2.2.1 = 1) (hdd : 1 ≤ d)
    (k : Cn D ac d mi cc sc ci post 4 h0 fs tl) : Cn D ac d mi cc sc ci post 0 h0 fs tl := by
  intro p l e R s m args below meth c H locs cells slots Q A ls C N K Rm P Dd S hA L hend
  have hts := C.2.2.2.2
  refine lv_aload_n C.1 C.2.1 h1 rfl (lv_at L 0 rfl) ?_
  refine W.objInit C.1 C.2.1 C.2.2.2.1 (hts _ hl) (hts _ hin) (hts _ hco) rfl (by rw [C.2.2.1, hm]; exact L.1) rfl h2 (by have := Rm.1; omega) (by show 0 + 12 ≤ R.locals; have := Rm.2.1; omega) ?_
  exact W.eq (g2 := F0 m 4 ls []) rfl (k p l e R s m args below meth c H locs cells slots Q A ls C N K Rm P Dd S hA L hend)
/-- what the tables say of a final field -/
def cFf (own : String) (idx ci k : Nat) (ty : FieldType) : Prop := ∃ (X : String) (T : u_T) (N : Nat) (ty0 : Nat → FieldType), vwCl[ci]? = some (X, T, N) ∧ (∀ w ∈ u_ws X T N, w ∈ eTb) ∧ k < N ∧ Cond.fieldLink own idx (T k).1 (T k).2.1 (T k).2.2.1 ∈ eTb ∧ (∀ k, k < N → parseFieldDescriptor (T k).2.2.1 = some (ty0 k)) ∧ (∀ a, a < N → ∀ b, b < N → a ≠ b → (T a).2.1 ≠ (T b).2.1) ∧ (T k).2.2.2 = true ∧ parseFieldDescriptor (T k).2.2.1 = some ty ∧ (T k).1 = own
def cEl : Nat → FieldType
  | 0 => .int
  | 1 => .long
  | 2 => .boolean
  | _ => .byte
def cZ : Nat → ((Nat → Int32) ⊕ (Nat → Int64) ⊕ (Nat → UInt32) ⊕ (Nat → UInt64) ⊕ (Nat → Option Nat))
  | 1 => .inr (.inl fun _ => 0)
  | _ => .inl fun _ => 0
theorem cZ_new {t n : Nat} (ht : t < 4) (cA : ClassId) : vp_cell cA (n, cZ t) = arrV cA n (fun _ => defaultValue (cEl t)) := by
  rcases (show t = 0 ∨ t = 1 ∨ t = 2 ∨ t = 3 by omega) with rfl | rfl | rfl | rfl <;> rfl
theorem cTy {D : va_G} {s : State} (h : cKs D ac s) {t : Nat} (ht : t < 4) : ArrOfT s (ac t) (cEl t) ∧ s.vm.findClass ("[" ++ (cEl t).toString) = some (ac t) := by
  rcases (show t = 0 ∨ t = 1 ∨ t = 2 ∨ t = 3 by omega) with rfl | rfl | rfl | rfl
  · exact h.1.2 0 _ rfl
  · exact h.1.2 1 _ rfl
  · exact h.1.2 2 _ rfl
  · exact h.1.2 3 _ rfl
/-- this.k = new t[n] -/
theorem Cn.arr {pc2 pc3 pc4 len n t k idx : Nat} {v : Int32} {at_ : ArrayType} {ty : FieldType} (h1 : decode mi.2.1 pc = .ok (.aload_n 0, 1)) (h2 : cPush mi.2.1 (pc + 1) len v) (h3 : decode mi.2.1 pc2 = .ok (.newarray at_, 2)) (h4 : decode mi.2.1 pc3 = .ok (.putfield idx, 3)) (e2 : pc + 1 + len = pc2) (e3 : pc2 + 2 = pc3) (e4 : pc3 + 3 = pc4)
    (ht : t < 4) (hty : newarray.typeOf at_ = cEl t) (hw : Cond.arrayClass (cEl t) ∈ eTb) (hv : ¬ v < 0) (hn : v.toNatClampNeg = n) (hb : n * componentBytes (cEl t) ≤ 536870912) (hf : cFf mi.1.cls idx ci k ty) (hna : ∀ q, narrow ty (.ref q) = .ref q) (hfi : ∀ q, fits ty (.ref q) = true) (hk : k < fs.length)
    (kk : ∀ q : Nat, Cn D ac d mi cc sc ci post pc4 h0 (fs.set k (.ref q)) (tl ++ [(q, .inl (ac t, n, cZ t))])) : Cn D ac d mi (cc + 1) (sc + n) ci post pc h0 fs tl := by
  intro p l e R s m args below meth c H locs cells slots Q A ls C N K Rm P Dd S hA L hend
  subst e2 e3 e4
  have hts := C.2.2.2.2
  obtain ⟨X, T, NN, ty0, f1, f2, f3, f4, f5, f6, f7, f8, f9⟩ := hf
  obtain ⟨r1, r2, r3, r4⟩ := Rm
  refine lv_aload_n C.1 C.2.1 h1 rfl (lv_at L 0 rfl) ?_
  refine h2.run C.1 C.2.1 ?_
  refine va_newaK (N := n) (h := H.size) C.1 C.2.1 (by rw [hty]; exact hts _ hw) rfl h3 rfl hv hn (by rw [hty]; exact hb) (by omega) (by omega) rfl (fun H1 cA e1 z1 o1 hAr hNm => ?_)
  obtain ⟨hAc, hNc⟩ := cTy K ht
  rw [hty] at e1 hNm
  cases hNc.symm.trans hNm
  have hkp : ∀ (j : Nat) (x : Nat × va_E), ((h0, .inr (ci, fs)) :: tl)[j]? = some x → H1[x.1]? = H[x.1]? := fun j x hx => o1 x.1 ((P j x hx).lt)
  have P1 : va_P D vwCl (((h0, .inr (ci, fs)) :: tl) ++ [(H.size, .inl (ac t, n, cZ t))]) H1 := (P.kept hkp).app (fun j x hx => by
    have hz : j < 1 := (List.getElem?_eq_some_iff.mp hx).1
    rw [show j = 0 by omega] at hx
    cases hx
    show H1[H.size]? = some (vp_cell _ _)
    rw [e1, cZ_new ht])
  have D1 := Dd.push (e := .inl (ac t, n, cZ t)) P rfl (hA _ S.1)
  have S1 : va_S A s.heap H1 locs := ⟨Nat.le_trans S.1 (by omega), fun x g1 g2 => (o1 x (Nat.lt_of_lt_of_le g1 S.1)).trans (S.2.1 x g1 g2), S.2.2⟩
  refine va_putF (v := .ref H.size) C.1 C.2.1 hts f2 ty0 f5 f6 C.2.2.2.1 K.1 P1 D1 S1 0 rfl f1 k f3 (hts _ f4) (fun _ h => h) f7 N f9 f8 (hna _) (hfi _) hk h4 (fun H2 locs2 P2 D2 S2 => ?_)
  refine kk H.size p l e R s m args below meth c H2 locs2 (cells + 1) (slots + n) Q A ls C N K ⟨r1, r2, by omega, by omega⟩ P2 D2 S2 hA L (fun pc' H' locs' ls' ws' g1 g2 g3 g4 g5 => ?_)
  rw [show cells + 1 + cc = cells + (cc + 1) by omega, show slots + n + sc = slots + (sc + n) by omega]
  exact hend pc' H' locs' ls' ws' g1 g2 g3 g4 g5
/-- this.k = v, not final -/
theorem Cn.int {pc2 pc3 len k idx : Nat} {v : Int32} {ty : FieldType} (h1 : decode mi.2.1 pc = .ok (.aload_n 0, 1)) (h2 : cPush mi.2.1 (pc + 1) len v) (h4 : decode mi.2.1 pc2 = .ok (.putfield idx, 3)) (e2 : pc + 1 + len = pc2) (e3 : pc2 + 3 = pc3)
    (hf : eFp mi.1.cls idx ci k ty) (hna : narrow ty (.int v) = .int v) (hfi : fits ty (.int v) = true) (hk : k < fs.length)
    (kk : Cn D ac d mi cc sc ci post pc3 h0 (fs.set k (.int v)) tl) : Cn D ac d mi cc sc ci post pc h0 fs tl := by
  intro p l e R s m args below meth c H locs cells slots Q A ls C N K Rm P Dd S hA L hend
  subst e2 e3
  have hts := C.2.2.2.2
  obtain ⟨X, T, NN, ty0, f1, f2, f3, f4, f5, f6, f7, f8⟩ := hf
  refine lv_aload_n C.1 C.2.1 h1 rfl (lv_at L 0 rfl) ?_
  refine h2.run C.1 C.2.1 ?_
  refine va_put (v := .int v) C.1 C.2.1 hts f2 ty0 f5 f6 C.2.2.2.1 K.1 P Dd S 0 rfl f1 k f3 (hts _ f4) (fun _ h => h) f7 f8 hna hfi hk h4 (fun H2 locs2 P2 D2 S2 => ?_)
  exact kk p l e R s m args below meth c H2 locs2 cells slots Q A ls C N K Rm P2 D2 S2 hA L hend
/-- this.k = new t[n][z] -/
theorem Cn.grid {pc2 pc3 pc4 pc5 len len2 n z t t2 k idx idx2 : Nat} {v w : Int32} {ty el : FieldType} (h1 : decode mi.2.1 pc = .ok (.aload_n 0, 1)) (h2 : cPush mi.2.1 (pc + 1) len v) (h3 : cPush mi.2.1 pc2 len2 w) (h4 : decode mi.2.1 pc3 = .ok (.multianewarray idx2 2, 4)) (h5 : decode mi.2.1 pc4 = .ok (.putfield idx, 3)) (e2 : pc + 1 + len = pc2) (e3 : pc2 + len2 = pc3) (e4 : pc3 + 4 = pc4) (e5 : pc4 + 3 = pc5)
    (ht : (t = 0 ∧ t2 = 4 ∧ el = .int) ∨ (t = 1 ∧ t2 = 5 ∧ el = .long)) (hw : Cond.classLink mi.1.cls idx2 ("[" ++ (FieldType.array el).toString) ∈ eTb) (hv : ¬ v < 0) (hn : v.toNatClampNeg = n) (hv2 : ¬ w < 0) (hz : w.toNatClampNeg = z) (hnb : n ≤ 1000) (hzb : z ≤ 1000) (hf : cFf mi.1.cls idx ci k ty) (hna : ∀ q, narrow ty (.ref q) = .ref q) (hfi : ∀ q, fits ty (.ref q) = true) (hk : k < fs.length)
    (kk : ∀ q : Nat, Cn D ac d mi cc sc ci post pc5 h0 (fs.set k (.ref q)) (tl ++ (q, .inl (ac t2, n, .inr (.inr (.inr (.inr (fun j => if j < n then some (q + 1 + j) else none)))))) :: (List.range n).map (fun j => (q + 1 + j, .inl (ac t, z, cZ t))))) : Cn D ac d mi (cc + (1 + n)) (sc + (n + n * z)) ci post pc h0 fs tl := by
  intro p l e R s m args below meth c H locs cells slots Q A ls C N K Rm P Dd S hA L hend
  subst e2 e3 e4 e5
  have hts := C.2.2.2.2
  obtain ⟨X, T, NN, ty0, f1, f2, f3, f4, f5, f6, f7, f8, f9⟩ := hf
  obtain ⟨r1, r2, r3, r4⟩ := Rm
  have ht4 : t < 4 := by rcases ht with ⟨a, -, -⟩ | ⟨a, -, -⟩ <;> omega
  have hel : cEl t = el := by rcases ht with ⟨a, -, b⟩ | ⟨a, -, b⟩ <;> rw [a, b] <;> rfl
  obtain ⟨hAc, hNc⟩ := cTy K ht4
  rw [hel] at hAc hNc
  obtain ⟨-, kI, hkI, cx, hkindI⟩ := hAc 0 (fun _ => .null)
  have hA2 : (∃ kA : Class, s.vm.classes[ac t2]? = some kA ∧ kA.kind = .array (ac t) (.array el)) ∧ s.vm.findClass ("[" ++ (FieldType.array el).toString) = some (ac t2) := by
    rcases ht with ⟨rfl, rfl, rfl⟩ | ⟨rfl, rfl, rfl⟩
    · exact ⟨K.2.2.1, (K.1.2 4 _ rfl).2⟩
    · exact ⟨K.2.2.2, (K.1.2 5 _ rfl).2⟩
  obtain ⟨⟨kA, hkA, hkindA⟩, hname⟩ := hA2
  refine lv_aload_n C.1 C.2.1 h1 rfl (lv_at L 0 rfl) ?_
  refine h2.run C.1 C.2.1 ?_
  refine h3.run C.1 C.2.1 ?_
  have hcb : componentBytes el ≤ 8 := by rcases ht with ⟨-, -, rfl⟩ | ⟨-, -, rfl⟩ <;> decide
  have hb2 : z * componentBytes el ≤ 536870912 := Nat.le_trans (Nat.mul_le_mul hzb hcb) (by decide)
  have hdf : fits el (defaultValue el) = true := by rcases ht with ⟨-, -, rfl⟩ | ⟨-, -, rfl⟩ <;> rfl
  have hdd : (defaultValue el).isDefault = true := by rcases ht with ⟨-, -, rfl⟩ | ⟨-, -, rfl⟩ <;> rfl
  refine gGrid (N := n) (M := z) C.1 C.2.1 C.2.2.2.1 (hts _ hw) hname hkA hkindA hkI hkindI h4 hn hz hv hv2 (by omega) hb2 (by omega) hdf hdd (by omega) (by omega) (fun H1 locs1 z1 o1 w1 b1 q1 => ?_)
  have hkp : ∀ (j : Nat) (x : Nat × va_E), ((h0, .inr (ci, fs)) :: tl)[j]? = some x → H1[x.1]? = H[x.1]? := fun j x hx => b1 x.1 ((P j x hx).lt)
  have P0 : va_P D vwCl ((H.size, .inl (ac t2, n, .inr (.inr (.inr (.inr (fun j => if j < n then some (H.size + 1 + j) else none)))))) :: (List.range n).map (fun j => (H.size + 1 + j, .inl (ac t, z, cZ t)))) H1 := by
    intro j x hx
    match j, hx with
    | 0, hx =>
      cases hx
      show H1[H.size]? = some (vp_cell (ac t2) (n, _))
      rw [vp_cell_q, o1]
      congr 2
      funext j
      unfold gF
      split <;> rfl
    | j + 1, hx =>
      rw [List.getElem?_cons_succ, List.getElem?_map, Option.map_eq_some_iff] at hx
      obtain ⟨y, hy, rfl⟩ := hx
      obtain ⟨hj, hy⟩ := List.getElem?_eq_some_iff.mp hy
      rw [List.getElem_range] at hy
      subst hy
      rw [List.length_range] at hj
      show H1[H.size + 1 + j]? = some (vp_cell _ _)
      rw [w1 j hj, cZ_new ht4, hel]
  have P1 := (P.kept hkp).app P0
  have D1 : va_D A (((h0, .inr (ci, fs)) :: tl) ++ ((H.size, .inl (ac t2, n, .inr (.inr (.inr (.inr (fun j => if j < n then some (H.size + 1 + j) else none)))))) :: (List.range n).map (fun j => (H.size + 1 + j, .inl (ac t, z, cZ t))))) := by
    have key : ∀ (i : Nat) (x : Nat × va_E), (((h0, .inr (ci, fs)) :: tl) ++ ((H.size, .inl (ac t2, n, .inr (.inr (.inr (.inr (fun j => if j < n then some (H.size + 1 + j) else none)))))) :: (List.range n).map (fun j => (H.size + 1 + j, .inl (ac t, z, cZ t)))))[i]? = some x → (i < tl.length + 1 ∧ ((h0, .inr (ci, fs)) :: tl)[i]? = some x ∧ x.1 < H.size) ∨ (tl.length + 1 ≤ i ∧ x.1 = H.size + (i - (tl.length + 1))) := by
      intro i x hx
      by_cases hi : i < ((h0, Sum.inr (ci, fs)) :: tl : va_W).length
      · rw [List.getElem?_append_left hi] at hx
        exact Or.inl ⟨by simpa using hi, hx, (P i x hx).lt⟩
      · rw [List.getElem?_append_right (by omega)] at hx
        simp only [List.length_cons, Nat.not_lt] at hi hx
        refine Or.inr ⟨hi, ?_⟩
        generalize i - (tl.length + 1) = j at hx
        match j, hx with
        | 0, hx => cases hx; rfl
        | j + 1, hx =>
          rw [List.getElem?_cons_succ, List.getElem?_map, Option.map_eq_some_iff] at hx
          obtain ⟨y, hy, rfl⟩ := hx
          obtain ⟨hj, hy⟩ := List.getElem?_eq_some_iff.mp hy
          rw [List.getElem_range] at hy
          subst hy
          show H.size + 1 + j = H.size + (j + 1)
          omega
    refine ⟨fun i j x y hx hy hxy => ?_, fun i x hx => ?_⟩
    · rcases key i x hx with ⟨a1, a2, a3⟩ | ⟨a1, a2⟩ <;> rcases key j y hy with ⟨g1, g2, g3⟩ | ⟨g1, g2⟩
      · exact Dd.1 i j x y a2 g2 hxy
      · omega
      · omega
      · omega
    · rcases key i x hx with ⟨a1, a2, a3⟩ | ⟨a1, a2⟩
      · exact Dd.2 i x a2
      · rw [a2]; exact hA _ (Nat.le_trans S.1 (Nat.le_add_right _ _))
  have S1 : va_S A s.heap H1 locs1 := ⟨Nat.le_trans S.1 (by omega), fun x g1 g2 => (b1 x (Nat.lt_of_lt_of_le g1 S.1)).trans (S.2.1 x g1 g2), fun y hy => by
    rcases q1 y hy with g | g
    · exact S.2.2 y g
    · rw [g]; exact hA _ S.1⟩
  refine va_putF (v := .ref H.size) C.1 C.2.1 hts f2 ty0 f5 f6 C.2.2.2.1 K.1 P1 D1 S1 0 rfl f1 k f3 (hts _ f4) (fun _ h => h) f7 N f9 f8 (hna _) (hfi _) hk h5 (fun H2 locs2 P2 D2 S2 => ?_)
  refine kk H.size p l e R s m args below meth c H2 locs2 (cells + (1 + n)) (slots + (n + n * z)) Q A ls C N K ⟨r1, r2, by omega, by omega⟩ P2 D2 S2 hA L (fun pc' H' locs' ls' ws' g1 g2 g3 g4 g5 => ?_)
  rw [show cells + (1 + n) + cc = cells + (cc + (1 + n)) by omega, show slots + (n + n * z) + sc = slots + (sc + (n + n * z)) by omega]
  exact hend pc' H' locs' ls' ws' g1 g2 g3 g4 g5
end CN
