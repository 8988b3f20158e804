/-! THE LAW'S RULES: a call in one of the two systems, the other stands; an argument out of the script. -/
def lwA (s : State) : Nat → Prop := fun q => s.heap.size ≤ q
def lPart (D : va_G) (ac : Nat → ClassId) (lay : List eLC) (ad : Nat → Nat) (s : State) : Prop := eKs D ac ad (lwA s) s ∧ ∀ M, va_D (lwA s) (eWs lay ac ad M)
def lApart (lay lay2 : List eLC) (ad ad2 : Nat → Nat) : Prop := ∀ i, i < lay.length → ∀ j, j < lay2.length → ad i ≠ ad2 j
section LAW
variable {p : Program} {l : Launch} {e : Env} {s : State} {m : MethodId} {below : List Frame} {meth : Method} {c : Code} {b L : Nat} {xs : Nat → Int32} {H : Heap} {locs : List Loc} {cells slots : Nat} {Q : State → Prop} {D : va_G} {ac : Nat → ClassId} {ls : Array Slot} {pc : Nat} {st : List Value} {i : Int32}
theorem lCall {lay lay2 : List eLC} {ad ad2 : Nat → Nat} {M M2 M' : eMem} {idx n d' z ci : Nat} {mj : eM} {as stk : List Value} {lvj : List (Option Value)} {fs : List (Option Nat)} {X : String} {T : u_T} {N : Nat} {rv : Value}
    (hx : p.tables.exec = Jvm.exec) (hb : c.code = code) (hml : c.maxLocals = 4) (hown : s.vm.findClass R_law = some m.cls) (hts : ∀ w ∈ eTb, w.before #[Value.ref b] s = true) (hc1 : cells ≤ 600000) (hc2 : slots ≤ 7302250)
    (K : lPart D ac lay ad s) (ap : lApart lay lay2 ad ad2) (P : va_P D vwCl (eWs lay ac ad M) H) (P2 : va_P D vwCl (eWs lay2 ac ad2 M2) H) (S : va_S (lwA s) s.heap H locs) (hls : ls.size = 4)
    (hd : decode code pc = .ok (.invokevirtual idx, 3)) (hw : eWc mj n) (hl : Cond.methodLink R_law idx mj.1 ∈ eTb) (hin : Cond.instanceMethod mj.1 ∈ eTb) (hse : Cond.selects mj.1.cls mj.1 mj.1 ∈ eTb) (hlay : lay[0]? = some (.inr (.inr (ci, fs)))) (hcl : vwCl[ci]? = some (X, T, N)) (hX : X = mj.1.cls)
    (hj : Ev lay d' mj 0 lvj [] M (some rv, M')) (hrv : eV ad rv = rv) (hlv : eEnt (.ref 0 :: as) ++ List.replicate z none = lvj) (hz : (eEnt (.ref 0 :: as)).length + z = mj.2.2.1) (hdd : d' < 13) (hn : as.length = n) (has : as.map (eV ad) = as) (hst : stk = as.reverse ++ .ref (ad 0) :: st) (hcat : (st.map fun v => v.category).sum ≤ 8)
    (kk : ∀ (H' : Heap) (locs' : List Loc), va_P D vwCl (eWs lay ac ad M') H' → va_P D vwCl (eWs lay2 ac ad2 M2) H' → va_S (lwA s) s.heap H' locs' → W p l e room_1 s m #[Value.ref b] below meth c H' locs' cells slots Q (F0 m (pc + 3) ls (rv :: st))) :
    W p l e room_1 s m #[Value.ref b] below meth c H locs cells slots Q (F0 m pc ls stk) := by
  subst hlv hst hX
  have hM := Ev.met hj hw.2.2.2.1 hz l D ac ad
  have Rm : eRm room_1 13 cells slots := ⟨by decide, by decide, hc1, hc2⟩
  have Dd := K.2 M
  have hr := va_runV (C := mj.1.cls) (b := ad 0) (As := as) (rest := st) (g := F0 m pc ls (as.reverse ++ .ref (ad 0) :: st)) (p := p) (below := below) (meth := meth) (e := e) (locs := locs) (cells := cells) (slots := slots) (H := H) ⟨hx, hb, hml, hown, hts⟩ hM ⟨eCallB hw hl hdd Rm hts, hts _ hin, hts _ hse⟩
    ⟨ePc_blind, va_recv K.1.1 P hcl (eWs_get hlay), fun U hU hW => ⟨by rw [List.map_cons, has]; rfl, by rw [hU]; exact P, eWs_D Dd (fun _ h => h), K.1.call S hU hW (eWs_A Dd)⟩⟩ rfl hn hls rfl (lv_room hcat) hd ⟨hc1, hc2⟩
  intro T0 hT X0
  obtain ⟨v, st₀, t, T', L', h0, X', hL, e1, e2, ⟨⟨ho, hP⟩, hz2, hk⟩, stp⟩ := hr T0 hT X0
  have hfree := eWs_A Dd
  cases ho
  rw [h0] at hz2 hk
  have S' : va_S (lwA s) s.heap T'.heap (locs ++ L') := ⟨Nat.le_trans S.1 (by rw [e1]; exact hz2), fun q h1 h2 => by rw [e1, hk q (Nat.lt_of_lt_of_le h1 S.1) (fun z => h2 (hfree q z))]; exact S.2.1 q h1 h2, fun q hq => by
      rcases List.mem_append.mp hq with h | h
      · exact S.2.2 q h
      · exact hfree _ (hL q h)⟩
  have P2' : va_P D vwCl (eWs lay2 ac ad2 M2) T'.heap := P2.kept (fun k x hx => by
    rw [e1]
    refine hk x.1 (P2 k x hx).lt (fun hA => ?_)
    obtain ⟨j, hj, hq⟩ := hA
    obtain ⟨h1, h2⟩ := eWs_addr hx
    exact ap j hj k h1 (by rw [← hq, h2]))
  obtain ⟨t2, a1, b1⟩ := kk T'.heap (locs ++ L') (by rw [e1]; exact hP) P2' S' T' rfl X'
  refine ⟨t2, stp t2 ?_, b1⟩
  simp only [Option.map_some, hrv]
  exact a1
theorem lRead {n : Int} {v : Int32} (hx : p.tables.exec = Jvm.exec) (hb : c.code = code) (hX : va_X b L xs s s.heap) (hbl : b < s.heap.size) (S : va_S (lwA s) s.heap H locs) (l0 : ls[0]? = some (.val (.ref b))) (l3 : ls[3]? = some (.val (.int i)))
    (h1 : decode code pc = .ok (.aload_n 0, 1)) (h2 : decode code (pc + 1) = .ok (.iload_n 3, 1)) (h3 : decode code (pc + 2) = .ok (.iconst n, 1)) (hv : Int32.ofInt n = v) (h4 : decode code (pc + 3) = .ok (.iadd, 1)) (h5 : decode code (pc + 4) = .ok (.iaload, 1)) (hin : vp_in (i + v) L)
    (kk : W p l e room_1 s m #[Value.ref b] below meth c H locs cells slots Q (F0 m (pc + 5) ls (.int (xs (i + v).toNatClampNeg) :: st))) : W p l e room_1 s m #[Value.ref b] below meth c H locs cells slots Q (F0 m pc ls st) := by
  refine lv_aload_n hx hb h1 rfl l0 ?_
  refine lv_iload_n hx hb h2 rfl l3 ?_
  refine lv_iconst hx hb h3 hv ?_
  refine lv_iadd hx hb h4 ?_
  exact va_sld hx hb hX hbl (Nat.not_le.mpr hbl) S hin h5 kk
def bz (x : Int32) : Int32 := if x = 0 then 0 else 1
theorem bz_01 (x : Int32) : bz x = 0 ∨ bz x = 1 := by
  unfold bz
  split
  · exact Or.inl rfl
  · exact Or.inr rfl
theorem lBool {x : Int32} (hx : p.tables.exec = Jvm.exec) (hb : c.code = code) (h1 : decode code pc = .ok (.ifCond .eq 7, 3)) (h2 : decode code (pc + 3) = .ok (.iconst 1, 1)) (h3 : decode code (pc + 4) = .ok (.goto 4, 3)) (h4 : decode code (pc + 7) = .ok (.iconst 0, 1))
    (kk : W p l e room_1 s m #[Value.ref b] below meth c H locs cells slots Q (F0 m (pc + 8) ls (.int (bz x) :: st))) : W p l e room_1 s m #[Value.ref b] below meth c H locs cells slots Q (F0 m pc ls (.int x :: st)) := by
  refine lv_if_eq (tgt := pc + 7) hx hb h1 (by omega) (fun h => ?_) (fun h => ?_)
  · refine lv_iconst (v := 0) hx hb h4 rfl ?_
    rw [show bz x = 0 from if_pos h] at kk
    exact kk
  · refine lv_iconst (v := 1) hx hb h2 rfl ?_
    refine lv_goto (tgt := pc + 8) hx hb h3 (by omega) ?_
    rw [show bz x = 1 from if_neg h] at kk
    exact kk
/-- all that stands fixed while the law runs -/
def LX (p : Program) (s : State) (m : MethodId) (meth : Method) (c : Code) (b L : Nat) (xs : Nat → Int32) (cells slots : Nat) (D : va_G) (ac : Nat → ClassId) (adC adR : Nat → Nat) : Prop :=
  (p.tables.exec = Jvm.exec ∧ c.code = code ∧ c.maxLocals = 4 ∧ s.vm.findClass R_law = some m.cls ∧ (∀ w ∈ eTb, w.before #[Value.ref b] s = true)) ∧ (va_X b L xs s s.heap ∧ b < s.heap.size) ∧ (cells ≤ 600000 ∧ slots ≤ 7302250) ∧ lPart D ac layC adC s ∧ lPart D ac layR adR s ∧ lApart layC layR adC adR ∧ lApart layR layC adR adC
/-- at pc, with i ints read, the two systems stand in relation -/
def LAt (p : Program) (l : Launch) (e : Env) (s : State) (m : MethodId) (below : List Frame) (meth : Method) (c : Code) (b : Nat) (cells slots : Nat) (Q : State → Prop) (D : va_G) (ac : Nat → ClassId) (adC adR : Nat → Nat) (pc : Nat) (i : Int32) (C R : eMem) : Prop :=
  ∀ (H : Heap) (locs : List Loc) (ls : Array Slot), va_P D vwCl (eWs layC ac adC C) H → va_P D vwCl (eWs layR ac adR R) H → va_S (lwA s) s.heap H locs → lv_has ls 4 [(0, .ref b), (1, .ref (adC 0)), (2, .ref (adR 0)), (3, .int i)] →
    W p l e room_1 s m #[Value.ref b] below meth c H locs cells slots Q (F0 m pc ls [])
end LAW
