/-! the walk from the law's entry -/
theorem eWs_cong {lay : List eLC} {ac : Nat → ClassId} {ad aj : Nat → Nat} {M : eMem} (hb : lay.all (eBd lay.length) = true) (hs : lay.map (eSh 0) = lay) (ha : ∀ p, p < lay.length → ad p = aj p) : eWs lay ac aj M = eWs lay ac ad M := by
  have h := wKid (ac := ac) (ad := ad) (M := M) (k := 0) (k' := lay.length) (layj := lay) (lay := []) (aj := aj) (Mj := M) (w := []) hb (by omega) (fun p hp => by rw [Nat.zero_add]; exact ha p hp) (fun p _ => by rw [Nat.zero_add]) (fun p _ => by rw [Nat.zero_add]) rfl
  rw [List.append_nil, List.append_nil, hs, ← eWs_eWF] at h
  exact h
theorem bd_C : layC.all (eBd layC.length) = true ∧ layC.map (eSh 0) = layC ∧ layC.length = 156 := by decide +kernel
theorem bd_R : layR.all (eBd layR.length) = true ∧ layR.map (eSh 0) = layR ∧ layR.length = 16 := by decide +kernel
theorem lw_nw9 : cNw R_law 7 9 6 [.null, .null, .int 0, .null, .null, .null] := ⟨_, _, tyX9, rfl, ein_9, tyX9_ok, eTb_t 20 (by decide +kernel) rfl, eTb_t 21 (by decide +kernel) rfl, eTb_t 1 (by decide +kernel) rfl, by decide +kernel⟩
theorem lw_nw10 : cNw R_law 10 10 22 [.null, .null, .int 0, .int 0, .null, .null, .null, .null, .null, .null, .null, .null, .null, .int 0, .null, .null, .null, .int 0, .int 0, .int 0, .int 0, .null] := ⟨_, _, tyX10, rfl, ein_10, tyX10_ok, eTb_t 1156 (by decide +kernel) rfl, eTb_t 1157 (by decide +kernel) rfl, eTb_t 11 (by decide +kernel) rfl, by decide +kernel⟩
section WALK
variable {p : Program} {l : Launch} {e : Env} {s : State} {m : MethodId} {below : List Frame} {meth : Method} {c : Code} {b : Nat} {H : Heap} {locs : List Loc} {cells slots : Nat} {Q : State → Prop} {D : va_G} {ac : Nat → ClassId} {ls : Array Slot} {pc : Nat} {rs : va_W}
/-- new X() in the law: the world grows by what the constructor makes -/
theorem lNew {idx idx2 cj N dj ccj scj : Nat} {mj : eM} {fj : List Value} {layj : List eLC} {Mj : eMem} (hx : p.tables.exec = Jvm.exec) (hb : c.code = code) (hml : c.maxLocals = 4) (hown : s.vm.findClass R_law = some m.cls) (hts : ∀ w ∈ eTb, w.before #[Value.ref b] s = true) (K : cKs D ac s) (P : va_P D vwCl rs H) (Dd : va_D (lwA s) rs) (S : va_S (lwA s) s.heap H locs) (hls : ls.size = 4)
    (h2 : decode code pc = .ok (.new idx, 3)) (h3 : decode code (pc + 3) = .ok (.dup, 1)) (h4 : decode code (pc + 4) = .ok (.invokespecial idx2, 3)) (hnw : cNw R_law idx cj N fj) (hwc : cWc mj) (hnl : Cond.methodLink R_law idx2 mj.1 ∈ eTb) (hj : ∀ q, Cn D ac dj mj ccj scj cj (fun w => ∃ ad : Nat → Nat, ad 0 = q ∧ w = eWs layj ac ad Mj) 0 q fj []) (hdd : dj < 13) (hr3 : cells + (1 + ccj) ≤ 600000) (hr4 : slots + (N + scj) ≤ 7302250)
    (kk : ∀ (aj : Nat → Nat) (H' : Heap) (locs' : List Loc), va_P D vwCl (rs ++ eWs layj ac aj Mj) H' → va_D (lwA s) (rs ++ eWs layj ac aj Mj) → va_S (lwA s) s.heap H' locs' → W p l e room_1 s m #[Value.ref b] below meth c H' locs' (cells + 1 + ccj) (slots + N + scj) Q (F0 m (pc + 7) ls [.ref (aj 0)])) :
    W p l e room_1 s m #[Value.ref b] below meth c H locs cells slots Q (F0 m pc ls []) := by
  have hR3 : cells + (1 + ccj) ≤ room_1.cells := hr3
  have hR4 : slots + (N + scj) ≤ room_1.slots := hr4
  have hA : ∀ q, s.heap.size ≤ q → lwA s q := fun _ h => h
  obtain ⟨X, T, ty0, n1, n2, n3, n4, n5, n6, n7⟩ := hnw
  obtain ⟨w1, w2, w3, w4, w5, w6, w7, w8⟩ := hwc
  refine va_new (ci := cj) (fs := fj) hx hb hts n2 ty0 n3 hown (hts _ n4) (hts _ n5) (hts _ n6) K.1 P Dd S hA n1 n7 (by omega) (by omega) h2 (fun q H1 P1 D1 S1 => ?_)
  refine lv_dup hx hb h3 rfl ?_
  have hM := Cn.met (hj q) w4 w5 w6 w7 l H1.size
  have hat : (rs ++ [(q, Sum.inr (cj, fj))] : va_W)[rs.length]? = some (q, .inr (cj, fj)) := by simp
  have hFc : ∀ x, va_A [(q, .inr (cj, fj))] H1.size x → lwA s x := by
    rintro x (⟨i, e', hi⟩ | hx)
    · have hi0 : i < 1 := (List.getElem?_eq_some_iff.mp hi).1
      rw [show i = 0 by omega] at hi
      cases hi
      exact D1.2 _ _ hat
    · exact hA _ (Nat.le_trans S1.1 hx)
  have P1q : va_P D vwCl [(q, .inr (cj, fj))] H1 := fun i x hx => by
    have hi0 : i < 1 := (List.getElem?_eq_some_iff.mp hx).1
    rw [show i = 0 by omega] at hx
    cases hx
    exact P1 _ _ hat
  have hwd : eWd mj = Cond.code mj.1 mj.2.1 mj.2.2.1 none :: eTb := by rw [← w7]
  refine va_callv (va_runI (As := []) (rest := [.ref q]) ⟨hx, hb, hml, hown, hts⟩ hM
    ⟨callB_of 0 hts (eGood w1) hwd rfl rfl (hts _ w2) (hts _ hnl) w3 ⟨by show dj + 1 ≤ 14; omega, by show 8 + (mj.2.2.1 + 11) + 40 * dj ≤ 556; omega⟩, w5, hts _ w8⟩
    ⟨cPc_blind, fun U hU hW => ⟨rfl, by rw [hU], by rw [hU]; exact P1q, K.call hW⟩⟩ rfl rfl hls rfl (lv_room (Nat.le_of_ble_eq_true rfl)) h4 ⟨by omega, by omega⟩) S1 (fun x _ h => hFc x h) hFc (fun w t H2 locs2 ht hvm hpost hB hz2 hk2 S2 => ?_)
  obtain ⟨Pw, Dw⟩ := hB
  rw [ht] at Pw
  obtain ⟨P3, D3⟩ := cJoin (rs := rs) P1 D1 hk2 hFc Pw Dw
  obtain ⟨aj, rfl, rfl⟩ := hpost
  exact kk aj H2 locs2 P3 D3 S2
end WALK
theorem whole_start {p : Program} {e : Env} {s : State} {m : MethodId} {below : List Frame} {meth : Method} {c : Code} (l : Launch) (hflags : l.flags = flags0) {b L : Nat} {xs : Nat → Int32} (hL : L ≤ 3072) (C0 : lw_At p s m meth c b L xs) : W p l e room_1 s m #[Value.ref b] below meth c s.heap [] 0 0 (lw_Z below #[Value.ref b] s) (entryFrame m ([Value.ref b] : List Value).toArray 4) := by
  obtain ⟨hx, hb, hr, hml, hown, hlw, hX, hbl, hlocks, hgv⟩ := id C0
  have hts := eTb_lw hlw
  obtain ⟨D, hKn⟩ := lKn hts hlw
  obtain ⟨ac, hAr, hG4, hG5⟩ := lArr hlw
  obtain ⟨out, hOut⟩ := lOut hlw hgv
  have hK : va_K D vwCl (eTy ac) s := ⟨hKn, hAr⟩
  have hN : ∀ w ∈ eNest, va_Nw w s := fun w hw => by
    have h1 := List.mem_filter.mp hw
    refine va_Nw.of ?_ (hlw w (List.mem_append_right _ h1.1))
    have h2 := h1.2
    cases w <;> simp only [eIsNest, Bool.false_eq_true] at h2 <;> rfl
  have K : cKs D ac s := ⟨hK, hN, hG4, hG5⟩
  have S0 : va_S (lwA s) s.heap s.heap [] := va_S.rf
  have P0 : va_P D vwCl [] s.heap := fun k q h => by simp at h
  have D0 : va_D (lwA s) [] := ⟨fun i j x y h => by simp at h, fun k q h => by simp at h⟩
  have hl := lv_entry ([.ref b]) (n := 4) (Nat.le_of_ble_eq_true rfl)
  rw [lg_entry_eq]
  generalize (lg_sl ([.ref b]) ++ List.replicate (4 - (lg_sl ([.ref b])).length) Slot.unset).toArray = ls at hl ⊢
  have hl : lv_has ls 4 [(0, .ref b)] := hl
  refine lNew (idx := 7) (idx2 := 9) (mj := m_X9_init) (ccj := 155) (scj := 8159) (layj := layC) (Mj := cM9) hx hb hml hown hts K P0 D0 S0 hl.1 (by decide +kernel) (by decide +kernel) (by decide +kernel) lw_nw9 cw_X9 (eTb_t 22 (by decide +kernel) rfl) (fun q => ci_X9 q) (by decide) (by decide) (by decide) (fun aC H1 locs1 P1 D1 S1 => ?_)
  rw [List.nil_append] at P1 D1
  refine lv_astore_n (k := 1) (lv' := [(1, .ref (aC 0)), (0, .ref b)]) hx hb (by decide +kernel) rfl hl (by decide) rfl (fun ls hl => ?_)
  refine lNew (idx := 10) (idx2 := 12) (mj := m_X10_init) (ccj := 15) (scj := 9248) (layj := layR) (Mj := cM10) hx hb hml hown hts K P1 D1 S1 hl.1 (by decide +kernel) (by decide +kernel) (by decide +kernel) lw_nw10 cw_X10 (eTb_t 1158 (by decide +kernel) rfl) (fun q => ci_X10 q) (by decide) (by decide) (by decide) (fun aR H2 locs2 P2 D2 S2 => ?_)
  refine lv_astore_n (k := 2) (lv' := [(2, .ref (aR 0)), (1, .ref (aC 0)), (0, .ref b)]) hx hb (by decide +kernel) rfl hl (by decide) rfl (fun ls hl => ?_)
  refine lv_iconst (n := 0) (v := 0) hx hb (by decide +kernel) (by decide) ?_
  refine lv_istore_n (k := 3) (lv' := [(3, .int 0), (2, .ref (aR 0)), (1, .ref (aC 0)), (0, .ref b)]) hx hb (by decide +kernel) rfl hl (by decide) rfl (fun ls hl => ?_)
  have lenC : (eWs layC ac aC cM9).length = 156 := by simp only [eWs, List.length_mapIdx]; exact bd_C.2.2
  have PC : va_P D vwCl (eWs layC ac aC cM9) H2 := fun i x hx => P2 i x (by rw [List.getElem?_append_left (List.getElem?_eq_some_iff.mp hx).1]; exact hx)
  have PR : va_P D vwCl (eWs layR ac aR cM10) H2 := fun i x hx => P2 (156 + i) x (by rw [List.getElem?_append_right (by omega), lenC, Nat.add_sub_cancel_left]; exact hx)
  have DC : va_D (lwA s) (eWs layC ac aC cM9) := ⟨fun i j x y hx hy => D2.1 i j x y (by rw [List.getElem?_append_left (List.getElem?_eq_some_iff.mp hx).1]; exact hx) (by rw [List.getElem?_append_left (List.getElem?_eq_some_iff.mp hy).1]; exact hy), fun i x hx => D2.2 i x (by rw [List.getElem?_append_left (List.getElem?_eq_some_iff.mp hx).1]; exact hx)⟩
  have DR : va_D (lwA s) (eWs layR ac aR cM10) := ⟨fun i j x y hx hy hxy => by
    have h9 := D2.1 (156 + i) (156 + j) x y (by rw [List.getElem?_append_right (by omega), lenC, Nat.add_sub_cancel_left]; exact hx) (by rw [List.getElem?_append_right (by omega), lenC, Nat.add_sub_cancel_left]; exact hy) hxy
    omega, fun i x hx => D2.2 (156 + i) x (by rw [List.getElem?_append_right (by omega), lenC, Nat.add_sub_cancel_left]; exact hx)⟩
  have ap0 : ∀ i, i < layC.length → ∀ j, j < layR.length → aC i ≠ aR j := by
    intro i hi j hj h
    have g1 := eWs_get (ac := ac) (ad := aC) (M := cM9) (List.getElem?_eq_getElem hi)
    have g2 := eWs_get (ac := ac) (ad := aR) (M := cM10) (List.getElem?_eq_getElem hj)
    have hi2 := bd_C.2.2
    have h9 := D2.1 i (156 + j) _ _ (by rw [List.getElem?_append_left (by omega)]; exact g1) (by rw [List.getElem?_append_right (by omega), lenC, Nat.add_sub_cancel_left]; exact g2) h
    omega
  obtain ⟨bC, hbC, hoC⟩ : ∃ bC : Nat → Nat, (∀ p, p < 1000 → bC p = aC p) ∧ ∀ p, 1000 ≤ p → bC p = out p := ⟨fun p => if p < 1000 then aC p else out p, fun p hp => if_pos hp, fun p hp => if_neg (by omega)⟩
  obtain ⟨bR, hbR, hoR⟩ : ∃ bR : Nat → Nat, (∀ p, p < 1000 → bR p = aR p) ∧ ∀ p, 1000 ≤ p → bR p = out p := ⟨fun p => if p < 1000 then aR p else out p, fun p hp => if_pos hp, fun p hp => if_neg (by omega)⟩
  have lC9 := bd_C.2.2
  have lR9 := bd_R.2.2
  have eC : eWs layC ac aC cM9 = eWs layC ac bC cM9 := eWs_cong bd_C.1 bd_C.2.1 (fun p hp => hbC p (by omega))
  have eR : eWs layR ac aR cM10 = eWs layR ac bR cM10 := eWs_cong bd_R.1 bd_R.2.1 (fun p hp => hbR p (by omega))
  rw [eC] at PC DC
  rw [eR] at PR DR
  rw [← hbC 0 (by decide), ← hbR 0 (by decide)] at hl
  have hLX : LX p s m meth c b L xs (0 + 1 + 155 + 1 + 15) (0 + 6 + 8159 + 22 + 9248) D ac bC bR :=
    ⟨⟨hx, hb, hml, hown, hts⟩, ⟨hX, hbl⟩, ⟨by decide, by decide⟩, ⟨⟨hK, hN, hOut bC hoC⟩, fun M => eWs_D DC (eWs_A DC)⟩, ⟨⟨hK, hN, hOut bR hoR⟩, fun M => eWs_D DR (eWs_A DR)⟩,
      fun i hi j hj => by rw [hbC i (by omega), hbR j (by omega)]; exact ap0 i hi j hj, fun i hi j hj => by rw [hbR i (by omega), hbC j (by omega)]; exact (ap0 j hj i hi).symm⟩
  exact lLoop hLX hL hr hlocks (L + 6) 0 (by omega) (by omega) cM9 cM10 rel_start H2 locs2 ls PC PR S2 (lv_sub hl [3, 2, 1, 0] rfl)
