/-! an hour is closed: what changes, what stays -/
def kq (R R2 : eMem) : Prop := (∀ j, j < 230 → j ≠ 4 → j ≠ 10 → R2.1 1 j = R.1 1 j) ∧ ∀ j, 1128 ≤ j → j < 1278 → R2.1 1 j = R.1 1 j
theorem kq.rf {R : eMem} : kq R R := ⟨fun _ _ _ _ => rfl, fun _ _ _ => rfl⟩
theorem kq.tr {A B D : eMem} (h1 : kq A B) (h2 : kq B D) : kq A D := ⟨fun j a b c => (h2.1 j a b c).trans (h1.1 j a b c), fun j a b => (h2.2 j a b).trans (h1.2 j a b)⟩
theorem kq.S {R R2 : eMem} (h : kq R R2) : nS (R2.1 1) = nS (R.1 1) := by unfold nS; rw [h.1 9 (by omega) (by omega) (by omega)]
theorem kq.F {R R2 : eMem} (h : kq R R2) : nF (R2.1 1) = nF (R.1 1) := by unfold nF; rw [h.1 12 (by omega) (by omega) (by omega)]
theorem kq.L {R R2 : eMem} (h : kq R R2) : nL (R2.1 1) = nL (R.1 1) := by unfold nL; rw [h.1 13 (by omega) (by omega) (by omega)]
theorem kq.U {R R2 : eMem} (h : kq R R2) : nU (R2.1 1) = nU (R.1 1) := by unfold nU; rw [h.1 8 (by omega) (by omega) (by omega)]
theorem kq.H {R R2 : eMem} (h : kq R R2) : hr (R2.1 1) = hr (R.1 1) := by unfold hr; rw [h.1 0 (by omega) (by omega) (by omega)]
theorem kq.w {R : eMem} {i : Nat} {v : Int32} (hi : (i = 4 ∨ i = 10 ∨ 230 ≤ i) ∧ (i < 1128 ∨ 1278 ≤ i)) : kq R (eI R 1 i v) := ⟨fun j a b c => by simp (disch := omega) only [eIq_ne, eIq_eq, upd_ne, upd_eq], fun j a b => by simp (disch := omega) only [eIq_ne, eIq_eq, upd_ne, upd_eq]⟩
theorem set_stands {C R : eMem} (h : Rel C R) {k : Nat} (hk : k < nS (R.1 1)) {w : Int32} (hw : w = 0 ∨ w = 1) : Rel (eI C 18 k w) (eI R 1 (303 + 10 * k) w) := by
  obtain ⟨wSc, wGr, wRo, wUn, wPl, wHe, wSh, wRe, wFl, wLi, wBo, wTx, wTc, wz, i1, i2, i3, i4, i5, i6⟩ := id h.1; obtain ⟨c0, c1, c2, c3, c4, c5, c6, c7, c8, c9, c10, c11, c12, c13⟩ := id wSc; obtain ⟨⟨z0, y0⟩, ⟨f5, g5, y5, z5⟩, ⟨t6, y6, z6⟩, ⟨z7, y7⟩, ⟨z8, y8⟩, ⟨z9, y9⟩, ⟨z10, y10⟩, ⟨z11, y11⟩, ⟨z12, y12⟩, ⟨z13, y13⟩⟩ := id i1
  obtain ⟨s0, s1, s2, s3, s4, s5, s6, s7, s8, s9⟩ := wSh k hk
  obtain ⟨x0, x1, x3, x4, x5, x7, x8⟩ := i4 k hk
  refine h.now (by simp (disch := omega) only [eIq_ne, eIq_eq, upd_ne, upd_eq]) (fun p hp => by simp (disch := omega) only [eIq_ne, eIq_eq, upd_ne, upd_eq]) (by simp (disch := omega) only [eIq_ne, eIq_eq, upd_ne, upd_eq]) (by simp (disch := omega) only [eIq_ne, eIq_eq, upd_ne, upd_eq]) (fun p p1 p2 => by simp (disch := omega) only [eIq_ne, eIq_eq, upd_ne, upd_eq]) (h.1.sh (fun p p1 p2 p3 p4 p5 p6 p7 p8 p9 p10 p11 p12 => by simp (disch := omega) only [eIq_ne, eIq_eq, upd_ne, upd_eq]) (fun j j1 j2 j3 => by simp (disch := omega) only [eIq_ne, eIq_eq, upd_ne, upd_eq]) (by refine ⟨?_, ?_, ?_, ?_, ?_, ?_, ?_, ?_, ?_, ?_, ?_, ?_, ?_, ?_⟩ <;> (simp (disch := omega) only [eIq_ne, eIq_eq, upd_ne, upd_eq] <;> first | assumption | (simp only [*]; done))) (wSh_mk (n := nS (R.1 1)) (by simp (disch := omega) only [eIq_ne, eIq_eq, upd_ne, upd_eq]; exact z9) (by omega) (fun i hi => ?_)) ?_ (iSc_mk  (by simp (disch := omega) only [eIq_ne, eIq_eq, upd_ne, upd_eq]; exact z0) y0 (by simp (disch := omega) only [eIq_ne, eIq_eq, upd_ne, upd_eq]; exact z5) g5 y5 (by simp (disch := omega) only [eIq_ne, eIq_eq, upd_ne, upd_eq]; exact z6) y6 (by simp (disch := omega) only [eIq_ne, eIq_eq, upd_ne, upd_eq]; exact z7) y7 (by simp (disch := omega) only [eIq_ne, eIq_eq, upd_ne, upd_eq]; exact z8) y8 (by simp (disch := omega) only [eIq_ne, eIq_eq, upd_ne, upd_eq]; exact z9) y9 (by simp (disch := omega) only [eIq_ne, eIq_eq, upd_ne, upd_eq]; exact z10) y10 (by simp (disch := omega) only [eIq_ne, eIq_eq, upd_ne, upd_eq]; exact z11) y11 (by simp (disch := omega) only [eIq_ne, eIq_eq, upd_ne, upd_eq]; exact z12) y12 (by simp (disch := omega) only [eIq_ne, eIq_eq, upd_ne, upd_eq]; exact z13) y13) (iSh_mk (n := nS (R.1 1)) (by simp (disch := omega) only [eIq_ne, eIq_eq, upd_ne, upd_eq]; exact z9) (by omega) (fun i hi => ?_)) (nS_mono (n := nS (R.1 1)) (by simp (disch := omega) only [eIq_ne, eIq_eq, upd_ne, upd_eq]; exact z9) (by omega) (Nat.le_refl _)) (fun x hx => by simp (disch := omega) only [eIq_ne, eIq_eq, upd_ne, upd_eq]))
  · by_cases e : i = k
    · subst e; refine ⟨?_, ?_, ?_, ?_, ?_, ?_, ?_, ?_, ?_, ?_⟩ <;> simp (disch := omega) only [eIq_ne, eIq_eq, upd_ne, upd_eq] <;> assumption
    · simp (disch := omega) only [eIq_ne, eIq_eq, upd_ne, upd_eq]; exact wSh i hi
  · refine ⟨fun i hi => ?_, fun i hi => ?_, fun i hi => ?_, fun i hi => ?_, fun i hi => ?_, fun i hi => ?_, fun i hi => ?_⟩
    · simp (disch := omega) only [eIq_ne, eIq_eq, upd_ne, upd_eq]
      by_cases e : i = k
      · subst e; simp (disch := omega) only [eIq_ne, eIq_eq, upd_ne, upd_eq]; exact hw
      · simp (disch := omega) only [eIq_ne, eIq_eq, upd_ne, upd_eq]; exact wz.1 i hi
    · simp (disch := omega) only [eIq_ne, eIq_eq, upd_ne, upd_eq]; exact wz.2.1 i hi
    · simp (disch := omega) only [eIq_ne, eIq_eq, upd_ne, upd_eq]; exact wz.2.2.1 i hi
    · simp (disch := omega) only [eIq_ne, eIq_eq, upd_ne, upd_eq]; exact wz.2.2.2.1 i hi
    · simp (disch := omega) only [eIq_ne, eIq_eq, upd_ne, upd_eq]; exact wz.2.2.2.2.1 i hi
    · simp (disch := omega) only [eIq_ne, eIq_eq, upd_ne, upd_eq]; exact wz.2.2.2.2.2.1 i hi
    · simp (disch := omega) only [eIq_ne, eIq_eq, upd_ne, upd_eq]; exact wz.2.2.2.2.2.2 i hi
  · by_cases e : i = k
    · subst e; simp (disch := omega) only [eIq_ne, eIq_eq, upd_ne, upd_eq]; exact ⟨x0, x1, x3, x4, hw, x7, x8⟩
    · simp (disch := omega) only [eIq_ne, eIq_eq, upd_ne, upd_eq]; exact i4 i hi
theorem set_broken {C R : eMem} (h : Rel C R) {k : Nat} (hk : k < nS (R.1 1)) {w : Int32} (hw : w = 0 ∨ w = 1) : Rel (eI C 20 k w) (eI R 1 (305 + 10 * k) w) := by
  obtain ⟨wSc, wGr, wRo, wUn, wPl, wHe, wSh, wRe, wFl, wLi, wBo, wTx, wTc, wz, i1, i2, i3, i4, i5, i6⟩ := id h.1; obtain ⟨c0, c1, c2, c3, c4, c5, c6, c7, c8, c9, c10, c11, c12, c13⟩ := id wSc; obtain ⟨⟨z0, y0⟩, ⟨f5, g5, y5, z5⟩, ⟨t6, y6, z6⟩, ⟨z7, y7⟩, ⟨z8, y8⟩, ⟨z9, y9⟩, ⟨z10, y10⟩, ⟨z11, y11⟩, ⟨z12, y12⟩, ⟨z13, y13⟩⟩ := id i1
  obtain ⟨s0, s1, s2, s3, s4, s5, s6, s7, s8, s9⟩ := wSh k hk
  obtain ⟨x0, x1, x3, x4, x5, x7, x8⟩ := i4 k hk
  refine h.now (by simp (disch := omega) only [eIq_ne, eIq_eq, upd_ne, upd_eq]) (fun p hp => by simp (disch := omega) only [eIq_ne, eIq_eq, upd_ne, upd_eq]) (by simp (disch := omega) only [eIq_ne, eIq_eq, upd_ne, upd_eq]) (by simp (disch := omega) only [eIq_ne, eIq_eq, upd_ne, upd_eq]) (fun p p1 p2 => by simp (disch := omega) only [eIq_ne, eIq_eq, upd_ne, upd_eq]) (h.1.sh (fun p p1 p2 p3 p4 p5 p6 p7 p8 p9 p10 p11 p12 => by simp (disch := omega) only [eIq_ne, eIq_eq, upd_ne, upd_eq]) (fun j j1 j2 j3 => by simp (disch := omega) only [eIq_ne, eIq_eq, upd_ne, upd_eq]) (by refine ⟨?_, ?_, ?_, ?_, ?_, ?_, ?_, ?_, ?_, ?_, ?_, ?_, ?_, ?_⟩ <;> (simp (disch := omega) only [eIq_ne, eIq_eq, upd_ne, upd_eq] <;> first | assumption | (simp only [*]; done))) (wSh_mk (n := nS (R.1 1)) (by simp (disch := omega) only [eIq_ne, eIq_eq, upd_ne, upd_eq]; exact z9) (by omega) (fun i hi => ?_)) ?_ (iSc_mk  (by simp (disch := omega) only [eIq_ne, eIq_eq, upd_ne, upd_eq]; exact z0) y0 (by simp (disch := omega) only [eIq_ne, eIq_eq, upd_ne, upd_eq]; exact z5) g5 y5 (by simp (disch := omega) only [eIq_ne, eIq_eq, upd_ne, upd_eq]; exact z6) y6 (by simp (disch := omega) only [eIq_ne, eIq_eq, upd_ne, upd_eq]; exact z7) y7 (by simp (disch := omega) only [eIq_ne, eIq_eq, upd_ne, upd_eq]; exact z8) y8 (by simp (disch := omega) only [eIq_ne, eIq_eq, upd_ne, upd_eq]; exact z9) y9 (by simp (disch := omega) only [eIq_ne, eIq_eq, upd_ne, upd_eq]; exact z10) y10 (by simp (disch := omega) only [eIq_ne, eIq_eq, upd_ne, upd_eq]; exact z11) y11 (by simp (disch := omega) only [eIq_ne, eIq_eq, upd_ne, upd_eq]; exact z12) y12 (by simp (disch := omega) only [eIq_ne, eIq_eq, upd_ne, upd_eq]; exact z13) y13) (iSh_mk (n := nS (R.1 1)) (by simp (disch := omega) only [eIq_ne, eIq_eq, upd_ne, upd_eq]; exact z9) (by omega) (fun i hi => ?_)) (nS_mono (n := nS (R.1 1)) (by simp (disch := omega) only [eIq_ne, eIq_eq, upd_ne, upd_eq]; exact z9) (by omega) (Nat.le_refl _)) (fun x hx => by simp (disch := omega) only [eIq_ne, eIq_eq, upd_ne, upd_eq]))
  · by_cases e : i = k
    · subst e; refine ⟨?_, ?_, ?_, ?_, ?_, ?_, ?_, ?_, ?_, ?_⟩ <;> simp (disch := omega) only [eIq_ne, eIq_eq, upd_ne, upd_eq] <;> assumption
    · simp (disch := omega) only [eIq_ne, eIq_eq, upd_ne, upd_eq]; exact wSh i hi
  · refine ⟨fun i hi => ?_, fun i hi => ?_, fun i hi => ?_, fun i hi => ?_, fun i hi => ?_, fun i hi => ?_, fun i hi => ?_⟩
    · simp (disch := omega) only [eIq_ne, eIq_eq, upd_ne, upd_eq]; exact wz.1 i hi
    · simp (disch := omega) only [eIq_ne, eIq_eq, upd_ne, upd_eq]
      by_cases e : i = k
      · subst e; simp (disch := omega) only [eIq_ne, eIq_eq, upd_ne, upd_eq]; exact hw
      · simp (disch := omega) only [eIq_ne, eIq_eq, upd_ne, upd_eq]; exact wz.2.1 i hi
    · simp (disch := omega) only [eIq_ne, eIq_eq, upd_ne, upd_eq]; exact wz.2.2.1 i hi
    · simp (disch := omega) only [eIq_ne, eIq_eq, upd_ne, upd_eq]; exact wz.2.2.2.1 i hi
    · simp (disch := omega) only [eIq_ne, eIq_eq, upd_ne, upd_eq]; exact wz.2.2.2.2.1 i hi
    · simp (disch := omega) only [eIq_ne, eIq_eq, upd_ne, upd_eq]; exact wz.2.2.2.2.2.1 i hi
    · simp (disch := omega) only [eIq_ne, eIq_eq, upd_ne, upd_eq]; exact wz.2.2.2.2.2.2 i hi
  · by_cases e : i = k
    · subst e; simp (disch := omega) only [eIq_ne, eIq_eq, upd_ne, upd_eq]; exact ⟨x0, x1, x3, x4, x5, hw, x8⟩
    · simp (disch := omega) only [eIq_ne, eIq_eq, upd_ne, upd_eq]; exact i4 i hi
theorem set_cost {C R : eMem} (h : Rel C R) {k : Nat} (hk : k < nS (R.1 1)) (w : Int32) : Rel (eI C 22 k w) (eI R 1 (307 + 10 * k) w) := by
  obtain ⟨wSc, wGr, wRo, wUn, wPl, wHe, wSh, wRe, wFl, wLi, wBo, wTx, wTc, wz, i1, i2, i3, i4, i5, i6⟩ := id h.1; obtain ⟨c0, c1, c2, c3, c4, c5, c6, c7, c8, c9, c10, c11, c12, c13⟩ := id wSc; obtain ⟨⟨z0, y0⟩, ⟨f5, g5, y5, z5⟩, ⟨t6, y6, z6⟩, ⟨z7, y7⟩, ⟨z8, y8⟩, ⟨z9, y9⟩, ⟨z10, y10⟩, ⟨z11, y11⟩, ⟨z12, y12⟩, ⟨z13, y13⟩⟩ := id i1
  obtain ⟨s0, s1, s2, s3, s4, s5, s6, s7, s8, s9⟩ := wSh k hk
  obtain ⟨x0, x1, x3, x4, x5, x7, x8⟩ := i4 k hk
  refine h.now (by simp (disch := omega) only [eIq_ne, eIq_eq, upd_ne, upd_eq]) (fun p hp => by simp (disch := omega) only [eIq_ne, eIq_eq, upd_ne, upd_eq]) (by simp (disch := omega) only [eIq_ne, eIq_eq, upd_ne, upd_eq]) (by simp (disch := omega) only [eIq_ne, eIq_eq, upd_ne, upd_eq]) (fun p p1 p2 => by simp (disch := omega) only [eIq_ne, eIq_eq, upd_ne, upd_eq]) (h.1.sh (fun p p1 p2 p3 p4 p5 p6 p7 p8 p9 p10 p11 p12 => by simp (disch := omega) only [eIq_ne, eIq_eq, upd_ne, upd_eq]) (fun j j1 j2 j3 => by simp (disch := omega) only [eIq_ne, eIq_eq, upd_ne, upd_eq]) (by refine ⟨?_, ?_, ?_, ?_, ?_, ?_, ?_, ?_, ?_, ?_, ?_, ?_, ?_, ?_⟩ <;> (simp (disch := omega) only [eIq_ne, eIq_eq, upd_ne, upd_eq] <;> first | assumption | (simp only [*]; done))) (wSh_mk (n := nS (R.1 1)) (by simp (disch := omega) only [eIq_ne, eIq_eq, upd_ne, upd_eq]; exact z9) (by omega) (fun i hi => ?_)) (wZ_cg wz (fun i hi => by simp (disch := omega) only [eIq_ne, eIq_eq, upd_ne, upd_eq]) (fun i hi => by simp (disch := omega) only [eIq_ne, eIq_eq, upd_ne, upd_eq]) (fun i hi => by simp (disch := omega) only [eIq_ne, eIq_eq, upd_ne, upd_eq]) (fun i hi => by simp (disch := omega) only [eIq_ne, eIq_eq, upd_ne, upd_eq]) (fun i hi => by simp (disch := omega) only [eIq_ne, eIq_eq, upd_ne, upd_eq]) (fun i hi => by simp (disch := omega) only [eIq_ne, eIq_eq, upd_ne, upd_eq]) (fun i hi => by simp (disch := omega) only [eIq_ne, eIq_eq, upd_ne, upd_eq])) (iSc_mk  (by simp (disch := omega) only [eIq_ne, eIq_eq, upd_ne, upd_eq]; exact z0) y0 (by simp (disch := omega) only [eIq_ne, eIq_eq, upd_ne, upd_eq]; exact z5) g5 y5 (by simp (disch := omega) only [eIq_ne, eIq_eq, upd_ne, upd_eq]; exact z6) y6 (by simp (disch := omega) only [eIq_ne, eIq_eq, upd_ne, upd_eq]; exact z7) y7 (by simp (disch := omega) only [eIq_ne, eIq_eq, upd_ne, upd_eq]; exact z8) y8 (by simp (disch := omega) only [eIq_ne, eIq_eq, upd_ne, upd_eq]; exact z9) y9 (by simp (disch := omega) only [eIq_ne, eIq_eq, upd_ne, upd_eq]; exact z10) y10 (by simp (disch := omega) only [eIq_ne, eIq_eq, upd_ne, upd_eq]; exact z11) y11 (by simp (disch := omega) only [eIq_ne, eIq_eq, upd_ne, upd_eq]; exact z12) y12 (by simp (disch := omega) only [eIq_ne, eIq_eq, upd_ne, upd_eq]; exact z13) y13) (iSh_mk (n := nS (R.1 1)) (by simp (disch := omega) only [eIq_ne, eIq_eq, upd_ne, upd_eq]; exact z9) (by omega) (fun i hi => ?_)) (nS_mono (n := nS (R.1 1)) (by simp (disch := omega) only [eIq_ne, eIq_eq, upd_ne, upd_eq]; exact z9) (by omega) (Nat.le_refl _)) (fun x hx => by simp (disch := omega) only [eIq_ne, eIq_eq, upd_ne, upd_eq]))
  · by_cases e : i = k
    · subst e; refine ⟨?_, ?_, ?_, ?_, ?_, ?_, ?_, ?_, ?_, ?_⟩ <;> simp (disch := omega) only [eIq_ne, eIq_eq, upd_ne, upd_eq] <;> assumption
    · simp (disch := omega) only [eIq_ne, eIq_eq, upd_ne, upd_eq]; exact wSh i hi
  · by_cases e : i = k
    · subst e; simp (disch := omega) only [eIq_ne, eIq_eq, upd_ne, upd_eq]; exact ⟨x0, x1, x3, x4, x5, x7, x8⟩
    · simp (disch := omega) only [eIq_ne, eIq_eq, upd_ne, upd_eq]; exact i4 i hi
theorem set_coin {C R : eMem} (h : Rel C R) (w : Int32) : Rel (eI C 2 15 w) (eI R 1 4 w) := by
  obtain ⟨wSc, wGr, wRo, wUn, wPl, wHe, wSh, wRe, wFl, wLi, wBo, wTx, wTc, wz, i1, i2, i3, i4, i5, i6⟩ := id h.1; obtain ⟨c0, c1, c2, c3, c4, c5, c6, c7, c8, c9, c10, c11, c12, c13⟩ := id wSc; obtain ⟨⟨z0, y0⟩, ⟨f5, g5, y5, z5⟩, ⟨t6, y6, z6⟩, ⟨z7, y7⟩, ⟨z8, y8⟩, ⟨z9, y9⟩, ⟨z10, y10⟩, ⟨z11, y11⟩, ⟨z12, y12⟩, ⟨z13, y13⟩⟩ := id i1
  refine h.now (by simp (disch := omega) only [eIq_ne, eIq_eq, upd_ne, upd_eq]) (fun p hp => by simp (disch := omega) only [eIq_ne, eIq_eq, upd_ne, upd_eq]) (by simp (disch := omega) only [eIq_ne, eIq_eq, upd_ne, upd_eq]) (by simp (disch := omega) only [eIq_ne, eIq_eq, upd_ne, upd_eq]) (fun p p1 p2 => by simp (disch := omega) only [eIq_ne, eIq_eq, upd_ne, upd_eq]) (h.1.scal (fun p p1 p2 => by simp (disch := omega) only [eIq_ne, eIq_eq, upd_ne, upd_eq]) (fun j hj => by simp (disch := omega) only [eIq_ne, eIq_eq, upd_ne, upd_eq]) (by refine ⟨?_, ?_, ?_, ?_, ?_, ?_, ?_, ?_, ?_, ?_, ?_, ?_, ?_, ?_⟩ <;> (simp (disch := omega) only [eIq_ne, eIq_eq, upd_ne, upd_eq] <;> first | assumption | (simp only [*]; done))) ?_)
  exact (iSc_mk (h := hr (R.1 1)) (f := f5) (t := t6) (a := nR (R.1 1)) (b := nU (R.1 1)) (c := nS (R.1 1)) (d := nP (R.1 1)) (e := nT (R.1 1)) (g := nF (R.1 1)) (i := nL (R.1 1)) (by simp (disch := omega) only [eIq_ne, eIq_eq, upd_ne, upd_eq]; exact z0) y0 (by simp (disch := omega) only [eIq_ne, eIq_eq, upd_ne, upd_eq]; exact z5) g5 y5 (by simp (disch := omega) only [eIq_ne, eIq_eq, upd_ne, upd_eq]; exact z6) y6 (by simp (disch := omega) only [eIq_ne, eIq_eq, upd_ne, upd_eq]; exact z7) y7 (by simp (disch := omega) only [eIq_ne, eIq_eq, upd_ne, upd_eq]; exact z8) y8 (by simp (disch := omega) only [eIq_ne, eIq_eq, upd_ne, upd_eq]; exact z9) y9 (by simp (disch := omega) only [eIq_ne, eIq_eq, upd_ne, upd_eq]; exact z10) y10 (by simp (disch := omega) only [eIq_ne, eIq_eq, upd_ne, upd_eq]; exact z11) y11 (by simp (disch := omega) only [eIq_ne, eIq_eq, upd_ne, upd_eq]; exact z12) y12 (by simp (disch := omega) only [eIq_ne, eIq_eq, upd_ne, upd_eq]; exact z13) y13)
/-- a report comes, or there is no room for it -/
theorem comes_fr {R : eMem} {a b c d e f : Int32} {n : Nat} (hn : R.1 1 10 = nI n) (hn9 : n < 90) {v : Int32} {R2 : eMem} (h : F_X10_comes a b c d e f R = some (v, R2)) : kq R R2 := by
  unfold F_X10_comes F_X10_comes_67 at h
  rw [hn, if_neg (fun q => by have := (eq_lit (n := 90) rfl (by omega)).mp q; omega)] at h
  simp (disch := omega) only [eIn_s, eG_tt, cl, nI_add, Mul_7, Ladd_498, Rad_0, Rad_1, Rad_2, Rad_3, Rad_4, Rad_5, Rad_6] at h
  have hk : ∀ w : Int32, ∀ V : Int32, kq R (eI (eI (eI (eI (eI (eI (eI (eI R 1 (498 + 7 * n + 0) a) 1 (498 + 7 * n + 1) b) 1 (498 + 7 * n + 2) w) 1 (498 + 7 * n + 3) d) 1 (498 + 7 * n + 4) e) 1 (498 + 7 * n + 5) f) 1 (498 + 7 * n + 6) 0) 1 10 V) := by
    intro w V
    exact ((((((((kq.w (by omega)).tr (kq.w (by omega))).tr (kq.w (by omega))).tr (kq.w (by omega))).tr (kq.w (by omega))).tr (kq.w (by omega))).tr (kq.w (by omega))).tr (kq.w (by omega)))
  split at h
  · cases h; exact hk _ _
  · cases h; exact hk _ _
theorem comes_any {C R : eMem} (h : Rel C R) {k st : Nat} {b kn x6 : Int32} (hk : k ≤ 5) (hst : st ≤ 3) (hb : b = 0 ∨ b = 1) (hx : k = 2 ∨ k = 3 → ∃ x, x < nS (R.1 1) ∧ x6 = nI x ∧ ¬ R.1 1 (298 + 10 * x) = 3) :
    ∃ C2 v R2, F_X1_add (nI k) (nI st) b (R.1 1 0) kn x6 C = some C2 ∧ F_X10_comes (nI k) (nI st) b (R.1 1 0) kn x6 R = some (v, R2) ∧ Rel C2 R2 ∧ kq R R2 := by
  obtain ⟨wSc, -, -, -, -, -, -, -, -, -, -, -, -, -, i1, -⟩ := id h.1
  obtain ⟨⟨z0, y0⟩, -, -, -, -, -, ⟨z10, y10⟩, -⟩ := id i1
  by_cases hf : nP (R.1 1) = 90
  · unfold F_X1_add F_X10_comes
    rw [wSc.2.2.2.2.2.2.2.2.2.2.1, z10, hf, show F_X9_isIn (nI 90) 90 = some 0 by decide, if_pos (show nI 90 = 90 from rfl)]
    exact ⟨C, -1, R, rfl, rfl, h, kq.rf⟩
  · rw [z0]
    obtain ⟨C2, R2, p1, p2, p3, -⟩ := comes_both h rfl (show nP (R.1 1) < 90 by omega) (kn := kn) hk hst hb (Nat.le_refl (hr (R.1 1))) hx
    exact ⟨C2, _, R2, p1, p2, p3, comes_fr z10 (by omega) p2⟩
/-! storm -/
theorem storm_loop : ∀ m j, ∀ (C R : eMem), Rel C R → j + m = nS (R.1 1) → ∀ f1 f2, m < f1 → m < f2 → ∀ w, w = R.1 1 1 → ∃ C2 R2, F_X5_breakBy_2 f1 w (nI j) C = some C2 ∧ F_X10_storm_2 f2 (nI j) R = some R2 ∧ Rel C2 R2 ∧ kq R R2 := by
  intro m
  induction m with
  | zero =>
    intro j C R h hj f1 f2 h1 h2 w hw
    obtain ⟨wSc, wGr, wRo, wUn, wPl, wHe, wSh, wRe, wFl, wLi, wBo, wTx, wTc, wz, i1, i2, i3, i4, i5, i6⟩ := id h.1; obtain ⟨c0, c1, c2, c3, c4, c5, c6, c7, c8, c9, c10, c11, c12, c13⟩ := id wSc; obtain ⟨⟨z0, y0⟩, ⟨f5, g5, y5, z5⟩, ⟨t6, y6, z6⟩, ⟨z7, y7⟩, ⟨z8, y8⟩, ⟨z9, y9⟩, ⟨z10, y10⟩, ⟨z11, y11⟩, ⟨z12, y12⟩, ⟨z13, y13⟩⟩ := id i1
    obtain ⟨f1, rfl⟩ : ∃ x, f1 = x + 1 := ⟨f1 - 1, by omega⟩
    obtain ⟨f2, rfl⟩ : ∃ x, f2 = x + 1 := ⟨f2 - 1, by omega⟩
    rw [F_X5_breakBy_2, F_X10_storm_2, c9, z9, if_neg (nI_nlt (by omega) (by omega)), if_neg (nI_nlt (by omega) (by omega))]
    exact ⟨C, R, rfl, rfl, h, kq.rf⟩
  | succ m ih =>
    intro j C R h hj f1 f2 h1 h2 w hw
    obtain ⟨wSc, wGr, wRo, wUn, wPl, wHe, wSh, wRe, wFl, wLi, wBo, wTx, wTc, wz, i1, i2, i3, i4, i5, i6⟩ := id h.1; obtain ⟨c0, c1, c2, c3, c4, c5, c6, c7, c8, c9, c10, c11, c12, c13⟩ := id wSc; obtain ⟨⟨z0, y0⟩, ⟨f5, g5, y5, z5⟩, ⟨t6, y6, z6⟩, ⟨z7, y7⟩, ⟨z8, y8⟩, ⟨z9, y9⟩, ⟨z10, y10⟩, ⟨z11, y11⟩, ⟨z12, y12⟩, ⟨z13, y13⟩⟩ := id i1
    obtain ⟨f1, rfl⟩ : ∃ x, f1 = x + 1 := ⟨f1 - 1, by omega⟩
    obtain ⟨f2, rfl⟩ : ∃ x, f2 = x + 1 := ⟨f2 - 1, by omega⟩
    obtain ⟨s0, s1, s2, s3, s4, s5, s6, s7, s8, s9⟩ := wSh j (by omega)
    obtain ⟨⟨x, x1, x2⟩, -, -, -, x5, -⟩ := i4 j (by omega)
    have hskip := ih (j + 1) C R h (by omega) f1 f2 (by omega) (by omega) w hw
    rw [F_X5_breakBy_2, F_X10_storm_2, c9, z9, if_pos (nI_lt (by omega) (by omega)), if_pos (nI_lt (by omega) (by omega))]
    unfold F_X10_storm_46 F_X10_storm_47
    simp only [show_0 j R (by omega), show_4 j R (by omega), show_5 j R (by omega), set_7 j 1 R (by omega)]
    rw [eIn_s (show j < 20 by omega) (by omega), cl (show j < 2147483648 by omega), s0, s4, s5, x2, ← hw]
    simp only [bS, eG_tt]
    rw [Rad_1, under_eq]
    have hu : (F_X10_isUnder (nI x) 1 = some 0 ∧ F_X10_in (nI x) 1 2 = some 0) ∨ (F_X10_isUnder (nI x) 1 = some 1 ∧ F_X10_in (nI x) 1 2 = some 1) := by
      rcases (show x = 0 ∨ x = 1 ∨ x = 2 ∨ x = 3 ∨ x = 4 ∨ x = 5 ∨ x = 6 by omega) with rfl | rfl | rfl | rfl | rfl | rfl | rfl
      · exact Or.inl ⟨by decide, by decide⟩
      · exact Or.inr ⟨by decide, by decide⟩
      · exact Or.inr ⟨by decide, by decide⟩
      · exact Or.inl ⟨by decide, by decide⟩
      · exact Or.inl ⟨by decide, by decide⟩
      · exact Or.inl ⟨by decide, by decide⟩
      · exact Or.inl ⟨by decide, by decide⟩
    rcases hu with ⟨u1, u2⟩ | ⟨u1, u2⟩ <;> rw [u1, u2]
    · simp only [bS, ↓reduceIte]
      exact hskip
    · simp only [bS, i10, ↓reduceIte]
      rcases x5 with q | q <;> rw [q]
      · simp only [↓reduceIte, show ((0 : Int32) = 1) = False by decide, ite_self]
        exact hskip
      · simp only [i10, ↓reduceIte]
        by_cases q2 : R.1 1 (302 + 10 * j) < w
        · rw [if_pos q2, if_pos q2, show vp_nar .boolean (1 : Int32) = 1 from rfl]
          have h3 := set_broken h (k := j) (by omega) (w := 1) (Or.inr rfl)
          have hk : kq R (eI R 1 (305 + 10 * j) 1) := kq.w (by omega)
          obtain ⟨C2, R2, g1, g2, g3, g4⟩ := ih (j + 1) _ _ h3 (by rw [hk.S]; omega) f1 f2 (by omega) (by omega) w (by rw [hk.1 1 (by omega) (by omega) (by omega)]; exact hw)
          exact ⟨C2, R2, g1, g2, g3, hk.tr g4⟩
        · rw [if_neg q2, if_neg q2]
          exact hskip
/-! flights -/
theorem seeShows_loop (KR : Int32 → Int32 → Int32 → eMem → Option eMem) {g : Nat} (kn : Int32) : ∀ m j, ∀ (C R : eMem), Rel C R → j + m = nS (R.1 1) → g < nF (R.1 1) → ∀ f1 f2, m < f1 → m < f2 → ∃ C2 R2, F_X8_seeShows_20 f1 (nI g) kn (nI j) C = some C2 ∧ F_X10_flies_52 KR f2 (R.1 1 (1129 + 4 * g)) (R.1 1 (1130 + 4 * g)) kn (nI j) R = KR (R.1 1 (1129 + 4 * g)) (R.1 1 (1130 + 4 * g)) kn R2 ∧ Rel C2 R2 ∧ kq R R2 := by
  intro m
  induction m with
  | zero =>
    intro j C R h hj hg f1 f2 h1 h2
    obtain ⟨wSc, wGr, wRo, wUn, wPl, wHe, wSh, wRe, wFl, wLi, wBo, wTx, wTc, wz, i1, i2, i3, i4, i5, i6⟩ := id h.1; obtain ⟨c0, c1, c2, c3, c4, c5, c6, c7, c8, c9, c10, c11, c12, c13⟩ := id wSc; obtain ⟨⟨z0, y0⟩, ⟨f5, g5, y5, z5⟩, ⟨t6, y6, z6⟩, ⟨z7, y7⟩, ⟨z8, y8⟩, ⟨z9, y9⟩, ⟨z10, y10⟩, ⟨z11, y11⟩, ⟨z12, y12⟩, ⟨z13, y13⟩⟩ := id i1
    obtain ⟨f1, rfl⟩ : ∃ x, f1 = x + 1 := ⟨f1 - 1, by omega⟩
    obtain ⟨f2, rfl⟩ : ∃ x, f2 = x + 1 := ⟨f2 - 1, by omega⟩
    rw [F_X8_seeShows_20, F_X10_flies_52, c9, z9, if_neg (nI_nlt (by omega) (by omega)), if_neg (nI_nlt (by omega) (by omega))]
    exact ⟨C, R, rfl, rfl, h, kq.rf⟩
  | succ m ih =>
    intro j C R h hj hg f1 f2 h1 h2
    obtain ⟨wSc, wGr, wRo, wUn, wPl, wHe, wSh, wRe, wFl, wLi, wBo, wTx, wTc, wz, i1, i2, i3, i4, i5, i6⟩ := id h.1; obtain ⟨c0, c1, c2, c3, c4, c5, c6, c7, c8, c9, c10, c11, c12, c13⟩ := id wSc; obtain ⟨⟨z0, y0⟩, ⟨f5, g5, y5, z5⟩, ⟨t6, y6, z6⟩, ⟨z7, y7⟩, ⟨z8, y8⟩, ⟨z9, y9⟩, ⟨z10, y10⟩, ⟨z11, y11⟩, ⟨z12, y12⟩, ⟨z13, y13⟩⟩ := id i1
    obtain ⟨f1, rfl⟩ : ∃ x, f1 = x + 1 := ⟨f1 - 1, by omega⟩
    obtain ⟨f2, rfl⟩ : ∃ x, f2 = x + 1 := ⟨f2 - 1, by omega⟩
    obtain ⟨s0, s1, s2, s3, s4, s5, s6, s7, s8, s9⟩ := wSh j (by omega)
    obtain ⟨x0, ⟨st, hst, x1⟩, -⟩ := i4 j (by omega)
    obtain ⟨l0, l1, l2, l3⟩ := wFl g hg
    have hskip := fun C h => ih (j + 1) C R h (by omega) hg f1 f2 (by omega) (by omega)
    rw [F_X8_seeShows_20, F_X10_flies_52, c9, z9, if_pos (nI_lt (by omega) (by omega)), if_pos (nI_lt (by omega) (by omega))]
    rw [show_0 j R (by omega), show_2 j R (by omega), eIn_s (show j < 20 by omega) (by omega), cl (show j < 2147483648 by omega), eIn_s (show g < 30 by omega) (by omega), cl (show g < 2147483648 by omega), s0, s2, l1]
    simp only [bS, eG_tt]
    rw [Rad_1]
    by_cases q1 : 2 < R.1 1 (298 + 10 * j)
    · rw [if_pos q1, if_pos q1]; exact hskip C h
    · rw [if_neg q1, if_neg q1]
      by_cases q2 : R.1 1 (300 + 10 * j) = R.1 1 (1129 + 4 * g)
      · rw [if_pos q2, if_pos q2]
        obtain ⟨v, C2, hv, p1, p2, p3⟩ := shown_both h.1 (k := j) (by omega)
        rw [p1, p2]
        have h2 := p3.R h
        rcases hv with rfl | rfl
        · simp only [bS, ↓reduceIte]; exact hskip C2 h2
        · simp only [bS, i10, ↓reduceIte]
          rw [show_1 j R (by omega), top_eq h2.1 (k := j) (by omega)]
          obtain ⟨t, ht⟩ : ∃ t, F_X10_topOf (nI j) R = some t := by
            unfold F_X10_topOf
            rw [show_0 j R (by omega), show_3 j R (by omega)]
            simp only [bS]
            split
            · exact ⟨_, rfl⟩
            · exact ⟨_, rfl⟩
          rw [ht, p3.1 26 (by decide), l2, x1]
          simp only [bS]
          have hgo : ∀ b : Int32, (b = 0 ∨ b = 1) → ∃ C3 R3, F_X8_seeShows_104 (fun v1 v2 v3 M => F_X8_seeShows_20 f1 v1 v2 v3 M) (nI g) kn (nI j) b C2 = some C3 ∧ F_X10_flies_119 (fun v2 v3 v4 v5 M => F_X10_flies_52 KR f2 v2 v3 v4 v5 M) KR (R.1 1 (1129 + 4 * g)) (R.1 1 (1130 + 4 * g)) kn (nI j) b (nI st) 0 R = KR (R.1 1 (1129 + 4 * g)) (R.1 1 (1130 + 4 * g)) kn R3 ∧ Rel C3 R3 ∧ kq R R3 := by
            intro b hb
            obtain ⟨wSc2, -, -, -, -, -, wSh2, -⟩ := id h2.1
            unfold F_X8_seeShows_104 F_X10_flies_119 F_X8_reportShow
            obtain ⟨C3, v, R3, e1, e2, e3, e4⟩ := comes_any h2 (k := 0) (st := st) (b := b) (kn := kn) (x6 := nI j) (by omega) hst hb (fun q => by omega)
            rw [show nI 0 = 0 from rfl] at e1 e2
            rw [eIn_s (show j < 20 by omega) (by omega), cl (show j < 2147483648 by omega), (wSh2 j (by omega)).2.1, x1, wSc2.1, e1, e2]
            simp only [bS, eG_tt]
            rw [Rad_1]
            obtain ⟨C4, R4, g1, g2, g3, g4⟩ := ih (j + 1) C3 R3 e3 (by rw [e4.S]; omega) (by rw [e4.F]; exact hg) f1 f2 (by omega) (by omega)
            rw [e4.2 (1129 + 4 * g) (by omega) (by omega), e4.2 (1130 + 4 * g) (by omega) (by omega)] at g2
            exact ⟨C4, R4, g1, g2, g3, e4.tr g4⟩
          by_cases q3 : R.1 1 (1130 + 4 * g) < t
          · rw [if_pos q3, if_pos q3]; exact hgo 0 (Or.inl rfl)
          · rw [if_neg q3, if_neg q3]; exact hgo 1 (Or.inr rfl)
      · rw [if_neg q2, if_neg q2]; exact hskip C h
theorem places_loop (KC : Int32 → Int32 → Int32 → eMem → Option eMem) (KR : Int32 → Int32 → Int32 → Int32 → eMem → Option eMem) (v3 kn u : Int32) (ce : Int32) : ∀ m j, j + m = 4 → ∀ (C R : eMem), Rel C R → ∀ f1 f2, m < f1 → m < f2 → ∃ C2 R2, F_X8_seeUnits_102 KC f1 kn ce u (nI j) C = KC kn ce u C2 ∧ F_X10_flies_220 KR f2 ce v3 kn u (nI j) R = KR ce v3 kn u R2 ∧ Rel C2 R2 ∧ kq R R2 := by
  intro m
  induction m with
  | zero =>
    intro j hj C R h f1 f2 h1 h2
    obtain ⟨f1, rfl⟩ : ∃ x, f1 = x + 1 := ⟨f1 - 1, by omega⟩
    obtain ⟨f2, rfl⟩ : ∃ x, f2 = x + 1 := ⟨f2 - 1, by omega⟩
    have hn : ¬ nI j < 4 := fun q => by have := (lt_lit (n := 4) rfl (by omega)).mp q; omega
    rw [F_X8_seeUnits_102, F_X10_flies_220, if_neg hn, if_neg hn]
    exact ⟨C, R, rfl, rfl, h, kq.rf⟩
  | succ m ih =>
    intro j hj C R h f1 f2 h1 h2
    obtain ⟨wSc, wGr, wRo, wUn, wPl, wHe, wSh, wRe, wFl, wLi, wBo, wTx, wTc, wz, i1, i2, i3, i4, i5, i6⟩ := id h.1; obtain ⟨c0, c1, c2, c3, c4, c5, c6, c7, c8, c9, c10, c11, c12, c13⟩ := id wSc; obtain ⟨⟨z0, y0⟩, ⟨f5, g5, y5, z5⟩, ⟨t6, y6, z6⟩, ⟨z7, y7⟩, ⟨z8, y8⟩, ⟨z9, y9⟩, ⟨z10, y10⟩, ⟨z11, y11⟩, ⟨z12, y12⟩, ⟨z13, y13⟩⟩ := id i1
    obtain ⟨f1, rfl⟩ : ∃ x, f1 = x + 1 := ⟨f1 - 1, by omega⟩
    obtain ⟨f2, rfl⟩ : ∃ x, f2 = x + 1 := ⟨f2 - 1, by omega⟩
    have hn : nI j < 4 := (lt_lit (n := 4) rfl (by omega)).mpr (by omega)
    rw [F_X8_seeUnits_102, F_X10_flies_220, if_pos hn, if_pos hn, Ladd_290, eIn_s (show j < 4 by omega) (by omega), eIn_s (show 290 + j < 2900 by omega) (by omega), cl (show j < 2147483648 by omega), cl (show 290 + j < 2147483648 by omega), wPl j (by omega), Rad_1]
    simp only [eG_tt]
    by_cases q : R.1 1 (290 + j) = ce
    · rw [if_pos q, if_pos q]
      unfold F_X8_reportStory
      obtain ⟨C3, v, R3, e1, e2, e3, e4⟩ := comes_any h (k := 0) (st := j) (b := 1) (kn := kn) (x6 := -1) (by omega) (by omega) (Or.inr rfl) (fun q => by omega)
      rw [show nI 0 = 0 from rfl] at e1 e2
      rw [c0, e1, e2]
      simp only [bS]
      obtain ⟨C4, R4, g1, g2, g3, g4⟩ := ih (j + 1) (by omega) C3 R3 e3 f1 f2 (by omega) (by omega)
      exact ⟨C4, R4, g1, g2, g3, e4.tr g4⟩
    · rw [if_neg q, if_neg q]
      exact ih (j + 1) (by omega) C R h f1 f2 (by omega) (by omega)
theorem hidden_loop {C R : eMem} (h : Rel C R) {v3 kn : Int32} {ce : Nat} (hce : ce ≤ 95) (h1 : R.1 1 (14 + ce) = 1) (h2 : 2 < v3) : ∀ m j, j + m = nU (R.1 1) → ∀ f, m < f → F_X10_flies_143 f (nI ce) v3 kn (nI j) R = some R := by
  obtain ⟨wSc, wGr, wRo, wUn, wPl, wHe, wSh, wRe, wFl, wLi, wBo, wTx, wTc, wz, i1, i2, i3, i4, i5, i6⟩ := id h.1; obtain ⟨c0, c1, c2, c3, c4, c5, c6, c7, c8, c9, c10, c11, c12, c13⟩ := id wSc; obtain ⟨⟨z0, y0⟩, ⟨f5, g5, y5, z5⟩, ⟨t6, y6, z6⟩, ⟨z7, y7⟩, ⟨z8, y8⟩, ⟨z9, y9⟩, ⟨z10, y10⟩, ⟨z11, y11⟩, ⟨z12, y12⟩, ⟨z13, y13⟩⟩ := id i1
  intro m
  induction m with
  | zero =>
    intro j hj f hf
    obtain ⟨f, rfl⟩ : ∃ x, f = x + 1 := ⟨f - 1, by omega⟩
    rw [F_X10_flies_143, z8, if_neg (nI_nlt (by omega) (by omega))]
  | succ m ih =>
    intro j hj f hf
    obtain ⟨f, rfl⟩ : ∃ x, f = x + 1 := ⟨f - 1, by omega⟩
    rw [F_X10_flies_143, z8, if_pos (nI_lt (by omega) (by omega)), Ladd_14, eIn_s (show 14 + ce < 2900 by omega) (by omega), cl (show 14 + ce < 2147483648 by omega), eG_tt, if_pos h1, if_pos h2]
    unfold F_X10_flies_178
    rw [uat_0, uat_2]
    simp only [bS]
    rw [eIn_s (show 230 + 5 * j < 2900 by omega) (by omega), cl (show 230 + 5 * j < 2147483648 by omega), eIn_s (show 232 + 5 * j < 2900 by omega) (by omega), cl (show 232 + 5 * j < 2147483648 by omega)]
    simp only [eG_tt]
    rw [if_neg (show ¬ (1 : Int32) = 0 by decide), ite_self, ite_self, Rad_1]
    exact ih (j + 1) (by omega) f (by omega)
theorem units_loop (v3 kn : Int32) (ce : Nat) (hce : ce ≤ 95) : ∀ m j, ∀ (C R : eMem), Rel C R → j + m = nU (R.1 1) → ¬ (R.1 1 (14 + ce) = 1 ∧ 2 < v3) → ∀ f1 f2, m < f1 → m < f2 →
    ∃ C2 R2, F_X8_seeUnits_58 f1 kn (nI ce) (nI j) C = some C2 ∧ F_X10_flies_143 f2 (nI ce) v3 kn (nI j) R = some R2 ∧ Rel C2 R2 ∧ kq R R2 := by
  intro m
  induction m with
  | zero =>
    intro j C R h hj hh f1 f2 h1 h2
    obtain ⟨wSc, wGr, wRo, wUn, wPl, wHe, wSh, wRe, wFl, wLi, wBo, wTx, wTc, wz, i1, i2, i3, i4, i5, i6⟩ := id h.1; obtain ⟨c0, c1, c2, c3, c4, c5, c6, c7, c8, c9, c10, c11, c12, c13⟩ := id wSc; obtain ⟨⟨z0, y0⟩, ⟨f5, g5, y5, z5⟩, ⟨t6, y6, z6⟩, ⟨z7, y7⟩, ⟨z8, y8⟩, ⟨z9, y9⟩, ⟨z10, y10⟩, ⟨z11, y11⟩, ⟨z12, y12⟩, ⟨z13, y13⟩⟩ := id i1
    obtain ⟨f1, rfl⟩ : ∃ x, f1 = x + 1 := ⟨f1 - 1, by omega⟩
    obtain ⟨f2, rfl⟩ : ∃ x, f2 = x + 1 := ⟨f2 - 1, by omega⟩
    rw [F_X8_seeUnits_58, F_X10_flies_143, c8, z8, if_neg (nI_nlt (by omega) (by omega)), if_neg (nI_nlt (by omega) (by omega))]
    exact ⟨C, R, rfl, rfl, h, kq.rf⟩
  | succ m ih =>
    intro j C R h hj hh f1 f2 h1 h2
    obtain ⟨wSc, wGr, wRo, wUn, wPl, wHe, wSh, wRe, wFl, wLi, wBo, wTx, wTc, wz, i1, i2, i3, i4, i5, i6⟩ := id h.1; obtain ⟨c0, c1, c2, c3, c4, c5, c6, c7, c8, c9, c10, c11, c12, c13⟩ := id wSc; obtain ⟨⟨z0, y0⟩, ⟨f5, g5, y5, z5⟩, ⟨t6, y6, z6⟩, ⟨z7, y7⟩, ⟨z8, y8⟩, ⟨z9, y9⟩, ⟨z10, y10⟩, ⟨z11, y11⟩, ⟨z12, y12⟩, ⟨z13, y13⟩⟩ := id i1
    obtain ⟨f1, rfl⟩ : ∃ x, f1 = x + 1 := ⟨f1 - 1, by omega⟩
    obtain ⟨f2, rfl⟩ : ∃ x, f2 = x + 1 := ⟨f2 - 1, by omega⟩
    obtain ⟨u0, u1, u2, u3⟩ := wUn j (by omega)
    have hskip := ih (j + 1) C R h (by omega) hh f1 f2 (by omega) (by omega)
    rw [F_X8_seeUnits_58, F_X10_flies_143, c8, z8, if_pos (nI_lt (by omega) (by omega)), if_pos (nI_lt (by omega) (by omega)), Ladd_14, eIn_s (show 14 + ce < 2900 by omega) (by omega), cl (show 14 + ce < 2147483648 by omega), eG_tt]
    have h178 : (if R.1 1 (14 + ce) = 1 then if 2 < v3 then F_X10_flies_178 (fun v2 v3 v4 v5 M => F_X10_flies_143 f2 v2 v3 v4 v5 M) (nI ce) v3 kn (nI j) 1 R else F_X10_flies_177 (fun v2 v3 v4 v5 M => F_X10_flies_143 f2 v2 v3 v4 v5 M) (nI ce) v3 kn (nI j) R else F_X10_flies_177 (fun v2 v3 v4 v5 M => F_X10_flies_143 f2 v2 v3 v4 v5 M) (nI ce) v3 kn (nI j) R) = F_X10_flies_178 (fun v2 v3 v4 v5 M => F_X10_flies_143 f2 v2 v3 v4 v5 M) (nI ce) v3 kn (nI j) 0 R := by
      by_cases q1 : R.1 1 (14 + ce) = 1
      · rw [if_pos q1, if_neg (fun q2 => hh ⟨q1, q2⟩)]; rfl
      · rw [if_neg q1]; rfl
    rw [h178]
    unfold F_X10_flies_178
    rw [uat_0, uat_2]
    simp only [bS]
    rw [eIn_s (show 230 + 5 * j < 2900 by omega) (by omega), cl (show 230 + 5 * j < 2147483648 by omega), eIn_s (show 232 + 5 * j < 2900 by omega) (by omega), cl (show 232 + 5 * j < 2147483648 by omega), eIn_s (show j < 12 by omega) (by omega), cl (show j < 2147483648 by omega), u0]
    simp only [eG_tt]
    rw [Rad_1]
    by_cases q : R.1 1 (230 + 5 * j) = nI ce
    · rw [if_pos q, if_pos q]
      rcases onroad_both h.1 (k := j) (by omega) with ⟨q1, q2⟩ | ⟨q1, q2⟩
      · rw [q1, if_pos q2]
        simp only [bS, ↓reduceIte]
        obtain ⟨C2, R2, e1, e2, e3, e4⟩ := places_loop (fun v2 v3 v4 M => F_X8_seeUnits_58 f1 v2 v3 (v4 + 1) M) (fun v2 v3 v4 v5 M => F_X10_flies_143 f2 v2 v3 v4 (v5 + 1) M) v3 kn (nI j) (nI ce) 4 0 rfl C R h eFuel eFuel (by unfold eFuel; omega) (by unfold eFuel; omega)
        rw [show nI 0 = 0 from rfl] at e1 e2
        rw [e1, e2, Rad_1]
        obtain ⟨C4, R4, g1, g2, g3, g4⟩ := ih (j + 1) C2 R2 e3 (by rw [e4.U]; omega) (by rw [e4.1 (14 + ce) (by omega) (by omega) (by omega)]; exact hh) f1 f2 (by omega) (by omega)
        exact ⟨C4, R4, g1, g2, g3, e4.tr g4⟩
      · rw [q1, if_neg q2]
        simp only [bS, i10, ↓reduceIte]
        exact hskip
    · rw [if_neg q, if_neg q]
      exact hskip
theorem flies_both {C R : eMem} (h : Rel C R) {g : Nat} (hg : g < nF (R.1 1)) (hs : ¬ 9 < R.1 1 (1130 + 4 * g) + R.1 1 2) : ∃ C2 C3 R2, F_X8_seeShows (nI g) C = some C2 ∧ F_X8_seeUnits (nI g) C2 = some C3 ∧ F_X10_flies (nI (1128 + 4 * g)) R = some R2 ∧ Rel C3 R2 ∧ kq R R2 := by
  obtain ⟨wSc, wGr, wRo, wUn, wPl, wHe, wSh, wRe, wFl, wLi, wBo, wTx, wTc, wz, i1, i2, i3, i4, i5, i6⟩ := id h.1; obtain ⟨c0, c1, c2, c3, c4, c5, c6, c7, c8, c9, c10, c11, c12, c13⟩ := id wSc; obtain ⟨⟨z0, y0⟩, ⟨f5, g5, y5, z5⟩, ⟨t6, y6, z6⟩, ⟨z7, y7⟩, ⟨z8, y8⟩, ⟨z9, y9⟩, ⟨z10, y10⟩, ⟨z11, y11⟩, ⟨z12, y12⟩, ⟨z13, y13⟩⟩ := id i1
  obtain ⟨l0, l1, l2, l3⟩ := wFl g hg
  obtain ⟨ce, hce, l5⟩ := i6 g hg
  unfold F_X8_seeShows F_X10_flies
  simp (disch := omega) only [eIn_s, eG_tt, cl, nI_add, bS, Ladd_0, Ladd_1, Ladd_2, Ladd_3, Ladd_4, Ladd_5, Ladd_6, Ladd_7, Ladd_8, Ladd_10, Ladd_12, Ladd_14, Ladd_20, Ladd_23, Ladd_24, Ladd_110, Ladd_200, Ladd_230, Ladd_290, Ladd_294, Ladd_298, Ladd_498, Ladd_1128, Ladd_1248, Ladd_1278, Ladd_1764, Rad_0, Rad_1, Rad_2, Rad_3, Rad_4, Rad_5, Rad_6, Rad_7, Rad_8, Rad_10, Rad_12, Rad_14, Rad_20, Rad_23, Rad_24, Rad_110, Rad_200, Rad_230, Rad_290, Rad_294, Rad_298, Rad_498, Rad_1128, Rad_1248, Rad_1278, Rad_1764, Mul_2, Mul_3, Mul_4, Mul_5, Mul_6, Mul_7, Mul_10, Mul_20, Mul_23, Mul_24, Mul_142]
  rw [show 1128 + 4 * g + 1 = 1129 + 4 * g by omega, show 1128 + 4 * g + 2 = 1130 + 4 * g by omega, show 1128 + 4 * g + 3 = 1131 + 4 * g by omega, if_neg hs, c0, l3]
  obtain ⟨C2, R2, a1, a2, a3, a4⟩ := seeShows_loop (fun v2 v3 v4 M => F_X10_flies_143 eFuel v2 v3 v4 0 M) (g := g) (R.1 1 0 + R.1 1 (1131 + 4 * g)) (nS (R.1 1)) 0 C R h (by omega) hg eFuel eFuel (by unfold eFuel; omega) (by unfold eFuel; omega)
  rw [show nI 0 = 0 from rfl] at a1 a2
  rw [a1, a2]
  obtain ⟨wSc', wGr', -, -, -, -, -, -, wFl', -⟩ := id a3.1
  obtain ⟨m0, m1, m2, m3⟩ := wFl' g (by rw [a4.F]; exact hg)
  refine ⟨C2, ?_⟩
  unfold F_X8_seeUnits F_X8_seeUnits_55
  simp (disch := omega) only [eIn_s, eG_tt, cl, nI_add, bS, Ladd_0, Ladd_1, Ladd_2, Ladd_3, Ladd_4, Ladd_5, Ladd_6, Ladd_7, Ladd_8, Ladd_10, Ladd_12, Ladd_14, Ladd_20, Ladd_23, Ladd_24, Ladd_110, Ladd_200, Ladd_230, Ladd_290, Ladd_294, Ladd_298, Ladd_498, Ladd_1128, Ladd_1248, Ladd_1278, Ladd_1764, Rad_0, Rad_1, Rad_2, Rad_3, Rad_4, Rad_5, Rad_6, Rad_7, Rad_8, Rad_10, Rad_12, Rad_14, Rad_20, Rad_23, Rad_24, Rad_110, Rad_200, Rad_230, Rad_290, Rad_294, Rad_298, Rad_498, Rad_1128, Rad_1248, Rad_1278, Rad_1764, Mul_2, Mul_3, Mul_4, Mul_5, Mul_6, Mul_7, Mul_10, Mul_20, Mul_23, Mul_24, Mul_142]
  rw [m1, m2, m3, wSc'.1, a4.1 0 (by omega) (by omega) (by omega), a4.2 (1129 + 4 * g) (by omega) (by omega), a4.2 (1130 + 4 * g) (by omega) (by omega), a4.2 (1131 + 4 * g) (by omega) (by omega), l5, eIn_s (show ce < 96 by omega) (by omega), cl (show ce < 2147483648 by omega), wGr' ce (by omega)]
  simp only [eG_tt]
  by_cases hh : R2.1 1 (14 + ce) = 1 ∧ 2 < R.1 1 (1130 + 4 * g)
  · rw [if_pos hh.1, if_pos hh.2]
    have hl := hidden_loop a3 (v3 := R.1 1 (1130 + 4 * g)) (kn := R.1 1 0 + R.1 1 (1131 + 4 * g)) hce hh.1 hh.2 (nU (R2.1 1)) 0 (by omega) eFuel (by have := a3.1.2.2.2.2.2.2.2.2.2.2.2.2.2.2.1.2.2.2.2.1.2; unfold eFuel; omega)
    rw [show nI 0 = 0 from rfl] at hl
    exact ⟨C2, R2, trivial, rfl, hl, a3, a4⟩
  · have e : (if R2.1 1 (14 + ce) = 1 then if 2 < R.1 1 (1130 + 4 * g) then some C2 else F_X8_seeUnits_58 eFuel (R.1 1 0 + R.1 1 (1131 + 4 * g)) (nI ce) 0 C2 else F_X8_seeUnits_58 eFuel (R.1 1 0 + R.1 1 (1131 + 4 * g)) (nI ce) 0 C2) = F_X8_seeUnits_58 eFuel (R.1 1 0 + R.1 1 (1131 + 4 * g)) (nI ce) 0 C2 := by
      by_cases q1 : R2.1 1 (14 + ce) = 1
      · rw [if_pos q1, if_neg (fun q2 => hh ⟨q1, q2⟩)]
      · rw [if_neg q1]
    have hu12 := a3.1.2.2.2.2.2.2.2.2.2.2.2.2.2.2.1.2.2.2.2.1.2
    obtain ⟨C3, R3, b1, b2, b3, b4⟩ := units_loop (R.1 1 (1130 + 4 * g)) (R.1 1 0 + R.1 1 (1131 + 4 * g)) ce hce (nU (R2.1 1)) 0 C2 R2 a3 (by omega) hh eFuel eFuel (by unfold eFuel; omega) (by unfold eFuel; omega)
    rw [show nI 0 = 0 from rfl] at b1 b2
    exact ⟨C3, R3, trivial, e.trans b1, b2, b3, a4.tr b4⟩
theorem flights_loop (KC KR : eMem → Option eMem) : ∀ m j, ∀ (C R : eMem), Rel C R → j + m = nF (R.1 1) → ∀ f1 f2, m < f1 → m < f2 → ∃ C2 R2, F_X8_closeHour_16 KC f1 (nI j) C = KC C2 ∧ F_X10_oneHour_6 KR f2 (nI j) R = KR R2 ∧ Rel C2 R2 ∧ kq R R2 := by
  intro m
  induction m with
  | zero =>
    intro j C R h hj f1 f2 h1 h2
    obtain ⟨wSc, wGr, wRo, wUn, wPl, wHe, wSh, wRe, wFl, wLi, wBo, wTx, wTc, wz, i1, i2, i3, i4, i5, i6⟩ := id h.1; obtain ⟨c0, c1, c2, c3, c4, c5, c6, c7, c8, c9, c10, c11, c12, c13⟩ := id wSc; obtain ⟨⟨z0, y0⟩, ⟨f5, g5, y5, z5⟩, ⟨t6, y6, z6⟩, ⟨z7, y7⟩, ⟨z8, y8⟩, ⟨z9, y9⟩, ⟨z10, y10⟩, ⟨z11, y11⟩, ⟨z12, y12⟩, ⟨z13, y13⟩⟩ := id i1
    obtain ⟨f1, rfl⟩ : ∃ x, f1 = x + 1 := ⟨f1 - 1, by omega⟩
    obtain ⟨f2, rfl⟩ : ∃ x, f2 = x + 1 := ⟨f2 - 1, by omega⟩
    rw [F_X8_closeHour_16, F_X10_oneHour_6, c12, z12, if_neg (nI_nlt (by omega) (by omega)), if_neg (nI_nlt (by omega) (by omega))]
    exact ⟨C, R, rfl, rfl, h, kq.rf⟩
  | succ m ih =>
    intro j C R h hj f1 f2 h1 h2
    obtain ⟨wSc, wGr, wRo, wUn, wPl, wHe, wSh, wRe, wFl, wLi, wBo, wTx, wTc, wz, i1, i2, i3, i4, i5, i6⟩ := id h.1; obtain ⟨c0, c1, c2, c3, c4, c5, c6, c7, c8, c9, c10, c11, c12, c13⟩ := id wSc; obtain ⟨⟨z0, y0⟩, ⟨f5, g5, y5, z5⟩, ⟨t6, y6, z6⟩, ⟨z7, y7⟩, ⟨z8, y8⟩, ⟨z9, y9⟩, ⟨z10, y10⟩, ⟨z11, y11⟩, ⟨z12, y12⟩, ⟨z13, y13⟩⟩ := id i1
    obtain ⟨f1, rfl⟩ : ∃ x, f1 = x + 1 := ⟨f1 - 1, by omega⟩
    obtain ⟨f2, rfl⟩ : ∃ x, f2 = x + 1 := ⟨f2 - 1, by omega⟩
    obtain ⟨l0, l1, l2, l3⟩ := wFl j (by omega)
    have hskip := ih (j + 1) C R h (by omega) f1 f2 (by omega) (by omega)
    rw [F_X8_closeHour_16, F_X10_oneHour_6, c12, z12, if_pos (nI_lt (by omega) (by omega)), if_pos (nI_lt (by omega) (by omega))]
    unfold F_X2_isSeeing
    rw [Mul_4, Ladd_1128, eIn_s (show 1128 + 4 * j < 2900 by omega) (by omega), cl (show 1128 + 4 * j < 2147483648 by omega), eIn_s (show j < 30 by omega) (by omega), cl (show j < 2147483648 by omega), l0, l2, c0, c2, Rad_1]
    simp only [eG_tt]
    by_cases q : R.1 1 (1128 + 4 * j) = R.1 1 0
    · rw [if_pos q, if_pos q]
      by_cases q2 : 9 < R.1 1 (1130 + 4 * j) + R.1 1 2
      · rw [if_pos q2]
        simp only [bS, ↓reduceIte]
        unfold F_X10_flies
        rw [Rad_1 (1128 + 4 * j), Rad_2, show 1128 + 4 * j + 1 = 1129 + 4 * j by omega, show 1128 + 4 * j + 2 = 1130 + 4 * j by omega, eIn_s (show 1129 + 4 * j < 2900 by omega) (by omega), eIn_s (show 1130 + 4 * j < 2900 by omega) (by omega), cl (show 1130 + 4 * j < 2147483648 by omega)]
        simp only [eG_tt]
        rw [if_pos q2]
        exact hskip
      · rw [if_neg q2]
        simp only [bS, i10, ↓reduceIte]
        obtain ⟨C2, C3, R2, a1, a2, a3, a4, a5⟩ := flies_both h (g := j) (by omega) q2
        rw [a1, a3]
        simp only [bS]
        rw [a2]
        simp only [bS]
        obtain ⟨C4, R4, g1, g2, g3, g4⟩ := ih (j + 1) C3 R2 a4 (by rw [a5.F]; omega) f1 f2 (by omega) (by omega)
        exact ⟨C4, R4, g1, g2, g3, a5.tr g4⟩
    · rw [if_neg q, if_neg q]
      simp only [bS, ↓reduceIte]
      exact hskip
