/-! the calls on shows -/
theorem nS_mono {s s2 : Nat → Int32} {n : Nat} (h : s2 9 = nI n) (hn : n < 2147483648) (hl : nS s ≤ n) : nS s ≤ nS s2 := by
  rw [nS_of h hn]; exact hl
theorem n100 (a : Nat) (h : a < 2147483648) : nI a / 100 = nI (a / 100) ∧ nI a - nI a / 100 * 100 = nI (a - a / 100 * 100) := by
  have e : nI a / 100 = nI (a / 100) := by rw [show (100 : Int32) = nI 100 from rfl, pk_div h (by omega) (by omega)]
  refine ⟨e, ?_⟩
  rw [e, show (100 : Int32) = nI 100 from rfl, nI_mul, nI_sub (by omega)]
theorem n10 (a : Nat) (h : a < 2147483648) : nI a / 10 = nI (a / 10) ∧ nI a - nI a / 10 * 10 = nI (a - a / 10 * 10) := by
  have e : nI a / 10 = nI (a / 10) := by rw [show (10 : Int32) = nI 10 from rfl, pk_div h (by omega) (by omega)]
  refine ⟨e, ?_⟩
  rw [e, show (10 : Int32) = nI 10 from rfl, nI_mul, nI_sub (by omega)]
theorem st_as {C R : eMem} (h : Rel C R) (x1 x2 : Int32) : Step (F_X9_as x1 x2 C) (F_X10_as x1 x2 R) := by
  obtain ⟨wSc, wGr, wRo, wUn, wPl, wHe, wSh, wRe, wFl, wLi, wBo, wTx, wTc, wz, i1, i2, i3, i4, i5, i6⟩ := id h.1; obtain ⟨c0, c1, c2, c3, c4, c5, c6, c7, c8, c9, c10, c11, c12, c13⟩ := id wSc; obtain ⟨⟨z0, y0⟩, ⟨f5, g5, y5, z5⟩, ⟨t6, y6, z6⟩, ⟨z7, y7⟩, ⟨z8, y8⟩, ⟨z9, y9⟩, ⟨z10, y10⟩, ⟨z11, y11⟩, ⟨z12, y12⟩, ⟨z13, y13⟩⟩ := id i1
  unfold F_X9_as F_X10_as
  rw [has_eq, isShow_eq, c9]
  rcases rngN x1 (R.1 1 9) _ z9 (by omega) with ⟨k, hk, rfl, e1, e2⟩ | ⟨e1, e2⟩ <;> rw [e1, e2] <;> simp only [bS, i10, i00, ↓reduceIte]
  · rcases rng x2 7 6 7 rfl rfl with ⟨g, hg, rfl, f1, f2⟩ | ⟨f1, f2⟩ <;> rw [f1, f2] <;> simp only [bS, i10, i00, ↓reduceIte]
    · rw [show_0 k R (by omega), under_eq]
      simp (disch := omega) only [eIn_s, eG_tt, cl, nI_add, bS, Ladd_0, Ladd_1, Ladd_2, Ladd_3, Ladd_4, Ladd_5, Ladd_6, Ladd_7, Ladd_8, Ladd_10, Ladd_12, Ladd_14, Ladd_20, Ladd_23, Ladd_24, Ladd_110, Ladd_200, Ladd_230, Ladd_290, Ladd_294, Ladd_298, Ladd_498, Ladd_1128, Ladd_1248, Ladd_1278, Ladd_1764, Rad_0, Rad_1, Rad_2, Rad_3, Rad_4, Rad_5, Rad_6, Rad_7, Rad_8, Rad_10, Rad_12, Rad_14, Rad_20, Rad_23, Rad_24, Rad_110, Rad_200, Rad_230, Rad_290, Rad_294, Rad_298, Rad_498, Rad_1128, Rad_1248, Rad_1278, Rad_1764, Mul_2, Mul_3, Mul_4, Mul_5, Mul_6, Mul_7, Mul_10, Mul_20, Mul_23, Mul_24, Mul_142]
      rw [(wSh k hk).1]
      rcases under01 (R.1 1 (298 + 10 * k)) (nI g) with q | q <;> rw [q] <;> simp only [bS, i10, i00, ↓reduceIte]
      · exact stf3 h
      · exact stepI rfl h
    · exact stf1 h
  · exact stf1 h
theorem st_stand {C R : eMem} (h : Rel C R) (x1 x2 : Int32) (hx : x2 = 0 ∨ x2 = 1) : Step (F_X9_stand x1 x2 C) (F_X10_stand x1 x2 R) := by
  obtain ⟨wSc, wGr, wRo, wUn, wPl, wHe, wSh, wRe, wFl, wLi, wBo, wTx, wTc, wz, i1, i2, i3, i4, i5, i6⟩ := id h.1; obtain ⟨c0, c1, c2, c3, c4, c5, c6, c7, c8, c9, c10, c11, c12, c13⟩ := id wSc; obtain ⟨⟨z0, y0⟩, ⟨f5, g5, y5, z5⟩, ⟨t6, y6, z6⟩, ⟨z7, y7⟩, ⟨z8, y8⟩, ⟨z9, y9⟩, ⟨z10, y10⟩, ⟨z11, y11⟩, ⟨z12, y12⟩, ⟨z13, y13⟩⟩ := id i1
  unfold F_X9_stand F_X10_stand F_X10_stand_29 F_X10_stand_49
  rw [has_eq, isShow_eq, c9]
  rcases rngN x1 (R.1 1 9) _ z9 (by omega) with ⟨k, hk, rfl, e1, e2⟩ | ⟨e1, e2⟩ <;> rw [e1, e2] <;> simp only [bS, i10, i00, ↓reduceIte]
  · obtain ⟨s0, s1, s2, s3, s4, s5, s6, s7, s8, s9⟩ := wSh k hk
    obtain ⟨x0, x1, x3, x4, x5, x7, x8⟩ := i4 k hk
    simp (disch := omega) only [show_5, set_5, set_6, bS]
    simp (disch := omega) only [eIn_s, eG_tt, cl, nI_add, bS, Ladd_0, Ladd_1, Ladd_2, Ladd_3, Ladd_4, Ladd_5, Ladd_6, Ladd_7, Ladd_8, Ladd_10, Ladd_12, Ladd_14, Ladd_20, Ladd_23, Ladd_24, Ladd_110, Ladd_200, Ladd_230, Ladd_290, Ladd_294, Ladd_298, Ladd_498, Ladd_1128, Ladd_1248, Ladd_1278, Ladd_1764, Rad_0, Rad_1, Rad_2, Rad_3, Rad_4, Rad_5, Rad_6, Rad_7, Rad_8, Rad_10, Rad_12, Rad_14, Rad_20, Rad_23, Rad_24, Rad_110, Rad_200, Rad_230, Rad_290, Rad_294, Rad_298, Rad_498, Rad_1128, Rad_1248, Rad_1278, Rad_1764, Mul_2, Mul_3, Mul_4, Mul_5, Mul_6, Mul_7, Mul_10, Mul_20, Mul_23, Mul_24, Mul_142]
    rw [s5]
    have hgo : ∀ w, (w = 0 ∨ w = 1) → Step (some ((1 : Int32), eI (eI C 18 k w) 19 k (C.1 2 11))) (some ((1 : Int32), eI (eI R 1 (303 + 10 * k) w) 1 (304 + 10 * k) ((eI R 1 (303 + 10 * k) w).1 1 0))) := by
      intro w hw
      simp (disch := omega) only [eIq_ne, eIq_eq, upd_ne, upd_eq]
      refine stepI rfl ?_
      refine h.now (by simp (disch := omega) only [eIq_ne, eIq_eq, upd_ne, upd_eq]) (fun p hp => by simp (disch := omega) only [eIq_ne, eIq_eq, upd_ne, upd_eq]) (by simp (disch := omega) only [eIq_ne, eIq_eq, upd_ne, upd_eq]) (by simp (disch := omega) only [eIq_ne, eIq_eq, upd_ne, upd_eq]) (fun p p1 p2 => by simp (disch := omega) only [eIq_ne, eIq_eq, upd_ne, upd_eq]) (h.1.sh (fun p p1 p2 p3 p4 p5 p6 p7 p8 p9 p10 p11 p12 => by simp (disch := omega) only [eIq_ne, eIq_eq, upd_ne, upd_eq]) (fun j j1 j2 j3 => by simp (disch := omega) only [eIq_ne, eIq_eq, upd_ne, upd_eq]) (by refine ⟨?_, ?_, ?_, ?_, ?_, ?_, ?_, ?_, ?_, ?_, ?_, ?_, ?_, ?_⟩ <;> (simp (disch := omega) only [eIq_ne, eIq_eq, upd_ne, upd_eq] <;> first | assumption | (simp only [*]; done))) (wSh_mk (n := nS (R.1 1)) (by simp (disch := omega) only [eIq_ne, eIq_eq, upd_ne, upd_eq]; exact z9) (by omega) (fun i hi => ?_)) ?_ (iSc_mk  (by simp (disch := omega) only [eIq_ne, eIq_eq, upd_ne, upd_eq]; exact z0) y0 (by simp (disch := omega) only [eIq_ne, eIq_eq, upd_ne, upd_eq]; exact z5) g5 y5 (by simp (disch := omega) only [eIq_ne, eIq_eq, upd_ne, upd_eq]; exact z6) y6 (by simp (disch := omega) only [eIq_ne, eIq_eq, upd_ne, upd_eq]; exact z7) y7 (by simp (disch := omega) only [eIq_ne, eIq_eq, upd_ne, upd_eq]; exact z8) y8 (by simp (disch := omega) only [eIq_ne, eIq_eq, upd_ne, upd_eq]; exact z9) y9 (by simp (disch := omega) only [eIq_ne, eIq_eq, upd_ne, upd_eq]; exact z10) y10 (by simp (disch := omega) only [eIq_ne, eIq_eq, upd_ne, upd_eq]; exact z11) y11 (by simp (disch := omega) only [eIq_ne, eIq_eq, upd_ne, upd_eq]; exact z12) y12 (by simp (disch := omega) only [eIq_ne, eIq_eq, upd_ne, upd_eq]; exact z13) y13) (iSh_mk (n := nS (R.1 1)) (by simp (disch := omega) only [eIq_ne, eIq_eq, upd_ne, upd_eq]; exact z9) (by omega) (fun i hi => ?_)) (nS_mono (n := nS (R.1 1)) (by simp (disch := omega) only [eIq_ne, eIq_eq, upd_ne, upd_eq]; exact z9) (by omega) (Nat.le_refl _)) (fun x hx => by simp (disch := omega) only [eIq_ne, eIq_eq, upd_ne, upd_eq]))
      · by_cases e : i = k
        · subst e; refine ⟨?_, ?_, ?_, ?_, ?_, ?_, ?_, ?_, ?_, ?_⟩ <;> simp (disch := omega) only [eIq_ne, eIq_eq, upd_ne, upd_eq] <;> assumption
        · simp (disch := omega) only [eIq_ne, eIq_eq, upd_ne, upd_eq]; exact wSh i hi
      · refine ⟨fun i hi => ?_, fun i hi => ?_, fun i hi => ?_, fun i hi => ?_, fun i hi => ?_, fun i hi => ?_, fun i hi => ?_⟩
        · simp (disch := omega) only [eIq_ne, eIq_eq, upd_ne, upd_eq]
          by_cases e : i = k
          · subst e; simp (disch := omega) only [eIq_ne, eIq_eq, upd_ne, upd_eq]; exact hw
          · simp (disch := omega) only [eIq_ne, eIq_eq, upd_ne, upd_eq]; exact wz.1 i hi
        · simp (disch := omega) only [eIq_ne, eIq_eq, upd_ne, upd_eq]; exact wz.2.1 i hi
        · simp (disch := omega) only [eIq_ne, eIq_eq, upd_ne, upd_eq]; exact wz.2.2.1 i hi
        · simp (disch := omega) only [eIq_ne, eIq_eq, upd_ne, upd_eq]; exact wz.2.2.2.1 i hi
        · simp (disch := omega) only [eIq_ne, eIq_eq, upd_ne, upd_eq]; exact wz.2.2.2.2.1 i hi
        · simp (disch := omega) only [eIq_ne, eIq_eq, upd_ne, upd_eq]; exact wz.2.2.2.2.2.1 i hi
        · simp (disch := omega) only [eIq_ne, eIq_eq, upd_ne, upd_eq]; exact wz.2.2.2.2.2.2 i hi
      · by_cases e : i = k
        · subst e; simp (disch := omega) only [eIq_ne, eIq_eq, upd_ne, upd_eq]; exact ⟨x0, x1, x3, x4, hw, x7, x8⟩
        · simp (disch := omega) only [eIq_ne, eIq_eq, upd_ne, upd_eq]; exact i4 i hi
    rcases x5 with q | q <;> rw [q] <;> rcases hx with rfl | rfl
    · simp only [i00, i10, ↓reduceIte, show ((0 : Int32) = 1) = False by decide]; exact stepI rfl h
    · simp only [i00, i10, ↓reduceIte, show ((0 : Int32) = 1) = False by decide]; exact hgo 1 (Or.inr rfl)
    · simp only [i00, i10, ↓reduceIte]; exact hgo 0 (Or.inl rfl)
    · simp only [i00, i10, ↓reduceIte]; exact stepI rfl h
  · exact stf1 h
theorem st_hands {C R : eMem} (h : Rel C R) (x1 x2 : Int32) : Step (F_X9_hands x1 x2 C) (F_X10_hands x1 x2 R) := by
  obtain ⟨wSc, wGr, wRo, wUn, wPl, wHe, wSh, wRe, wFl, wLi, wBo, wTx, wTc, wz, i1, i2, i3, i4, i5, i6⟩ := id h.1; obtain ⟨c0, c1, c2, c3, c4, c5, c6, c7, c8, c9, c10, c11, c12, c13⟩ := id wSc; obtain ⟨⟨z0, y0⟩, ⟨f5, g5, y5, z5⟩, ⟨t6, y6, z6⟩, ⟨z7, y7⟩, ⟨z8, y8⟩, ⟨z9, y9⟩, ⟨z10, y10⟩, ⟨z11, y11⟩, ⟨z12, y12⟩, ⟨z13, y13⟩⟩ := id i1
  unfold F_X9_hands F_X10_hands
  rw [has_eq, isShow_eq, c9, btw]
  rcases rngN x1 (R.1 1 9) _ z9 (by omega) with ⟨k, hk, rfl, e1, e2⟩ | ⟨e1, e2⟩ <;> rw [e1, e2] <;> simp only [bS, i10, i00, ↓reduceIte]
  · obtain ⟨s0, s1, s2, s3, s4, s5, s6, s7, s8, s9⟩ := wSh k hk
    obtain ⟨x0, x1, x3, x4, x5, x7, x8⟩ := i4 k hk
    rcases inL x2 0 90 0 90 rfl rfl with ⟨g, -, hg, rfl, f1⟩ | f1 <;> rw [f1] <;> simp only [bS, i10, i00, ↓reduceIte]
    · simp (disch := omega) only [show_8, set_8, bS]
      simp (disch := omega) only [eIn_s, eG_tt, cl, nI_add, bS, Ladd_0, Ladd_1, Ladd_2, Ladd_3, Ladd_4, Ladd_5, Ladd_6, Ladd_7, Ladd_8, Ladd_10, Ladd_12, Ladd_14, Ladd_20, Ladd_23, Ladd_24, Ladd_110, Ladd_200, Ladd_230, Ladd_290, Ladd_294, Ladd_298, Ladd_498, Ladd_1128, Ladd_1248, Ladd_1278, Ladd_1764, Rad_0, Rad_1, Rad_2, Rad_3, Rad_4, Rad_5, Rad_6, Rad_7, Rad_8, Rad_10, Rad_12, Rad_14, Rad_20, Rad_23, Rad_24, Rad_110, Rad_200, Rad_230, Rad_290, Rad_294, Rad_298, Rad_498, Rad_1128, Rad_1248, Rad_1278, Rad_1764, Mul_2, Mul_3, Mul_4, Mul_5, Mul_6, Mul_7, Mul_10, Mul_20, Mul_23, Mul_24, Mul_142]
      rw [s8, c3, btw]
      rcases in01 (R.1 1 3 + R.1 1 (306 + 10 * k) - nI g) 0 900 with ⟨q, -⟩ | q <;> rw [q] <;> simp only [bS, i10, i00, ↓reduceIte]
      · refine stepI rfl ?_
        refine h.now (by simp (disch := omega) only [eIq_ne, eIq_eq, upd_ne, upd_eq]) (fun p hp => by simp (disch := omega) only [eIq_ne, eIq_eq, upd_ne, upd_eq]) (by simp (disch := omega) only [eIq_ne, eIq_eq, upd_ne, upd_eq]) (by simp (disch := omega) only [eIq_ne, eIq_eq, upd_ne, upd_eq]) (fun p p1 p2 => by simp (disch := omega) only [eIq_ne, eIq_eq, upd_ne, upd_eq]) (h.1.sh (fun p p1 p2 p3 p4 p5 p6 p7 p8 p9 p10 p11 p12 => by simp (disch := omega) only [eIq_ne, eIq_eq, upd_ne, upd_eq]) (fun j j1 j2 j3 => by simp (disch := omega) only [eIq_ne, eIq_eq, upd_ne, upd_eq]) (by refine ⟨?_, ?_, ?_, ?_, ?_, ?_, ?_, ?_, ?_, ?_, ?_, ?_, ?_, ?_⟩ <;> (simp (disch := omega) only [eIq_ne, eIq_eq, upd_ne, upd_eq] <;> first | assumption | (simp only [*]; done))) (wSh_mk (n := nS (R.1 1)) (by simp (disch := omega) only [eIq_ne, eIq_eq, upd_ne, upd_eq]; exact z9) (by omega) (fun i hi => ?_)) ?_ (iSc_mk  (by simp (disch := omega) only [eIq_ne, eIq_eq, upd_ne, upd_eq]; exact z0) y0 (by simp (disch := omega) only [eIq_ne, eIq_eq, upd_ne, upd_eq]; exact z5) g5 y5 (by simp (disch := omega) only [eIq_ne, eIq_eq, upd_ne, upd_eq]; exact z6) y6 (by simp (disch := omega) only [eIq_ne, eIq_eq, upd_ne, upd_eq]; exact z7) y7 (by simp (disch := omega) only [eIq_ne, eIq_eq, upd_ne, upd_eq]; exact z8) y8 (by simp (disch := omega) only [eIq_ne, eIq_eq, upd_ne, upd_eq]; exact z9) y9 (by simp (disch := omega) only [eIq_ne, eIq_eq, upd_ne, upd_eq]; exact z10) y10 (by simp (disch := omega) only [eIq_ne, eIq_eq, upd_ne, upd_eq]; exact z11) y11 (by simp (disch := omega) only [eIq_ne, eIq_eq, upd_ne, upd_eq]; exact z12) y12 (by simp (disch := omega) only [eIq_ne, eIq_eq, upd_ne, upd_eq]; exact z13) y13) (iSh_mk (n := nS (R.1 1)) (by simp (disch := omega) only [eIq_ne, eIq_eq, upd_ne, upd_eq]; exact z9) (by omega) (fun i hi => ?_)) (nS_mono (n := nS (R.1 1)) (by simp (disch := omega) only [eIq_ne, eIq_eq, upd_ne, upd_eq]; exact z9) (by omega) (Nat.le_refl _)) (fun x hx => by simp (disch := omega) only [eIq_ne, eIq_eq, upd_ne, upd_eq]))
        · by_cases e : i = k
          · subst e; refine ⟨?_, ?_, ?_, ?_, ?_, ?_, ?_, ?_, ?_, ?_⟩ <;> simp (disch := omega) only [eIq_ne, eIq_eq, upd_ne, upd_eq] <;> assumption
          · simp (disch := omega) only [eIq_ne, eIq_eq, upd_ne, upd_eq]; exact wSh i hi
        · exact wZ_cg wz (fun i hi => by simp (disch := omega) only [eIq_ne, eIq_eq, upd_ne, upd_eq]) (fun i hi => by simp (disch := omega) only [eIq_ne, eIq_eq, upd_ne, upd_eq]) (fun i hi => by simp (disch := omega) only [eIq_ne, eIq_eq, upd_ne, upd_eq]) (fun i hi => by simp (disch := omega) only [eIq_ne, eIq_eq, upd_ne, upd_eq]) (fun i hi => by simp (disch := omega) only [eIq_ne, eIq_eq, upd_ne, upd_eq]) (fun i hi => by simp (disch := omega) only [eIq_ne, eIq_eq, upd_ne, upd_eq]) (fun i hi => by simp (disch := omega) only [eIq_ne, eIq_eq, upd_ne, upd_eq])
        · by_cases e : i = k
          · subst e; simp (disch := omega) only [eIq_ne, eIq_eq, upd_ne, upd_eq]; exact ⟨x0, x1, x3, x4, x5, x7, ⟨g, hg, rfl⟩⟩
          · simp (disch := omega) only [eIq_ne, eIq_eq, upd_ne, upd_eq]; exact i4 i hi
      · exact stf7 h
    · exact stf1 h
  · exact stf1 h
theorem st_mend {C R : eMem} (h : Rel C R) (x1 : Int32) : Step (F_X9_mend x1 C) (F_X10_mend x1 R) := by
  obtain ⟨wSc, wGr, wRo, wUn, wPl, wHe, wSh, wRe, wFl, wLi, wBo, wTx, wTc, wz, i1, i2, i3, i4, i5, i6⟩ := id h.1; obtain ⟨c0, c1, c2, c3, c4, c5, c6, c7, c8, c9, c10, c11, c12, c13⟩ := id wSc; obtain ⟨⟨z0, y0⟩, ⟨f5, g5, y5, z5⟩, ⟨t6, y6, z6⟩, ⟨z7, y7⟩, ⟨z8, y8⟩, ⟨z9, y9⟩, ⟨z10, y10⟩, ⟨z11, y11⟩, ⟨z12, y12⟩, ⟨z13, y13⟩⟩ := id i1
  unfold F_X9_mend F_X10_mend
  rw [has_eq, isShow_eq, c9]
  rcases rngN x1 (R.1 1 9) _ z9 (by omega) with ⟨k, hk, rfl, e1, e2⟩ | ⟨e1, e2⟩ <;> rw [e1, e2] <;> simp only [bS, i10, i00, ↓reduceIte]
  · obtain ⟨s0, s1, s2, s3, s4, s5, s6, s7, s8, s9⟩ := wSh k hk
    obtain ⟨x0, x1, x3, x4, x5, x7, ⟨g, hg, x8⟩⟩ := i4 k hk
    simp (disch := omega) only [show_7, show_8, set_7, set_8, bS]
    simp (disch := omega) only [eIn_s, eG_tt, cl, nI_add, bS, Ladd_0, Ladd_1, Ladd_2, Ladd_3, Ladd_4, Ladd_5, Ladd_6, Ladd_7, Ladd_8, Ladd_10, Ladd_12, Ladd_14, Ladd_20, Ladd_23, Ladd_24, Ladd_110, Ladd_200, Ladd_230, Ladd_290, Ladd_294, Ladd_298, Ladd_498, Ladd_1128, Ladd_1248, Ladd_1278, Ladd_1764, Rad_0, Rad_1, Rad_2, Rad_3, Rad_4, Rad_5, Rad_6, Rad_7, Rad_8, Rad_10, Rad_12, Rad_14, Rad_20, Rad_23, Rad_24, Rad_110, Rad_200, Rad_230, Rad_290, Rad_294, Rad_298, Rad_498, Rad_1128, Rad_1248, Rad_1278, Rad_1764, Mul_2, Mul_3, Mul_4, Mul_5, Mul_6, Mul_7, Mul_10, Mul_20, Mul_23, Mul_24, Mul_142]
    rw [s7, s8, x8]
    rcases x7 with q | q <;> rw [q] <;> simp only [bS, i10, i00, ↓reduceIte]
    · exact stf5 h
    · rcases Nat.eq_zero_or_pos g with g0 | g0
      · subst g0
        rw [if_pos (by decide), if_pos (by decide)]
        exact stf7 h
      · rw [if_neg (fun e => by have := (lt_lit (n := 1) rfl (by omega)).mp e; omega), if_neg (fun e => by have := (eq_lit (n := 0) rfl (by omega)).mp e; omega)]
        simp (disch := omega) only [eIq_ne, eIq_eq, upd_ne, upd_eq]
        rw [x8, show nI g - 1 = nI (g - 1) from nI_sub (b := 1) g0, show vp_nar .boolean (0 : Int32) = 0 from rfl]
        refine stepI rfl ?_
        refine h.now (by simp (disch := omega) only [eIq_ne, eIq_eq, upd_ne, upd_eq]) (fun p hp => by simp (disch := omega) only [eIq_ne, eIq_eq, upd_ne, upd_eq]) (by simp (disch := omega) only [eIq_ne, eIq_eq, upd_ne, upd_eq]) (by simp (disch := omega) only [eIq_ne, eIq_eq, upd_ne, upd_eq]) (fun p p1 p2 => by simp (disch := omega) only [eIq_ne, eIq_eq, upd_ne, upd_eq]) (h.1.sh (fun p p1 p2 p3 p4 p5 p6 p7 p8 p9 p10 p11 p12 => by simp (disch := omega) only [eIq_ne, eIq_eq, upd_ne, upd_eq]) (fun j j1 j2 j3 => by simp (disch := omega) only [eIq_ne, eIq_eq, upd_ne, upd_eq]) (by refine ⟨?_, ?_, ?_, ?_, ?_, ?_, ?_, ?_, ?_, ?_, ?_, ?_, ?_, ?_⟩ <;> (simp (disch := omega) only [eIq_ne, eIq_eq, upd_ne, upd_eq] <;> first | assumption | (simp only [*]; done))) (wSh_mk (n := nS (R.1 1)) (by simp (disch := omega) only [eIq_ne, eIq_eq, upd_ne, upd_eq]; exact z9) (by omega) (fun i hi => ?_)) ?_ (iSc_mk  (by simp (disch := omega) only [eIq_ne, eIq_eq, upd_ne, upd_eq]; exact z0) y0 (by simp (disch := omega) only [eIq_ne, eIq_eq, upd_ne, upd_eq]; exact z5) g5 y5 (by simp (disch := omega) only [eIq_ne, eIq_eq, upd_ne, upd_eq]; exact z6) y6 (by simp (disch := omega) only [eIq_ne, eIq_eq, upd_ne, upd_eq]; exact z7) y7 (by simp (disch := omega) only [eIq_ne, eIq_eq, upd_ne, upd_eq]; exact z8) y8 (by simp (disch := omega) only [eIq_ne, eIq_eq, upd_ne, upd_eq]; exact z9) y9 (by simp (disch := omega) only [eIq_ne, eIq_eq, upd_ne, upd_eq]; exact z10) y10 (by simp (disch := omega) only [eIq_ne, eIq_eq, upd_ne, upd_eq]; exact z11) y11 (by simp (disch := omega) only [eIq_ne, eIq_eq, upd_ne, upd_eq]; exact z12) y12 (by simp (disch := omega) only [eIq_ne, eIq_eq, upd_ne, upd_eq]; exact z13) y13) (iSh_mk (n := nS (R.1 1)) (by simp (disch := omega) only [eIq_ne, eIq_eq, upd_ne, upd_eq]; exact z9) (by omega) (fun i hi => ?_)) (nS_mono (n := nS (R.1 1)) (by simp (disch := omega) only [eIq_ne, eIq_eq, upd_ne, upd_eq]; exact z9) (by omega) (Nat.le_refl _)) (fun x hx => by simp (disch := omega) only [eIq_ne, eIq_eq, upd_ne, upd_eq]))
        · by_cases e : i = k
          · subst e; refine ⟨?_, ?_, ?_, ?_, ?_, ?_, ?_, ?_, ?_, ?_⟩ <;> simp (disch := omega) only [eIq_ne, eIq_eq, upd_ne, upd_eq] <;> assumption
          · simp (disch := omega) only [eIq_ne, eIq_eq, upd_ne, upd_eq]; exact wSh i hi
        · refine ⟨fun i hi => ?_, fun i hi => ?_, fun i hi => ?_, fun i hi => ?_, fun i hi => ?_, fun i hi => ?_, fun i hi => ?_⟩
          · simp (disch := omega) only [eIq_ne, eIq_eq, upd_ne, upd_eq]; exact wz.1 i hi
          · simp (disch := omega) only [eIq_ne, eIq_eq, upd_ne, upd_eq]
            by_cases e : i = k
            · subst e; simp (disch := omega) only [eIq_ne, eIq_eq, upd_ne, upd_eq]; exact Or.inl trivial
            · simp (disch := omega) only [eIq_ne, eIq_eq, upd_ne, upd_eq]; exact wz.2.1 i hi
          · simp (disch := omega) only [eIq_ne, eIq_eq, upd_ne, upd_eq]; exact wz.2.2.1 i hi
          · simp (disch := omega) only [eIq_ne, eIq_eq, upd_ne, upd_eq]; exact wz.2.2.2.1 i hi
          · simp (disch := omega) only [eIq_ne, eIq_eq, upd_ne, upd_eq]; exact wz.2.2.2.2.1 i hi
          · simp (disch := omega) only [eIq_ne, eIq_eq, upd_ne, upd_eq]; exact wz.2.2.2.2.2.1 i hi
          · simp (disch := omega) only [eIq_ne, eIq_eq, upd_ne, upd_eq]; exact wz.2.2.2.2.2.2 i hi
        · by_cases e : i = k
          · subst e; simp (disch := omega) only [eIq_ne, eIq_eq, upd_ne, upd_eq]; exact ⟨x0, x1, x3, x4, x5, Or.inl trivial, ⟨g - 1, by omega, rfl⟩⟩
          · simp (disch := omega) only [eIq_ne, eIq_eq, upd_ne, upd_eq]; exact i4 i hi
  · exact stf1 h
