/-! show, of, flight, listen -/
theorem price_eq {C R : eMem} (hW : RelW C.1 (R.1 1)) {k : Nat} (hk : k < nS (R.1 1)) : ∃ v, F_X5_price (nI k) C = some v ∧ F_X10_priceOf (nI k) R = some v := by
  obtain ⟨-, -, -, -, -, -, wSh, -, -, -, -, -, -, -, i1, -, -, i4, -⟩ := id hW
  obtain ⟨-, -, -, -, -, ⟨z9, y9⟩, -⟩ := id i1
  obtain ⟨s0, -, -, s3, s4, -⟩ := wSh k hk
  obtain ⟨⟨x, x1, x2⟩, -⟩ := i4 k hk
  unfold F_X5_price F_X10_priceOf
  rw [show_0 k R (by omega), show_3 k R (by omega), show_4 k R (by omega)]
  simp (disch := omega) only [eIn_s, eG_tt, cl, nI_add, bS, Ladd_0, Ladd_1, Ladd_2, Ladd_3, Ladd_4, Ladd_5, Ladd_6, Ladd_7, Ladd_8, Ladd_10, Ladd_12, Ladd_14, Ladd_20, Ladd_23, Ladd_24, Ladd_110, Ladd_200, Ladd_230, Ladd_290, Ladd_294, Ladd_298, Ladd_498, Ladd_1128, Ladd_1248, Ladd_1278, Ladd_1764, Rad_0, Rad_1, Rad_2, Rad_3, Rad_4, Rad_5, Rad_6, Rad_7, Rad_8, Rad_10, Rad_12, Rad_14, Rad_20, Rad_23, Rad_24, Rad_110, Rad_200, Rad_230, Rad_290, Rad_294, Rad_298, Rad_498, Rad_1128, Rad_1248, Rad_1278, Rad_1764, Mul_2, Mul_3, Mul_4, Mul_5, Mul_6, Mul_7, Mul_10, Mul_20, Mul_23, Mul_24, Mul_142]
  rw [s0, x2, s3, s4]
  rcases (show x = 0 ∨ x = 1 ∨ x = 2 ∨ x = 3 ∨ x = 4 ∨ x = 5 ∨ x = 6 by omega) with rfl | rfl | rfl | rfl | rfl | rfl | rfl
  · exact ⟨1, rfl, rfl⟩
  · exact ⟨2, rfl, rfl⟩
  · exact ⟨5, rfl, rfl⟩
  · exact ⟨_, if_pos rfl, rfl⟩
  · exact ⟨1, rfl, rfl⟩
  · exact ⟨0, rfl, rfl⟩
  · exact ⟨0, rfl, rfl⟩
theorem top_eq {C R : eMem} (hW : RelW C.1 (R.1 1)) {k : Nat} (hk : k < nS (R.1 1)) : F_X5_top (nI k) C = F_X10_topOf (nI k) R := by
  obtain ⟨-, -, -, -, -, -, wSh, -, -, -, -, -, -, -, i1, -, -, i4, -⟩ := id hW
  obtain ⟨-, -, -, -, -, ⟨z9, y9⟩, -⟩ := id i1
  obtain ⟨s0, -, -, s3, s4, -⟩ := wSh k hk
  unfold F_X5_top F_X10_topOf
  rw [show_0 k R (by omega), show_3 k R (by omega)]
  simp (disch := omega) only [eIn_s, eG_tt, cl, nI_add, bS, Ladd_0, Ladd_1, Ladd_2, Ladd_3, Ladd_4, Ladd_5, Ladd_6, Ladd_7, Ladd_8, Ladd_10, Ladd_12, Ladd_14, Ladd_20, Ladd_23, Ladd_24, Ladd_110, Ladd_200, Ladd_230, Ladd_290, Ladd_294, Ladd_298, Ladd_498, Ladd_1128, Ladd_1248, Ladd_1278, Ladd_1764, Rad_0, Rad_1, Rad_2, Rad_3, Rad_4, Rad_5, Rad_6, Rad_7, Rad_8, Rad_10, Rad_12, Rad_14, Rad_20, Rad_23, Rad_24, Rad_110, Rad_200, Rad_230, Rad_290, Rad_294, Rad_298, Rad_498, Rad_1128, Rad_1248, Rad_1278, Rad_1764, Mul_2, Mul_3, Mul_4, Mul_5, Mul_6, Mul_7, Mul_10, Mul_20, Mul_23, Mul_24, Mul_142]
  rw [s0, s3]
theorem st_of {C R : eMem} (h : Rel C R) (x1 x2 : Int32) : Step (F_X9_of x1 x2 C) (F_X10_of x1 x2 R) := by
  obtain ⟨wSc, wGr, wRo, wUn, wPl, wHe, wSh, wRe, wFl, wLi, wBo, wTx, wTc, wz, i1, i2, i3, i4, i5, i6⟩ := id h.1; obtain ⟨c0, c1, c2, c3, c4, c5, c6, c7, c8, c9, c10, c11, c12, c13⟩ := id wSc; obtain ⟨⟨z0, y0⟩, ⟨f5, g5, y5, z5⟩, ⟨t6, y6, z6⟩, ⟨z7, y7⟩, ⟨z8, y8⟩, ⟨z9, y9⟩, ⟨z10, y10⟩, ⟨z11, y11⟩, ⟨z12, y12⟩, ⟨z13, y13⟩⟩ := id i1
  unfold F_X9_of F_X10_of
  rw [has_eq, isShow_eq, c9]
  rcases rngN x1 (R.1 1 9) _ z9 (by omega) with ⟨k, hk, rfl, e1, e2⟩ | ⟨e1, e2⟩ <;> rw [e1, e2]
  · simp only [bS, i10, ↓reduceIte]
    obtain ⟨s0, s1, s2, s3, s4, s5, s6, s7, s8, s9⟩ := wSh k hk
    obtain ⟨⟨x, hx, x0⟩, -, -, -, x5, x7, -⟩ := i4 k hk
    rw [eIn_s (n := 20) (by omega) (by omega), eG_tt]
    rcases rng x2 14 13 14 rfl rfl with ⟨g, hg, rfl, f1, f2⟩ | ⟨f1, f2⟩
    · rw [f2, show_0 k R (by omega)]
      simp only [bS, i10, ↓reduceIte]
      rw [cl (by omega), s0, x0]
      rcases (show g = 0 ∨ g = 1 ∨ g = 2 ∨ g = 3 ∨ g = 4 ∨ g = 5 ∨ g = 6 ∨ g = 7 ∨ g = 8 ∨ g = 9 ∨ g = 10 ∨ g = 11 ∨ g = 12 ∨ g = 13 by omega) with rfl | rfl | rfl | rfl | rfl | rfl | rfl | rfl | rfl | rfl | rfl | rfl | rfl | rfl
      · simp only [show (nI 0 = 0) = True by decide, show (nI 0 = 1) = False by decide, show (nI 0 = 2) = False by decide, show (nI 0 = 3) = False by decide, show (nI 0 = 4) = False by decide, show (nI 0 = 5) = False by decide, show (nI 0 = 6) = False by decide, show (nI 0 = 7) = False by decide, show (nI 0 = 8) = False by decide, show (nI 0 = 9) = False by decide, show (nI 0 = 10) = False by decide, show (nI 0 = 11) = False by decide, show (nI 0 = 12) = False by decide, show (nI 0 = 13) = False by decide, show (nI 0 < 10) = True by decide, show ((11 : Int32) < nI 0) = False by decide, ↓reduceIte]
        unfold F_X10_of_74 F_X10_of_79
        simp only [show (nI 0 = 0) = True by decide, show (nI 0 = 1) = False by decide, show (nI 0 = 2) = False by decide, show (nI 0 = 3) = False by decide, show (nI 0 = 4) = False by decide, show (nI 0 = 5) = False by decide, show (nI 0 = 6) = False by decide, show (nI 0 = 7) = False by decide, show (nI 0 = 8) = False by decide, show (nI 0 = 9) = False by decide, show (nI 0 = 10) = False by decide, show (nI 0 = 11) = False by decide, show (nI 0 = 12) = False by decide, show (nI 0 = 13) = False by decide, show (nI 0 < 10) = True by decide, show ((11 : Int32) < nI 0) = False by decide, i10, ↓reduceIte]
        exact stepI rfl h
      · simp only [show (nI 1 = 0) = False by decide, show (nI 1 = 1) = True by decide, show (nI 1 = 2) = False by decide, show (nI 1 = 3) = False by decide, show (nI 1 = 4) = False by decide, show (nI 1 = 5) = False by decide, show (nI 1 = 6) = False by decide, show (nI 1 = 7) = False by decide, show (nI 1 = 8) = False by decide, show (nI 1 = 9) = False by decide, show (nI 1 = 10) = False by decide, show (nI 1 = 11) = False by decide, show (nI 1 = 12) = False by decide, show (nI 1 = 13) = False by decide, show (nI 1 < 10) = True by decide, show ((11 : Int32) < nI 1) = False by decide, ↓reduceIte]
        unfold F_X10_of_74 F_X10_of_79
        simp only [show (nI 1 = 0) = False by decide, show (nI 1 = 1) = True by decide, show (nI 1 = 2) = False by decide, show (nI 1 = 3) = False by decide, show (nI 1 = 4) = False by decide, show (nI 1 = 5) = False by decide, show (nI 1 = 6) = False by decide, show (nI 1 = 7) = False by decide, show (nI 1 = 8) = False by decide, show (nI 1 = 9) = False by decide, show (nI 1 = 10) = False by decide, show (nI 1 = 11) = False by decide, show (nI 1 = 12) = False by decide, show (nI 1 = 13) = False by decide, show (nI 1 < 10) = True by decide, show ((11 : Int32) < nI 1) = False by decide, i10, ↓reduceIte]
        simp (disch := omega) only [eG_tt, cl, bS, show_0, show_1, show_2, show_3, show_4, show_5, show_7, show_8, show_9]
        rw [s1]; exact stepI rfl h
      · simp only [show (nI 2 = 0) = False by decide, show (nI 2 = 1) = False by decide, show (nI 2 = 2) = True by decide, show (nI 2 = 3) = False by decide, show (nI 2 = 4) = False by decide, show (nI 2 = 5) = False by decide, show (nI 2 = 6) = False by decide, show (nI 2 = 7) = False by decide, show (nI 2 = 8) = False by decide, show (nI 2 = 9) = False by decide, show (nI 2 = 10) = False by decide, show (nI 2 = 11) = False by decide, show (nI 2 = 12) = False by decide, show (nI 2 = 13) = False by decide, show (nI 2 < 10) = True by decide, show ((11 : Int32) < nI 2) = False by decide, ↓reduceIte]
        unfold F_X10_of_74 F_X10_of_79
        simp only [show (nI 2 = 0) = False by decide, show (nI 2 = 1) = False by decide, show (nI 2 = 2) = True by decide, show (nI 2 = 3) = False by decide, show (nI 2 = 4) = False by decide, show (nI 2 = 5) = False by decide, show (nI 2 = 6) = False by decide, show (nI 2 = 7) = False by decide, show (nI 2 = 8) = False by decide, show (nI 2 = 9) = False by decide, show (nI 2 = 10) = False by decide, show (nI 2 = 11) = False by decide, show (nI 2 = 12) = False by decide, show (nI 2 = 13) = False by decide, show (nI 2 < 10) = True by decide, show ((11 : Int32) < nI 2) = False by decide, i10, ↓reduceIte]
        simp (disch := omega) only [eG_tt, cl, bS, show_0, show_1, show_2, show_3, show_4, show_5, show_7, show_8, show_9]
        rw [s2]; exact stepI rfl h
      · simp only [show (nI 3 = 0) = False by decide, show (nI 3 = 1) = False by decide, show (nI 3 = 2) = False by decide, show (nI 3 = 3) = True by decide, show (nI 3 = 4) = False by decide, show (nI 3 = 5) = False by decide, show (nI 3 = 6) = False by decide, show (nI 3 = 7) = False by decide, show (nI 3 = 8) = False by decide, show (nI 3 = 9) = False by decide, show (nI 3 = 10) = False by decide, show (nI 3 = 11) = False by decide, show (nI 3 = 12) = False by decide, show (nI 3 = 13) = False by decide, show (nI 3 < 10) = True by decide, show ((11 : Int32) < nI 3) = False by decide, ↓reduceIte]
        unfold F_X10_of_74 F_X10_of_79
        simp only [show (nI 3 = 0) = False by decide, show (nI 3 = 1) = False by decide, show (nI 3 = 2) = False by decide, show (nI 3 = 3) = True by decide, show (nI 3 = 4) = False by decide, show (nI 3 = 5) = False by decide, show (nI 3 = 6) = False by decide, show (nI 3 = 7) = False by decide, show (nI 3 = 8) = False by decide, show (nI 3 = 9) = False by decide, show (nI 3 = 10) = False by decide, show (nI 3 = 11) = False by decide, show (nI 3 = 12) = False by decide, show (nI 3 = 13) = False by decide, show (nI 3 < 10) = True by decide, show ((11 : Int32) < nI 3) = False by decide, i10, ↓reduceIte]
        simp (disch := omega) only [eG_tt, cl, bS, show_0, show_1, show_2, show_3, show_4, show_5, show_7, show_8, show_9]
        rw [s5]; rcases x5 with q | q <;> rw [q] <;> simp only [bS, i10, i00, ↓reduceIte] <;> exact stepI rfl h
      · simp only [show (nI 4 = 0) = False by decide, show (nI 4 = 1) = False by decide, show (nI 4 = 2) = False by decide, show (nI 4 = 3) = False by decide, show (nI 4 = 4) = True by decide, show (nI 4 = 5) = False by decide, show (nI 4 = 6) = False by decide, show (nI 4 = 7) = False by decide, show (nI 4 = 8) = False by decide, show (nI 4 = 9) = False by decide, show (nI 4 = 10) = False by decide, show (nI 4 = 11) = False by decide, show (nI 4 = 12) = False by decide, show (nI 4 = 13) = False by decide, show (nI 4 < 10) = True by decide, show ((11 : Int32) < nI 4) = False by decide, ↓reduceIte]
        unfold F_X10_of_74 F_X10_of_79
        simp only [show (nI 4 = 0) = False by decide, show (nI 4 = 1) = False by decide, show (nI 4 = 2) = False by decide, show (nI 4 = 3) = False by decide, show (nI 4 = 4) = True by decide, show (nI 4 = 5) = False by decide, show (nI 4 = 6) = False by decide, show (nI 4 = 7) = False by decide, show (nI 4 = 8) = False by decide, show (nI 4 = 9) = False by decide, show (nI 4 = 10) = False by decide, show (nI 4 = 11) = False by decide, show (nI 4 = 12) = False by decide, show (nI 4 = 13) = False by decide, show (nI 4 < 10) = True by decide, show ((11 : Int32) < nI 4) = False by decide, i10, ↓reduceIte]
        simp (disch := omega) only [eG_tt, cl, bS, show_0, show_1, show_2, show_3, show_4, show_5, show_7, show_8, show_9]
        rw [s7]; rcases x7 with q | q <;> rw [q] <;> simp only [bS, i10, i00, ↓reduceIte] <;> exact stepI rfl h
      · simp only [show (nI 5 = 0) = False by decide, show (nI 5 = 1) = False by decide, show (nI 5 = 2) = False by decide, show (nI 5 = 3) = False by decide, show (nI 5 = 4) = False by decide, show (nI 5 = 5) = True by decide, show (nI 5 = 6) = False by decide, show (nI 5 = 7) = False by decide, show (nI 5 = 8) = False by decide, show (nI 5 = 9) = False by decide, show (nI 5 = 10) = False by decide, show (nI 5 = 11) = False by decide, show (nI 5 = 12) = False by decide, show (nI 5 = 13) = False by decide, show (nI 5 < 10) = True by decide, show ((11 : Int32) < nI 5) = False by decide, ↓reduceIte]
        unfold F_X10_of_74 F_X10_of_79
        simp only [show (nI 5 = 0) = False by decide, show (nI 5 = 1) = False by decide, show (nI 5 = 2) = False by decide, show (nI 5 = 3) = False by decide, show (nI 5 = 4) = False by decide, show (nI 5 = 5) = True by decide, show (nI 5 = 6) = False by decide, show (nI 5 = 7) = False by decide, show (nI 5 = 8) = False by decide, show (nI 5 = 9) = False by decide, show (nI 5 = 10) = False by decide, show (nI 5 = 11) = False by decide, show (nI 5 = 12) = False by decide, show (nI 5 = 13) = False by decide, show (nI 5 < 10) = True by decide, show ((11 : Int32) < nI 5) = False by decide, i10, ↓reduceIte]
        simp (disch := omega) only [eG_tt, cl, bS, show_0, show_1, show_2, show_3, show_4, show_5, show_7, show_8, show_9]
        rw [s8]; exact stepI rfl h
      · simp only [show (nI 6 = 0) = False by decide, show (nI 6 = 1) = False by decide, show (nI 6 = 2) = False by decide, show (nI 6 = 3) = False by decide, show (nI 6 = 4) = False by decide, show (nI 6 = 5) = False by decide, show (nI 6 = 6) = True by decide, show (nI 6 = 7) = False by decide, show (nI 6 = 8) = False by decide, show (nI 6 = 9) = False by decide, show (nI 6 = 10) = False by decide, show (nI 6 = 11) = False by decide, show (nI 6 = 12) = False by decide, show (nI 6 = 13) = False by decide, show (nI 6 < 10) = True by decide, show ((11 : Int32) < nI 6) = False by decide, ↓reduceIte]
        unfold F_X10_of_74 F_X10_of_79
        simp only [show (nI 6 = 0) = False by decide, show (nI 6 = 1) = False by decide, show (nI 6 = 2) = False by decide, show (nI 6 = 3) = False by decide, show (nI 6 = 4) = False by decide, show (nI 6 = 5) = False by decide, show (nI 6 = 6) = True by decide, show (nI 6 = 7) = False by decide, show (nI 6 = 8) = False by decide, show (nI 6 = 9) = False by decide, show (nI 6 = 10) = False by decide, show (nI 6 = 11) = False by decide, show (nI 6 = 12) = False by decide, show (nI 6 = 13) = False by decide, show (nI 6 < 10) = True by decide, show ((11 : Int32) < nI 6) = False by decide, i10, ↓reduceIte]
        obtain ⟨v, -, p1, p2⟩ := need_eq h.1 hk; rw [p1, p2]; simp only [bS, i10, i00, ↓reduceIte]; exact stepI rfl h
      · simp only [show (nI 7 = 0) = False by decide, show (nI 7 = 1) = False by decide, show (nI 7 = 2) = False by decide, show (nI 7 = 3) = False by decide, show (nI 7 = 4) = False by decide, show (nI 7 = 5) = False by decide, show (nI 7 = 6) = False by decide, show (nI 7 = 7) = True by decide, show (nI 7 = 8) = False by decide, show (nI 7 = 9) = False by decide, show (nI 7 = 10) = False by decide, show (nI 7 = 11) = False by decide, show (nI 7 = 12) = False by decide, show (nI 7 = 13) = False by decide, show (nI 7 < 10) = True by decide, show ((11 : Int32) < nI 7) = False by decide, ↓reduceIte]
        unfold F_X10_of_74 F_X10_of_79
        simp only [show (nI 7 = 0) = False by decide, show (nI 7 = 1) = False by decide, show (nI 7 = 2) = False by decide, show (nI 7 = 3) = False by decide, show (nI 7 = 4) = False by decide, show (nI 7 = 5) = False by decide, show (nI 7 = 6) = False by decide, show (nI 7 = 7) = True by decide, show (nI 7 = 8) = False by decide, show (nI 7 = 9) = False by decide, show (nI 7 = 10) = False by decide, show (nI 7 = 11) = False by decide, show (nI 7 = 12) = False by decide, show (nI 7 = 13) = False by decide, show (nI 7 < 10) = True by decide, show ((11 : Int32) < nI 7) = False by decide, i10, ↓reduceIte]
        obtain ⟨v, p1, p2⟩ := price_eq h.1 hk; rw [p1, p2]; simp only [bS, i10, i00, ↓reduceIte]; exact stepI rfl h
      · simp only [show (nI 8 = 0) = False by decide, show (nI 8 = 1) = False by decide, show (nI 8 = 2) = False by decide, show (nI 8 = 3) = False by decide, show (nI 8 = 4) = False by decide, show (nI 8 = 5) = False by decide, show (nI 8 = 6) = False by decide, show (nI 8 = 7) = False by decide, show (nI 8 = 8) = True by decide, show (nI 8 = 9) = False by decide, show (nI 8 = 10) = False by decide, show (nI 8 = 11) = False by decide, show (nI 8 = 12) = False by decide, show (nI 8 = 13) = False by decide, show (nI 8 < 10) = True by decide, show ((11 : Int32) < nI 8) = False by decide, ↓reduceIte]
        unfold F_X10_of_74 F_X10_of_79
        simp only [show (nI 8 = 0) = False by decide, show (nI 8 = 1) = False by decide, show (nI 8 = 2) = False by decide, show (nI 8 = 3) = False by decide, show (nI 8 = 4) = False by decide, show (nI 8 = 5) = False by decide, show (nI 8 = 6) = False by decide, show (nI 8 = 7) = False by decide, show (nI 8 = 8) = True by decide, show (nI 8 = 9) = False by decide, show (nI 8 = 10) = False by decide, show (nI 8 = 11) = False by decide, show (nI 8 = 12) = False by decide, show (nI 8 = 13) = False by decide, show (nI 8 < 10) = True by decide, show ((11 : Int32) < nI 8) = False by decide, i10, ↓reduceIte]
        simp (disch := omega) only [eG_tt, cl, bS, show_0, show_1, show_2, show_3, show_4, show_5, show_7, show_8, show_9]
        rw [s9]; exact stepI rfl h
      · simp only [show (nI 9 = 0) = False by decide, show (nI 9 = 1) = False by decide, show (nI 9 = 2) = False by decide, show (nI 9 = 3) = False by decide, show (nI 9 = 4) = False by decide, show (nI 9 = 5) = False by decide, show (nI 9 = 6) = False by decide, show (nI 9 = 7) = False by decide, show (nI 9 = 8) = False by decide, show (nI 9 = 9) = True by decide, show (nI 9 = 10) = False by decide, show (nI 9 = 11) = False by decide, show (nI 9 = 12) = False by decide, show (nI 9 = 13) = False by decide, show (nI 9 < 10) = True by decide, show ((11 : Int32) < nI 9) = False by decide, ↓reduceIte]
        unfold F_X10_of_74 F_X10_of_79
        simp only [show (nI 9 = 0) = False by decide, show (nI 9 = 1) = False by decide, show (nI 9 = 2) = False by decide, show (nI 9 = 3) = False by decide, show (nI 9 = 4) = False by decide, show (nI 9 = 5) = False by decide, show (nI 9 = 6) = False by decide, show (nI 9 = 7) = False by decide, show (nI 9 = 8) = False by decide, show (nI 9 = 9) = True by decide, show (nI 9 = 10) = False by decide, show (nI 9 = 11) = False by decide, show (nI 9 = 12) = False by decide, show (nI 9 = 13) = False by decide, show (nI 9 < 10) = True by decide, show ((11 : Int32) < nI 9) = False by decide, i10, ↓reduceIte]
        obtain ⟨v, C2, hv, p1, p2, p3⟩ := shown_both h.1 hk; rw [p1, p2]; rcases hv with rfl | rfl <;> simp only [bS, i10, i00, ↓reduceIte] <;> exact stepS h p3 rfl
      · simp only [show (nI 10 = 0) = False by decide, show (nI 10 = 1) = False by decide, show (nI 10 = 2) = False by decide, show (nI 10 = 3) = False by decide, show (nI 10 = 4) = False by decide, show (nI 10 = 5) = False by decide, show (nI 10 = 6) = False by decide, show (nI 10 = 7) = False by decide, show (nI 10 = 8) = False by decide, show (nI 10 = 9) = False by decide, show (nI 10 = 10) = True by decide, show (nI 10 = 11) = False by decide, show (nI 10 = 12) = False by decide, show (nI 10 = 13) = False by decide, show (nI 10 < 10) = False by decide, show ((11 : Int32) < nI 10) = False by decide, ↓reduceIte]
        unfold F_X10_of_48 F_X10_of_63
        simp only [show (nI 10 = 0) = False by decide, show (nI 10 = 1) = False by decide, show (nI 10 = 2) = False by decide, show (nI 10 = 3) = False by decide, show (nI 10 = 4) = False by decide, show (nI 10 = 5) = False by decide, show (nI 10 = 6) = False by decide, show (nI 10 = 7) = False by decide, show (nI 10 = 8) = False by decide, show (nI 10 = 9) = False by decide, show (nI 10 = 10) = True by decide, show (nI 10 = 11) = False by decide, show (nI 10 = 12) = False by decide, show (nI 10 = 13) = False by decide, show (nI 10 < 10) = False by decide, show ((11 : Int32) < nI 10) = False by decide, ↓reduceIte]
        rcases (show x = 0 ∨ x = 1 ∨ x = 2 ∨ x = 3 ∨ x = 4 ∨ x = 5 ∨ x = 6 by omega) with rfl | rfl | rfl | rfl | rfl | rfl | rfl
        · simp only [show ((2 : Int32) < nI 0) = False by decide, ↓reduceIte, i10, i00, bS]
          unfold F_X10_of_74 F_X10_of_79
          simp only [show (nI 10 = 0) = False by decide, show (nI 10 = 1) = False by decide, show (nI 10 = 2) = False by decide, show (nI 10 = 3) = False by decide, show (nI 10 = 4) = False by decide, show (nI 10 = 5) = False by decide, show (nI 10 = 6) = False by decide, show (nI 10 = 7) = False by decide, show (nI 10 = 8) = False by decide, show (nI 10 = 9) = False by decide, show (nI 10 = 10) = True by decide, show (nI 10 = 11) = False by decide, show (nI 10 = 12) = False by decide, show (nI 10 = 13) = False by decide, show (nI 10 < 10) = False by decide, show ((11 : Int32) < nI 10) = False by decide, i10, i00, ↓reduceIte]
          rw [top_eq h.1 hk]
          unfold F_X10_topOf
          rw [show_0 k R (by omega), show_3 k R (by omega)]
          simp only [bS]
          rw [x0]
          simp only [show (nI 0 = 0) = True by decide, ↓reduceIte, bS]
          exact stepI rfl h
        · simp only [show ((2 : Int32) < nI 1) = False by decide, ↓reduceIte, i10, i00, bS]
          unfold F_X10_of_74 F_X10_of_79
          simp only [show (nI 10 = 0) = False by decide, show (nI 10 = 1) = False by decide, show (nI 10 = 2) = False by decide, show (nI 10 = 3) = False by decide, show (nI 10 = 4) = False by decide, show (nI 10 = 5) = False by decide, show (nI 10 = 6) = False by decide, show (nI 10 = 7) = False by decide, show (nI 10 = 8) = False by decide, show (nI 10 = 9) = False by decide, show (nI 10 = 10) = True by decide, show (nI 10 = 11) = False by decide, show (nI 10 = 12) = False by decide, show (nI 10 = 13) = False by decide, show (nI 10 < 10) = False by decide, show ((11 : Int32) < nI 10) = False by decide, i10, i00, ↓reduceIte]
          rw [top_eq h.1 hk]
          unfold F_X10_topOf
          rw [show_0 k R (by omega), show_3 k R (by omega)]
          simp only [bS]
          rw [x0]
          simp only [show (nI 1 = 0) = False by decide, ↓reduceIte, bS]
          exact stepI rfl h
        · simp only [show ((2 : Int32) < nI 2) = False by decide, ↓reduceIte, i10, i00, bS]
          unfold F_X10_of_74 F_X10_of_79
          simp only [show (nI 10 = 0) = False by decide, show (nI 10 = 1) = False by decide, show (nI 10 = 2) = False by decide, show (nI 10 = 3) = False by decide, show (nI 10 = 4) = False by decide, show (nI 10 = 5) = False by decide, show (nI 10 = 6) = False by decide, show (nI 10 = 7) = False by decide, show (nI 10 = 8) = False by decide, show (nI 10 = 9) = False by decide, show (nI 10 = 10) = True by decide, show (nI 10 = 11) = False by decide, show (nI 10 = 12) = False by decide, show (nI 10 = 13) = False by decide, show (nI 10 < 10) = False by decide, show ((11 : Int32) < nI 10) = False by decide, i10, i00, ↓reduceIte]
          rw [top_eq h.1 hk]
          unfold F_X10_topOf
          rw [show_0 k R (by omega), show_3 k R (by omega)]
          simp only [bS]
          rw [x0]
          simp only [show (nI 2 = 0) = False by decide, ↓reduceIte, bS]
          exact stepI rfl h
        · simp only [show ((2 : Int32) < nI 3) = True by decide, ↓reduceIte, i10, i00, bS]
          unfold F_X10_of_78 F_X10_of_79
          simp only [show (nI 10 = 0) = False by decide, show (nI 10 = 1) = False by decide, show (nI 10 = 2) = False by decide, show (nI 10 = 3) = False by decide, show (nI 10 = 4) = False by decide, show (nI 10 = 5) = False by decide, show (nI 10 = 6) = False by decide, show (nI 10 = 7) = False by decide, show (nI 10 = 8) = False by decide, show (nI 10 = 9) = False by decide, show (nI 10 = 10) = True by decide, show (nI 10 = 11) = False by decide, show (nI 10 = 12) = False by decide, show (nI 10 = 13) = False by decide, show (nI 10 < 10) = False by decide, show ((11 : Int32) < nI 10) = False by decide, i10, i00, ↓reduceIte]
          exact stf3 h
        · simp only [show ((2 : Int32) < nI 4) = True by decide, ↓reduceIte, i10, i00, bS]
          unfold F_X10_of_78 F_X10_of_79
          simp only [show (nI 10 = 0) = False by decide, show (nI 10 = 1) = False by decide, show (nI 10 = 2) = False by decide, show (nI 10 = 3) = False by decide, show (nI 10 = 4) = False by decide, show (nI 10 = 5) = False by decide, show (nI 10 = 6) = False by decide, show (nI 10 = 7) = False by decide, show (nI 10 = 8) = False by decide, show (nI 10 = 9) = False by decide, show (nI 10 = 10) = True by decide, show (nI 10 = 11) = False by decide, show (nI 10 = 12) = False by decide, show (nI 10 = 13) = False by decide, show (nI 10 < 10) = False by decide, show ((11 : Int32) < nI 10) = False by decide, i10, i00, ↓reduceIte]
          exact stf3 h
        · simp only [show ((2 : Int32) < nI 5) = True by decide, ↓reduceIte, i10, i00, bS]
          unfold F_X10_of_78 F_X10_of_79
          simp only [show (nI 10 = 0) = False by decide, show (nI 10 = 1) = False by decide, show (nI 10 = 2) = False by decide, show (nI 10 = 3) = False by decide, show (nI 10 = 4) = False by decide, show (nI 10 = 5) = False by decide, show (nI 10 = 6) = False by decide, show (nI 10 = 7) = False by decide, show (nI 10 = 8) = False by decide, show (nI 10 = 9) = False by decide, show (nI 10 = 10) = True by decide, show (nI 10 = 11) = False by decide, show (nI 10 = 12) = False by decide, show (nI 10 = 13) = False by decide, show (nI 10 < 10) = False by decide, show ((11 : Int32) < nI 10) = False by decide, i10, i00, ↓reduceIte]
          exact stf3 h
        · simp only [show ((2 : Int32) < nI 6) = True by decide, ↓reduceIte, i10, i00, bS]
          unfold F_X10_of_78 F_X10_of_79
          simp only [show (nI 10 = 0) = False by decide, show (nI 10 = 1) = False by decide, show (nI 10 = 2) = False by decide, show (nI 10 = 3) = False by decide, show (nI 10 = 4) = False by decide, show (nI 10 = 5) = False by decide, show (nI 10 = 6) = False by decide, show (nI 10 = 7) = False by decide, show (nI 10 = 8) = False by decide, show (nI 10 = 9) = False by decide, show (nI 10 = 10) = True by decide, show (nI 10 = 11) = False by decide, show (nI 10 = 12) = False by decide, show (nI 10 = 13) = False by decide, show (nI 10 < 10) = False by decide, show ((11 : Int32) < nI 10) = False by decide, i10, i00, ↓reduceIte]
          exact stf3 h
      · simp only [show (nI 11 = 0) = False by decide, show (nI 11 = 1) = False by decide, show (nI 11 = 2) = False by decide, show (nI 11 = 3) = False by decide, show (nI 11 = 4) = False by decide, show (nI 11 = 5) = False by decide, show (nI 11 = 6) = False by decide, show (nI 11 = 7) = False by decide, show (nI 11 = 8) = False by decide, show (nI 11 = 9) = False by decide, show (nI 11 = 10) = False by decide, show (nI 11 = 11) = True by decide, show (nI 11 = 12) = False by decide, show (nI 11 = 13) = False by decide, show (nI 11 < 10) = False by decide, show ((11 : Int32) < nI 11) = False by decide, ↓reduceIte]
        unfold F_X10_of_48 F_X10_of_63
        simp only [show (nI 11 = 0) = False by decide, show (nI 11 = 1) = False by decide, show (nI 11 = 2) = False by decide, show (nI 11 = 3) = False by decide, show (nI 11 = 4) = False by decide, show (nI 11 = 5) = False by decide, show (nI 11 = 6) = False by decide, show (nI 11 = 7) = False by decide, show (nI 11 = 8) = False by decide, show (nI 11 = 9) = False by decide, show (nI 11 = 10) = False by decide, show (nI 11 = 11) = True by decide, show (nI 11 = 12) = False by decide, show (nI 11 = 13) = False by decide, show (nI 11 < 10) = False by decide, show ((11 : Int32) < nI 11) = False by decide, ↓reduceIte]
        rcases (show x = 0 ∨ x = 1 ∨ x = 2 ∨ x = 3 ∨ x = 4 ∨ x = 5 ∨ x = 6 by omega) with rfl | rfl | rfl | rfl | rfl | rfl | rfl
        · simp only [show F_X9_isUnder (nI 0) 1 = some 0 by decide, show F_X10_in (nI 0) 1 2 = some 0 by decide, show (nI 0 = 4) = False by decide, ↓reduceIte, i10, i00, bS]
          unfold F_X10_of_78 F_X10_of_79
          simp only [show (nI 11 = 0) = False by decide, show (nI 11 = 1) = False by decide, show (nI 11 = 2) = False by decide, show (nI 11 = 3) = False by decide, show (nI 11 = 4) = False by decide, show (nI 11 = 5) = False by decide, show (nI 11 = 6) = False by decide, show (nI 11 = 7) = False by decide, show (nI 11 = 8) = False by decide, show (nI 11 = 9) = False by decide, show (nI 11 = 10) = False by decide, show (nI 11 = 11) = True by decide, show (nI 11 = 12) = False by decide, show (nI 11 = 13) = False by decide, show (nI 11 < 10) = False by decide, show ((11 : Int32) < nI 11) = False by decide, i10, i00, ↓reduceIte]
          exact stf3 h
        · simp only [show F_X9_isUnder (nI 1) 1 = some 1 by decide, show F_X10_in (nI 1) 1 2 = some 1 by decide, show (nI 1 = 4) = False by decide, ↓reduceIte, i10, i00, bS]
          unfold F_X10_of_74 F_X10_of_79
          simp only [show (nI 11 = 0) = False by decide, show (nI 11 = 1) = False by decide, show (nI 11 = 2) = False by decide, show (nI 11 = 3) = False by decide, show (nI 11 = 4) = False by decide, show (nI 11 = 5) = False by decide, show (nI 11 = 6) = False by decide, show (nI 11 = 7) = False by decide, show (nI 11 = 8) = False by decide, show (nI 11 = 9) = False by decide, show (nI 11 = 10) = False by decide, show (nI 11 = 11) = True by decide, show (nI 11 = 12) = False by decide, show (nI 11 = 13) = False by decide, show (nI 11 < 10) = False by decide, show ((11 : Int32) < nI 11) = False by decide, i10, i00, ↓reduceIte]
          simp (disch := omega) only [eG_tt, cl, bS, show_0, show_1, show_2, show_3, show_4, show_5, show_7, show_8, show_9]
          rw [s4]
          exact stepI rfl h
        · simp only [show F_X9_isUnder (nI 2) 1 = some 1 by decide, show F_X10_in (nI 2) 1 2 = some 1 by decide, show (nI 2 = 4) = False by decide, ↓reduceIte, i10, i00, bS]
          unfold F_X10_of_74 F_X10_of_79
          simp only [show (nI 11 = 0) = False by decide, show (nI 11 = 1) = False by decide, show (nI 11 = 2) = False by decide, show (nI 11 = 3) = False by decide, show (nI 11 = 4) = False by decide, show (nI 11 = 5) = False by decide, show (nI 11 = 6) = False by decide, show (nI 11 = 7) = False by decide, show (nI 11 = 8) = False by decide, show (nI 11 = 9) = False by decide, show (nI 11 = 10) = False by decide, show (nI 11 = 11) = True by decide, show (nI 11 = 12) = False by decide, show (nI 11 = 13) = False by decide, show (nI 11 < 10) = False by decide, show ((11 : Int32) < nI 11) = False by decide, i10, i00, ↓reduceIte]
          simp (disch := omega) only [eG_tt, cl, bS, show_0, show_1, show_2, show_3, show_4, show_5, show_7, show_8, show_9]
          rw [s4]
          exact stepI rfl h
        · simp only [show F_X9_isUnder (nI 3) 1 = some 0 by decide, show F_X10_in (nI 3) 1 2 = some 0 by decide, show (nI 3 = 4) = False by decide, ↓reduceIte, i10, i00, bS]
          unfold F_X10_of_78 F_X10_of_79
          simp only [show (nI 11 = 0) = False by decide, show (nI 11 = 1) = False by decide, show (nI 11 = 2) = False by decide, show (nI 11 = 3) = False by decide, show (nI 11 = 4) = False by decide, show (nI 11 = 5) = False by decide, show (nI 11 = 6) = False by decide, show (nI 11 = 7) = False by decide, show (nI 11 = 8) = False by decide, show (nI 11 = 9) = False by decide, show (nI 11 = 10) = False by decide, show (nI 11 = 11) = True by decide, show (nI 11 = 12) = False by decide, show (nI 11 = 13) = False by decide, show (nI 11 < 10) = False by decide, show ((11 : Int32) < nI 11) = False by decide, i10, i00, ↓reduceIte]
          exact stf3 h
        · simp only [show F_X9_isUnder (nI 4) 1 = some 0 by decide, show F_X10_in (nI 4) 1 2 = some 0 by decide, show (nI 4 = 4) = True by decide, ↓reduceIte, i10, i00, bS]
          unfold F_X10_of_78 F_X10_of_79
          simp only [show (nI 11 = 0) = False by decide, show (nI 11 = 1) = False by decide, show (nI 11 = 2) = False by decide, show (nI 11 = 3) = False by decide, show (nI 11 = 4) = False by decide, show (nI 11 = 5) = False by decide, show (nI 11 = 6) = False by decide, show (nI 11 = 7) = False by decide, show (nI 11 = 8) = False by decide, show (nI 11 = 9) = False by decide, show (nI 11 = 10) = False by decide, show (nI 11 = 11) = True by decide, show (nI 11 = 12) = False by decide, show (nI 11 = 13) = False by decide, show (nI 11 < 10) = False by decide, show ((11 : Int32) < nI 11) = False by decide, i10, i00, ↓reduceIte]
          exact stf3 h
        · simp only [show F_X9_isUnder (nI 5) 1 = some 0 by decide, show F_X10_in (nI 5) 1 2 = some 0 by decide, show (nI 5 = 4) = False by decide, ↓reduceIte, i10, i00, bS]
          unfold F_X10_of_78 F_X10_of_79
          simp only [show (nI 11 = 0) = False by decide, show (nI 11 = 1) = False by decide, show (nI 11 = 2) = False by decide, show (nI 11 = 3) = False by decide, show (nI 11 = 4) = False by decide, show (nI 11 = 5) = False by decide, show (nI 11 = 6) = False by decide, show (nI 11 = 7) = False by decide, show (nI 11 = 8) = False by decide, show (nI 11 = 9) = False by decide, show (nI 11 = 10) = False by decide, show (nI 11 = 11) = True by decide, show (nI 11 = 12) = False by decide, show (nI 11 = 13) = False by decide, show (nI 11 < 10) = False by decide, show ((11 : Int32) < nI 11) = False by decide, i10, i00, ↓reduceIte]
          exact stf3 h
        · simp only [show F_X9_isUnder (nI 6) 1 = some 0 by decide, show F_X10_in (nI 6) 1 2 = some 0 by decide, show (nI 6 = 4) = False by decide, ↓reduceIte, i10, i00, bS]
          unfold F_X10_of_78 F_X10_of_79
          simp only [show (nI 11 = 0) = False by decide, show (nI 11 = 1) = False by decide, show (nI 11 = 2) = False by decide, show (nI 11 = 3) = False by decide, show (nI 11 = 4) = False by decide, show (nI 11 = 5) = False by decide, show (nI 11 = 6) = False by decide, show (nI 11 = 7) = False by decide, show (nI 11 = 8) = False by decide, show (nI 11 = 9) = False by decide, show (nI 11 = 10) = False by decide, show (nI 11 = 11) = True by decide, show (nI 11 = 12) = False by decide, show (nI 11 = 13) = False by decide, show (nI 11 < 10) = False by decide, show ((11 : Int32) < nI 11) = False by decide, i10, i00, ↓reduceIte]
          exact stf3 h
      · simp only [show (nI 12 = 0) = False by decide, show (nI 12 = 1) = False by decide, show (nI 12 = 2) = False by decide, show (nI 12 = 3) = False by decide, show (nI 12 = 4) = False by decide, show (nI 12 = 5) = False by decide, show (nI 12 = 6) = False by decide, show (nI 12 = 7) = False by decide, show (nI 12 = 8) = False by decide, show (nI 12 = 9) = False by decide, show (nI 12 = 10) = False by decide, show (nI 12 = 11) = False by decide, show (nI 12 = 12) = True by decide, show (nI 12 = 13) = False by decide, show (nI 12 < 10) = False by decide, show ((11 : Int32) < nI 12) = True by decide, ↓reduceIte]
        unfold F_X10_of_48 F_X10_of_63
        simp only [show (nI 12 = 0) = False by decide, show (nI 12 = 1) = False by decide, show (nI 12 = 2) = False by decide, show (nI 12 = 3) = False by decide, show (nI 12 = 4) = False by decide, show (nI 12 = 5) = False by decide, show (nI 12 = 6) = False by decide, show (nI 12 = 7) = False by decide, show (nI 12 = 8) = False by decide, show (nI 12 = 9) = False by decide, show (nI 12 = 10) = False by decide, show (nI 12 = 11) = False by decide, show (nI 12 = 12) = True by decide, show (nI 12 = 13) = False by decide, show (nI 12 < 10) = False by decide, show ((11 : Int32) < nI 12) = True by decide, ↓reduceIte]
        rcases (show x = 0 ∨ x = 1 ∨ x = 2 ∨ x = 3 ∨ x = 4 ∨ x = 5 ∨ x = 6 by omega) with rfl | rfl | rfl | rfl | rfl | rfl | rfl
        · simp only [show (nI 0 = 4) = False by decide, ↓reduceIte, i10, i00, bS]
          unfold F_X10_of_78 F_X10_of_79
          simp only [show (nI 12 = 0) = False by decide, show (nI 12 = 1) = False by decide, show (nI 12 = 2) = False by decide, show (nI 12 = 3) = False by decide, show (nI 12 = 4) = False by decide, show (nI 12 = 5) = False by decide, show (nI 12 = 6) = False by decide, show (nI 12 = 7) = False by decide, show (nI 12 = 8) = False by decide, show (nI 12 = 9) = False by decide, show (nI 12 = 10) = False by decide, show (nI 12 = 11) = False by decide, show (nI 12 = 12) = True by decide, show (nI 12 = 13) = False by decide, show (nI 12 < 10) = False by decide, show ((11 : Int32) < nI 12) = True by decide, i10, i00, ↓reduceIte]
          exact stf3 h
        · simp only [show (nI 1 = 4) = False by decide, ↓reduceIte, i10, i00, bS]
          unfold F_X10_of_78 F_X10_of_79
          simp only [show (nI 12 = 0) = False by decide, show (nI 12 = 1) = False by decide, show (nI 12 = 2) = False by decide, show (nI 12 = 3) = False by decide, show (nI 12 = 4) = False by decide, show (nI 12 = 5) = False by decide, show (nI 12 = 6) = False by decide, show (nI 12 = 7) = False by decide, show (nI 12 = 8) = False by decide, show (nI 12 = 9) = False by decide, show (nI 12 = 10) = False by decide, show (nI 12 = 11) = False by decide, show (nI 12 = 12) = True by decide, show (nI 12 = 13) = False by decide, show (nI 12 < 10) = False by decide, show ((11 : Int32) < nI 12) = True by decide, i10, i00, ↓reduceIte]
          exact stf3 h
        · simp only [show (nI 2 = 4) = False by decide, ↓reduceIte, i10, i00, bS]
          unfold F_X10_of_78 F_X10_of_79
          simp only [show (nI 12 = 0) = False by decide, show (nI 12 = 1) = False by decide, show (nI 12 = 2) = False by decide, show (nI 12 = 3) = False by decide, show (nI 12 = 4) = False by decide, show (nI 12 = 5) = False by decide, show (nI 12 = 6) = False by decide, show (nI 12 = 7) = False by decide, show (nI 12 = 8) = False by decide, show (nI 12 = 9) = False by decide, show (nI 12 = 10) = False by decide, show (nI 12 = 11) = False by decide, show (nI 12 = 12) = True by decide, show (nI 12 = 13) = False by decide, show (nI 12 < 10) = False by decide, show ((11 : Int32) < nI 12) = True by decide, i10, i00, ↓reduceIte]
          exact stf3 h
        · simp only [show (nI 3 = 4) = False by decide, ↓reduceIte, i10, i00, bS]
          unfold F_X10_of_78 F_X10_of_79
          simp only [show (nI 12 = 0) = False by decide, show (nI 12 = 1) = False by decide, show (nI 12 = 2) = False by decide, show (nI 12 = 3) = False by decide, show (nI 12 = 4) = False by decide, show (nI 12 = 5) = False by decide, show (nI 12 = 6) = False by decide, show (nI 12 = 7) = False by decide, show (nI 12 = 8) = False by decide, show (nI 12 = 9) = False by decide, show (nI 12 = 10) = False by decide, show (nI 12 = 11) = False by decide, show (nI 12 = 12) = True by decide, show (nI 12 = 13) = False by decide, show (nI 12 < 10) = False by decide, show ((11 : Int32) < nI 12) = True by decide, i10, i00, ↓reduceIte]
          exact stf3 h
        · simp only [show (nI 4 = 4) = True by decide, ↓reduceIte, i10, i00, bS]
          unfold F_X10_of_74 F_X10_of_79
          simp only [show (nI 12 = 0) = False by decide, show (nI 12 = 1) = False by decide, show (nI 12 = 2) = False by decide, show (nI 12 = 3) = False by decide, show (nI 12 = 4) = False by decide, show (nI 12 = 5) = False by decide, show (nI 12 = 6) = False by decide, show (nI 12 = 7) = False by decide, show (nI 12 = 8) = False by decide, show (nI 12 = 9) = False by decide, show (nI 12 = 10) = False by decide, show (nI 12 = 11) = False by decide, show (nI 12 = 12) = True by decide, show (nI 12 = 13) = False by decide, show (nI 12 < 10) = False by decide, show ((11 : Int32) < nI 12) = True by decide, i10, i00, ↓reduceIte]
          simp (disch := omega) only [eG_tt, cl, bS, show_0, show_1, show_2, show_3, show_4, show_5, show_7, show_8, show_9]
          rw [s3]
          exact stepI rfl h
        · simp only [show (nI 5 = 4) = False by decide, ↓reduceIte, i10, i00, bS]
          unfold F_X10_of_78 F_X10_of_79
          simp only [show (nI 12 = 0) = False by decide, show (nI 12 = 1) = False by decide, show (nI 12 = 2) = False by decide, show (nI 12 = 3) = False by decide, show (nI 12 = 4) = False by decide, show (nI 12 = 5) = False by decide, show (nI 12 = 6) = False by decide, show (nI 12 = 7) = False by decide, show (nI 12 = 8) = False by decide, show (nI 12 = 9) = False by decide, show (nI 12 = 10) = False by decide, show (nI 12 = 11) = False by decide, show (nI 12 = 12) = True by decide, show (nI 12 = 13) = False by decide, show (nI 12 < 10) = False by decide, show ((11 : Int32) < nI 12) = True by decide, i10, i00, ↓reduceIte]
          exact stf3 h
        · simp only [show (nI 6 = 4) = False by decide, ↓reduceIte, i10, i00, bS]
          unfold F_X10_of_78 F_X10_of_79
          simp only [show (nI 12 = 0) = False by decide, show (nI 12 = 1) = False by decide, show (nI 12 = 2) = False by decide, show (nI 12 = 3) = False by decide, show (nI 12 = 4) = False by decide, show (nI 12 = 5) = False by decide, show (nI 12 = 6) = False by decide, show (nI 12 = 7) = False by decide, show (nI 12 = 8) = False by decide, show (nI 12 = 9) = False by decide, show (nI 12 = 10) = False by decide, show (nI 12 = 11) = False by decide, show (nI 12 = 12) = True by decide, show (nI 12 = 13) = False by decide, show (nI 12 < 10) = False by decide, show ((11 : Int32) < nI 12) = True by decide, i10, i00, ↓reduceIte]
          exact stf3 h
      · simp only [show (nI 13 = 0) = False by decide, show (nI 13 = 1) = False by decide, show (nI 13 = 2) = False by decide, show (nI 13 = 3) = False by decide, show (nI 13 = 4) = False by decide, show (nI 13 = 5) = False by decide, show (nI 13 = 6) = False by decide, show (nI 13 = 7) = False by decide, show (nI 13 = 8) = False by decide, show (nI 13 = 9) = False by decide, show (nI 13 = 10) = False by decide, show (nI 13 = 11) = False by decide, show (nI 13 = 12) = False by decide, show (nI 13 = 13) = True by decide, show (nI 13 < 10) = False by decide, show ((11 : Int32) < nI 13) = True by decide, ↓reduceIte]
        unfold F_X10_of_48 F_X10_of_63
        simp only [show (nI 13 = 0) = False by decide, show (nI 13 = 1) = False by decide, show (nI 13 = 2) = False by decide, show (nI 13 = 3) = False by decide, show (nI 13 = 4) = False by decide, show (nI 13 = 5) = False by decide, show (nI 13 = 6) = False by decide, show (nI 13 = 7) = False by decide, show (nI 13 = 8) = False by decide, show (nI 13 = 9) = False by decide, show (nI 13 = 10) = False by decide, show (nI 13 = 11) = False by decide, show (nI 13 = 12) = False by decide, show (nI 13 = 13) = True by decide, show (nI 13 < 10) = False by decide, show ((11 : Int32) < nI 13) = True by decide, ↓reduceIte]
        rcases (show x = 0 ∨ x = 1 ∨ x = 2 ∨ x = 3 ∨ x = 4 ∨ x = 5 ∨ x = 6 by omega) with rfl | rfl | rfl | rfl | rfl | rfl | rfl
        · simp only [show (nI 0 = 4) = False by decide, ↓reduceIte, i10, i00, bS]
          unfold F_X10_of_78 F_X10_of_79
          simp only [show (nI 13 = 0) = False by decide, show (nI 13 = 1) = False by decide, show (nI 13 = 2) = False by decide, show (nI 13 = 3) = False by decide, show (nI 13 = 4) = False by decide, show (nI 13 = 5) = False by decide, show (nI 13 = 6) = False by decide, show (nI 13 = 7) = False by decide, show (nI 13 = 8) = False by decide, show (nI 13 = 9) = False by decide, show (nI 13 = 10) = False by decide, show (nI 13 = 11) = False by decide, show (nI 13 = 12) = False by decide, show (nI 13 = 13) = True by decide, show (nI 13 < 10) = False by decide, show ((11 : Int32) < nI 13) = True by decide, i10, i00, ↓reduceIte]
          exact stf3 h
        · simp only [show (nI 1 = 4) = False by decide, ↓reduceIte, i10, i00, bS]
          unfold F_X10_of_78 F_X10_of_79
          simp only [show (nI 13 = 0) = False by decide, show (nI 13 = 1) = False by decide, show (nI 13 = 2) = False by decide, show (nI 13 = 3) = False by decide, show (nI 13 = 4) = False by decide, show (nI 13 = 5) = False by decide, show (nI 13 = 6) = False by decide, show (nI 13 = 7) = False by decide, show (nI 13 = 8) = False by decide, show (nI 13 = 9) = False by decide, show (nI 13 = 10) = False by decide, show (nI 13 = 11) = False by decide, show (nI 13 = 12) = False by decide, show (nI 13 = 13) = True by decide, show (nI 13 < 10) = False by decide, show ((11 : Int32) < nI 13) = True by decide, i10, i00, ↓reduceIte]
          exact stf3 h
        · simp only [show (nI 2 = 4) = False by decide, ↓reduceIte, i10, i00, bS]
          unfold F_X10_of_78 F_X10_of_79
          simp only [show (nI 13 = 0) = False by decide, show (nI 13 = 1) = False by decide, show (nI 13 = 2) = False by decide, show (nI 13 = 3) = False by decide, show (nI 13 = 4) = False by decide, show (nI 13 = 5) = False by decide, show (nI 13 = 6) = False by decide, show (nI 13 = 7) = False by decide, show (nI 13 = 8) = False by decide, show (nI 13 = 9) = False by decide, show (nI 13 = 10) = False by decide, show (nI 13 = 11) = False by decide, show (nI 13 = 12) = False by decide, show (nI 13 = 13) = True by decide, show (nI 13 < 10) = False by decide, show ((11 : Int32) < nI 13) = True by decide, i10, i00, ↓reduceIte]
          exact stf3 h
        · simp only [show (nI 3 = 4) = False by decide, ↓reduceIte, i10, i00, bS]
          unfold F_X10_of_78 F_X10_of_79
          simp only [show (nI 13 = 0) = False by decide, show (nI 13 = 1) = False by decide, show (nI 13 = 2) = False by decide, show (nI 13 = 3) = False by decide, show (nI 13 = 4) = False by decide, show (nI 13 = 5) = False by decide, show (nI 13 = 6) = False by decide, show (nI 13 = 7) = False by decide, show (nI 13 = 8) = False by decide, show (nI 13 = 9) = False by decide, show (nI 13 = 10) = False by decide, show (nI 13 = 11) = False by decide, show (nI 13 = 12) = False by decide, show (nI 13 = 13) = True by decide, show (nI 13 < 10) = False by decide, show ((11 : Int32) < nI 13) = True by decide, i10, i00, ↓reduceIte]
          exact stf3 h
        · simp only [show (nI 4 = 4) = True by decide, ↓reduceIte, i10, i00, bS]
          unfold F_X10_of_74 F_X10_of_79
          simp only [show (nI 13 = 0) = False by decide, show (nI 13 = 1) = False by decide, show (nI 13 = 2) = False by decide, show (nI 13 = 3) = False by decide, show (nI 13 = 4) = False by decide, show (nI 13 = 5) = False by decide, show (nI 13 = 6) = False by decide, show (nI 13 = 7) = False by decide, show (nI 13 = 8) = False by decide, show (nI 13 = 9) = False by decide, show (nI 13 = 10) = False by decide, show (nI 13 = 11) = False by decide, show (nI 13 = 12) = False by decide, show (nI 13 = 13) = True by decide, show (nI 13 < 10) = False by decide, show ((11 : Int32) < nI 13) = True by decide, i10, i00, ↓reduceIte]
          simp (disch := omega) only [eG_tt, cl, bS, show_0, show_1, show_2, show_3, show_4, show_5, show_7, show_8, show_9]
          rw [s4]
          exact stepI rfl h
        · simp only [show (nI 5 = 4) = False by decide, ↓reduceIte, i10, i00, bS]
          unfold F_X10_of_78 F_X10_of_79
          simp only [show (nI 13 = 0) = False by decide, show (nI 13 = 1) = False by decide, show (nI 13 = 2) = False by decide, show (nI 13 = 3) = False by decide, show (nI 13 = 4) = False by decide, show (nI 13 = 5) = False by decide, show (nI 13 = 6) = False by decide, show (nI 13 = 7) = False by decide, show (nI 13 = 8) = False by decide, show (nI 13 = 9) = False by decide, show (nI 13 = 10) = False by decide, show (nI 13 = 11) = False by decide, show (nI 13 = 12) = False by decide, show (nI 13 = 13) = True by decide, show (nI 13 < 10) = False by decide, show ((11 : Int32) < nI 13) = True by decide, i10, i00, ↓reduceIte]
          exact stf3 h
        · simp only [show (nI 6 = 4) = False by decide, ↓reduceIte, i10, i00, bS]
          unfold F_X10_of_78 F_X10_of_79
          simp only [show (nI 13 = 0) = False by decide, show (nI 13 = 1) = False by decide, show (nI 13 = 2) = False by decide, show (nI 13 = 3) = False by decide, show (nI 13 = 4) = False by decide, show (nI 13 = 5) = False by decide, show (nI 13 = 6) = False by decide, show (nI 13 = 7) = False by decide, show (nI 13 = 8) = False by decide, show (nI 13 = 9) = False by decide, show (nI 13 = 10) = False by decide, show (nI 13 = 11) = False by decide, show (nI 13 = 12) = False by decide, show (nI 13 = 13) = True by decide, show (nI 13 < 10) = False by decide, show ((11 : Int32) < nI 13) = True by decide, i10, i00, ↓reduceIte]
          exact stf3 h
    · rw [f2]
      simp only [bS, i10, i00, ↓reduceIte]
      have hx : ∀ g : Nat, g < 14 → ¬ x2 = nI g := fun g hg e => by rw [e, isIn_y (n := 14) rfl hg] at f1; cases f1
      rw [if_neg (show ¬ x2 = 0 from hx 0 (by decide)), if_neg (show ¬ x2 = 1 from hx 1 (by decide)), if_neg (show ¬ x2 = 2 from hx 2 (by decide)), if_neg (show ¬ x2 = 3 from hx 3 (by decide)), if_neg (show ¬ x2 = 4 from hx 4 (by decide)), if_neg (show ¬ x2 = 5 from hx 5 (by decide)), if_neg (show ¬ x2 = 6 from hx 6 (by decide)), if_neg (show ¬ x2 = 7 from hx 7 (by decide)), if_neg (show ¬ x2 = 8 from hx 8 (by decide)), if_neg (show ¬ x2 = 9 from hx 9 (by decide)), if_neg (show ¬ x2 = 10 from hx 10 (by decide)), if_neg (show ¬ x2 = 11 from hx 11 (by decide)), if_neg (show ¬ x2 = 12 from hx 12 (by decide)), if_neg (show ¬ x2 = 13 from hx 13 (by decide))]
      exact stf1 h
  · simp only [bS, i10, i00, ↓reduceIte]
    exact stf1 h
theorem st_flight {C R : eMem} (h : Rel C R) (x1 x2 x3 : Int32) : Step (F_X9_flight x1 x2 x3 C) (F_X10_flight x1 x2 x3 R) := by
  obtain ⟨wSc, wGr, wRo, wUn, wPl, wHe, wSh, wRe, wFl, wLi, wBo, wTx, wTc, wz, i1, i2, i3, i4, i5, i6⟩ := id h.1; obtain ⟨c0, c1, c2, c3, c4, c5, c6, c7, c8, c9, c10, c11, c12, c13⟩ := id wSc; obtain ⟨⟨z0, y0⟩, ⟨f5, g5, y5, z5⟩, ⟨t6, y6, z6⟩, ⟨z7, y7⟩, ⟨z8, y8⟩, ⟨z9, y9⟩, ⟨z10, y10⟩, ⟨z11, y11⟩, ⟨z12, y12⟩, ⟨z13, y13⟩⟩ := id i1
  unfold F_X9_flight F_X10_flight
  rw [isHour_eq, isCell_eq]
  simp only [btw]
  by_cases hx : x2 < 0
  · rw [if_pos hx, if_pos hx]
    rcases in01 x1 0 1943 with ⟨q, -⟩ | q <;> rw [q] <;> simp only [bS, i10, i00, ↓reduceIte] <;> exact stf1 h
  · rw [if_neg hx, if_neg hx]
    obtain ⟨a, ha, rfl⟩ := nI_of hx
    rw [(n10 a ha).1]
    rcases inL x1 0 1943 0 1943 rfl rfl with ⟨k, -, hk, rfl, e1⟩ | e1 <;> rw [e1] <;> simp only [bS, i10, i00, ↓reduceIte]
    · rcases rng (nI (a / 10)) 96 95 96 rfl rfl with ⟨g, hg, eg, f1, f2⟩ | ⟨f1, f2⟩ <;> rw [f1, f2] <;> simp only [bS, i10, i00, ↓reduceIte]
      · rcases in01 x3 0 48 with ⟨q, -⟩ | q <;> rw [q] <;> simp only [bS, i10, i00, ↓reduceIte]
        · rw [c0]
          by_cases hh : nI k < R.1 1 0
          · rw [if_pos hh, if_pos hh]; exact stf5 h
          · rw [if_neg hh, if_neg hh, c12, z12]
            generalize hn : nF (R.1 1) = n at *
            by_cases hf : n = 30
            · subst hf
              rw [if_neg (by decide), if_pos (by decide)]
              exact stf2 h
            · rw [if_pos ((lt_lit (n := 30) rfl (by omega)).mpr (by omega)), if_neg (fun q => hf ((eq_lit (n := 30) rfl (by omega)).mp q))]
              unfold F_X2_addFlight
              rw [c12, z12, isIn_y (n := 30) rfl (by omega)]
              simp only [bS, i10, i00, ↓reduceIte]
              simp (disch := omega) only [eIn_s, eG_tt, cl, nI_add, bS, Ladd_0, Ladd_1, Ladd_2, Ladd_3, Ladd_4, Ladd_5, Ladd_6, Ladd_7, Ladd_8, Ladd_10, Ladd_12, Ladd_14, Ladd_20, Ladd_23, Ladd_24, Ladd_110, Ladd_200, Ladd_230, Ladd_290, Ladd_294, Ladd_298, Ladd_498, Ladd_1128, Ladd_1248, Ladd_1278, Ladd_1764, Rad_0, Rad_1, Rad_2, Rad_3, Rad_4, Rad_5, Rad_6, Rad_7, Rad_8, Rad_10, Rad_12, Rad_14, Rad_20, Rad_23, Rad_24, Rad_110, Rad_200, Rad_230, Rad_290, Rad_294, Rad_298, Rad_498, Rad_1128, Rad_1248, Rad_1278, Rad_1764, Mul_2, Mul_3, Mul_4, Mul_5, Mul_6, Mul_7, Mul_10, Mul_20, Mul_23, Mul_24, Mul_142]
              rw [show 1128 + 4 * n + 1 = 1129 + 4 * n by omega, show 1128 + 4 * n + 2 = 1130 + 4 * n by omega, show 1128 + 4 * n + 3 = 1131 + 4 * n by omega]
              simp (disch := omega) only [eIq_ne, eIq_eq, upd_ne, upd_eq]
              rw [z12, eg, Rad_1, nI_pred]
              refine stepI rfl ?_
              refine h.now (by simp (disch := omega) only [eIq_ne, eIq_eq, upd_ne, upd_eq]) (fun p hp => by simp (disch := omega) only [eIq_ne, eIq_eq, upd_ne, upd_eq]) (by simp (disch := omega) only [eIq_ne, eIq_eq, upd_ne, upd_eq]) (by simp (disch := omega) only [eIq_ne, eIq_eq, upd_ne, upd_eq]) (fun p p1 p2 => by simp (disch := omega) only [eIq_ne, eIq_eq, upd_ne, upd_eq]) (h.1.fl (fun p p1 p2 p3 p4 p5 => by simp (disch := omega) only [eIq_ne, eIq_eq, upd_ne, upd_eq]) (fun j h1 h2 => by simp (disch := omega) only [eIq_ne, eIq_eq, upd_ne, upd_eq]) (by refine ⟨?_, ?_, ?_, ?_, ?_, ?_, ?_, ?_, ?_, ?_, ?_, ?_, ?_, ?_⟩ <;> (simp (disch := omega) only [eIq_ne, eIq_eq, upd_ne, upd_eq] <;> first | assumption | (simp only [*]; done))) (wFl_mk (n := n + 1) (by simp (disch := omega) only [eIq_ne, eIq_eq, upd_ne, upd_eq]) (by omega) (fun i hi => ?_)) (iSc_mk (g := n + 1) (by simp (disch := omega) only [eIq_ne, eIq_eq, upd_ne, upd_eq]; exact z0) y0 (by simp (disch := omega) only [eIq_ne, eIq_eq, upd_ne, upd_eq]; exact z5) g5 y5 (by simp (disch := omega) only [eIq_ne, eIq_eq, upd_ne, upd_eq]; exact z6) y6 (by simp (disch := omega) only [eIq_ne, eIq_eq, upd_ne, upd_eq]; exact z7) y7 (by simp (disch := omega) only [eIq_ne, eIq_eq, upd_ne, upd_eq]; exact z8) y8 (by simp (disch := omega) only [eIq_ne, eIq_eq, upd_ne, upd_eq]; exact z9) y9 (by simp (disch := omega) only [eIq_ne, eIq_eq, upd_ne, upd_eq]; exact z10) y10 (by simp (disch := omega) only [eIq_ne, eIq_eq, upd_ne, upd_eq]; exact z11) y11 (by simp (disch := omega) only [eIq_ne, eIq_eq, upd_ne, upd_eq]) (by omega) (by simp (disch := omega) only [eIq_ne, eIq_eq, upd_ne, upd_eq]; exact z13) y13) (iFl_mk (n := n + 1) (by simp (disch := omega) only [eIq_ne, eIq_eq, upd_ne, upd_eq]) (by omega) (fun i hi => ?_)))
              · by_cases e : i = n
                · subst e; refine ⟨?_, ?_, ?_, ?_⟩ <;> simp (disch := omega) only [eIq_ne, eIq_eq, upd_ne, upd_eq]
                · simp (disch := omega) only [eIq_ne, eIq_eq, upd_ne, upd_eq]; exact wFl i (by omega)
              · by_cases e : i = n
                · subst e; simp (disch := omega) only [eIq_ne, eIq_eq, upd_ne, upd_eq]; exact ⟨g, by omega, rfl⟩
                · simp (disch := omega) only [eIq_ne, eIq_eq, upd_ne, upd_eq]; exact i6 i (by omega)
        · exact stf1 h
      · exact stf1 h
    · rcases F9 : F_X9_isIn (nI (a / 10)) 96 with _ | v
      · rcases rng (nI (a / 10)) 96 95 96 rfl rfl with ⟨g, hg, eg, f1, f2⟩ | ⟨f1, f2⟩ <;> rw [f1] at F9 <;> cases F9
      · by_cases hv : v = 0
        · subst hv; simp only [bS, i10, i00, ↓reduceIte]; exact stf1 h
        · simp only [bS, if_neg hv, i00, ↓reduceIte]; exact stf1 h
theorem st_listen {C R : eMem} (h : Rel C R) (x1 : Int32) : Step (F_X9_listen x1 C) (F_X10_listen x1 R) := by
  obtain ⟨wSc, wGr, wRo, wUn, wPl, wHe, wSh, wRe, wFl, wLi, wBo, wTx, wTc, wz, i1, i2, i3, i4, i5, i6⟩ := id h.1; obtain ⟨c0, c1, c2, c3, c4, c5, c6, c7, c8, c9, c10, c11, c12, c13⟩ := id wSc; obtain ⟨⟨z0, y0⟩, ⟨f5, g5, y5, z5⟩, ⟨t6, y6, z6⟩, ⟨z7, y7⟩, ⟨z8, y8⟩, ⟨z9, y9⟩, ⟨z10, y10⟩, ⟨z11, y11⟩, ⟨z12, y12⟩, ⟨z13, y13⟩⟩ := id i1
  unfold F_X9_listen F_X10_listen
  rw [isHour_eq]
  simp only [btw]
  rcases inL x1 0 1943 0 1943 rfl rfl with ⟨k, -, hk, rfl, e1⟩ | e1 <;> rw [e1] <;> simp only [bS, i10, i00, ↓reduceIte]
  · rw [c0]
    by_cases hh : nI k < R.1 1 0
    · rw [if_pos hh, if_pos hh]; exact stf5 h
    · rw [if_neg hh, if_neg hh, c13, z13]
      generalize hn : nL (R.1 1) = n at *
      by_cases hf : n = 30
      · subst hf
        rw [if_neg (by decide), if_pos (by decide)]
        exact stf2 h
      · rw [if_pos ((lt_lit (n := 30) rfl (by omega)).mpr (by omega)), if_neg (fun q => hf ((eq_lit (n := 30) rfl (by omega)).mp q))]
        unfold F_X2_addListener
        rw [c13, z13, isIn_y (n := 30) rfl (by omega)]
        simp only [bS, i10, i00, ↓reduceIte]
        simp (disch := omega) only [eIn_s, eG_tt, cl, nI_add, bS, Ladd_0, Ladd_1, Ladd_2, Ladd_3, Ladd_4, Ladd_5, Ladd_6, Ladd_7, Ladd_8, Ladd_10, Ladd_12, Ladd_14, Ladd_20, Ladd_23, Ladd_24, Ladd_110, Ladd_200, Ladd_230, Ladd_290, Ladd_294, Ladd_298, Ladd_498, Ladd_1128, Ladd_1248, Ladd_1278, Ladd_1764, Rad_0, Rad_1, Rad_2, Rad_3, Rad_4, Rad_5, Rad_6, Rad_7, Rad_8, Rad_10, Rad_12, Rad_14, Rad_20, Rad_23, Rad_24, Rad_110, Rad_200, Rad_230, Rad_290, Rad_294, Rad_298, Rad_498, Rad_1128, Rad_1248, Rad_1278, Rad_1764, Mul_2, Mul_3, Mul_4, Mul_5, Mul_6, Mul_7, Mul_10, Mul_20, Mul_23, Mul_24, Mul_142]
        simp (disch := omega) only [eIq_ne, eIq_eq, upd_ne, upd_eq]
        rw [z13, Rad_1]
        refine stepI rfl ?_
        refine h.now (by simp (disch := omega) only [eIq_ne, eIq_eq, upd_ne, upd_eq]) (fun p hp => by simp (disch := omega) only [eIq_ne, eIq_eq, upd_ne, upd_eq]) (by simp (disch := omega) only [eIq_ne, eIq_eq, upd_ne, upd_eq]) (by simp (disch := omega) only [eIq_ne, eIq_eq, upd_ne, upd_eq]) (fun p p1 p2 => by simp (disch := omega) only [eIq_ne, eIq_eq, upd_ne, upd_eq]) (h.1.li (fun p p1 p2 => by simp (disch := omega) only [eIq_ne, eIq_eq, upd_ne, upd_eq]) (fun j h1 h2 => by simp (disch := omega) only [eIq_ne, eIq_eq, upd_ne, upd_eq]) (by refine ⟨?_, ?_, ?_, ?_, ?_, ?_, ?_, ?_, ?_, ?_, ?_, ?_, ?_, ?_⟩ <;> (simp (disch := omega) only [eIq_ne, eIq_eq, upd_ne, upd_eq] <;> first | assumption | (simp only [*]; done))) (wLi_mk (n := n + 1) (by simp (disch := omega) only [eIq_ne, eIq_eq, upd_ne, upd_eq]) (by omega) (fun i hi => ?_)) (iSc_mk (i := n + 1) (by simp (disch := omega) only [eIq_ne, eIq_eq, upd_ne, upd_eq]; exact z0) y0 (by simp (disch := omega) only [eIq_ne, eIq_eq, upd_ne, upd_eq]; exact z5) g5 y5 (by simp (disch := omega) only [eIq_ne, eIq_eq, upd_ne, upd_eq]; exact z6) y6 (by simp (disch := omega) only [eIq_ne, eIq_eq, upd_ne, upd_eq]; exact z7) y7 (by simp (disch := omega) only [eIq_ne, eIq_eq, upd_ne, upd_eq]; exact z8) y8 (by simp (disch := omega) only [eIq_ne, eIq_eq, upd_ne, upd_eq]; exact z9) y9 (by simp (disch := omega) only [eIq_ne, eIq_eq, upd_ne, upd_eq]; exact z10) y10 (by simp (disch := omega) only [eIq_ne, eIq_eq, upd_ne, upd_eq]; exact z11) y11 (by simp (disch := omega) only [eIq_ne, eIq_eq, upd_ne, upd_eq]; exact z12) y12 (by simp (disch := omega) only [eIq_ne, eIq_eq, upd_ne, upd_eq]) (by omega)))
        by_cases e : i = n
        · subst e; simp (disch := omega) only [eIq_ne, eIq_eq, upd_ne, upd_eq]
        · simp (disch := omega) only [eIq_ne, eIq_eq, upd_ne, upd_eq]; exact wLi i (by omega)
  · exact stf1 h
