theorem still_both {C R : eMem} (hW : RelW C.1 (R.1 1)) {r : Nat} (hd : r < nR (R.1 1)) : ∀ m i, i + m = 201 → ∀ f1 f2, m < f1 → m < f2 →
    (F_X8_firstStill_20 f1 C (nI r) (nI (hr (R.1 1) + 200)) (nI (hr (R.1 1) + i)) = some (-1) ∧ F_X10_still_63 f2 (nI r) (nI (hr (R.1 1) + i)) R = (F_X10_finding 4 R).bind fun q6 => some (q6.1, q6.2)) ∨
    ∃ x, x ≤ 5000 ∧ F_X8_firstStill_20 f1 C (nI r) (nI (hr (R.1 1) + 200)) (nI (hr (R.1 1) + i)) = some (nI x) ∧ F_X10_still_63 f2 (nI r) (nI (hr (R.1 1) + i)) R = some (nI x, R) := by
  obtain ⟨wSc, -, wRo, -, -, -, -, -, wFl, -, -, -, -, -, i1, i2, -⟩ := id hW
  obtain ⟨⟨z0, y0⟩, -, -, ⟨z7, y7⟩, -, -, -, -, ⟨z12, y12⟩, -⟩ := id i1
  obtain ⟨r0, r1, r2⟩ := wRo r hd
  obtain ⟨g, g1, g2, g3⟩ := i2 r hd
  intro m
  induction m with
  | zero =>
    intro i hi f1 f2 h1 h2
    obtain ⟨f1, rfl⟩ : ∃ x, f1 = x + 1 := ⟨f1 - 1, by omega⟩
    obtain ⟨f2, rfl⟩ : ∃ x, f2 = x + 1 := ⟨f2 - 1, by omega⟩
    rw [F_X8_firstStill_20, F_X10_still_63, z0]
    simp (disch := omega) only [eIn_s, eG_tt, cl, nI_add, bS, Ladd_0, Ladd_1, Ladd_2, Ladd_3, Ladd_4, Ladd_5, Ladd_6, Ladd_7, Ladd_8, Ladd_10, Ladd_12, Ladd_14, Ladd_20, Ladd_23, Ladd_24, Ladd_110, Ladd_200, Ladd_230, Ladd_290, Ladd_294, Ladd_298, Ladd_498, Ladd_1128, Ladd_1248, Ladd_1278, Ladd_1764, Rad_0, Rad_1, Rad_2, Rad_3, Rad_4, Rad_5, Rad_6, Rad_7, Rad_8, Rad_10, Rad_12, Rad_14, Rad_20, Rad_23, Rad_24, Rad_110, Rad_200, Rad_230, Rad_290, Rad_294, Rad_298, Rad_498, Rad_1128, Rad_1248, Rad_1278, Rad_1764, Mul_2, Mul_3, Mul_4, Mul_5, Mul_6, Mul_7, Mul_10, Mul_20, Mul_23, Mul_24, Mul_142]
    rw [if_pos (nI_lt (by omega) (by omega)), if_pos (nI_lt (by omega) (by omega))]
    exact Or.inl ⟨rfl, rfl⟩
  | succ m ih =>
    intro i hi f1 f2 h1 h2
    obtain ⟨f1, rfl⟩ : ∃ x, f1 = x + 1 := ⟨f1 - 1, by omega⟩
    obtain ⟨f2, rfl⟩ : ∃ x, f2 = x + 1 := ⟨f2 - 1, by omega⟩
    have h := ih (i + 1) (by omega) f1 f2 (by omega) (by omega)
    rw [F_X8_firstStill_20, F_X10_still_63, z0]
    simp (disch := omega) only [eIn_s, eG_tt, cl, nI_add, bS, Ladd_0, Ladd_1, Ladd_2, Ladd_3, Ladd_4, Ladd_5, Ladd_6, Ladd_7, Ladd_8, Ladd_10, Ladd_12, Ladd_14, Ladd_20, Ladd_23, Ladd_24, Ladd_110, Ladd_200, Ladd_230, Ladd_290, Ladd_294, Ladd_298, Ladd_498, Ladd_1128, Ladd_1248, Ladd_1278, Ladd_1764, Rad_0, Rad_1, Rad_2, Rad_3, Rad_4, Rad_5, Rad_6, Rad_7, Rad_8, Rad_10, Rad_12, Rad_14, Rad_20, Rad_23, Rad_24, Rad_110, Rad_200, Rad_230, Rad_290, Rad_294, Rad_298, Rad_498, Rad_1128, Rad_1248, Rad_1278, Rad_1764, Mul_2, Mul_3, Mul_4, Mul_5, Mul_6, Mul_7, Mul_10, Mul_20, Mul_23, Mul_24, Mul_142]
    rw [if_neg (nI_nlt (by omega) (by omega)), if_neg (nI_nlt (by omega) (by omega)), roa_2]
    unfold F_X2_hasLow F_X10_isSeen
    simp (disch := omega) only [eIn_s, eG_tt, cl, nI_add, bS, Ladd_0, Ladd_1, Ladd_2, Ladd_3, Ladd_4, Ladd_5, Ladd_6, Ladd_7, Ladd_8, Ladd_10, Ladd_12, Ladd_14, Ladd_20, Ladd_23, Ladd_24, Ladd_110, Ladd_200, Ladd_230, Ladd_290, Ladd_294, Ladd_298, Ladd_498, Ladd_1128, Ladd_1248, Ladd_1278, Ladd_1764, Rad_0, Rad_1, Rad_2, Rad_3, Rad_4, Rad_5, Rad_6, Rad_7, Rad_8, Rad_10, Rad_12, Rad_14, Rad_20, Rad_23, Rad_24, Rad_110, Rad_200, Rad_230, Rad_290, Rad_294, Rad_298, Rad_498, Rad_1128, Rad_1248, Rad_1278, Rad_1764, Mul_2, Mul_3, Mul_4, Mul_5, Mul_6, Mul_7, Mul_10, Mul_20, Mul_23, Mul_24, Mul_142]
    rw [r2, g3]
    have hs := seen_both hW hd (t := hr (R.1 1) + i) (g := g) (by omega) g1 g2 (nF (R.1 1)) 0 (by omega) eFuel eFuel (by unfold eFuel; omega) (by unfold eFuel; omega)
    rw [show nI 0 = 0 from rfl] at hs
    rcases hs with ⟨q1, q2⟩ | ⟨q1, q2⟩ <;> rw [q1, q2] <;> simp only [bS, i10, i00, ↓reduceIte]
    · exact Or.inr ⟨_, by omega, rfl, rfl⟩
    · exact h
theorem st_still {C R : eMem} (h : Rel C R) (x1 x2 : Int32) : Step (F_X9_still x1 x2 C) (F_X10_still x1 x2 R) := by
  obtain ⟨wSc, wGr, wRo, wUn, wPl, wHe, wSh, wRe, wFl, wLi, wBo, wTx, wTc, wz, i1, i2, i3, i4, i5, i6⟩ := id h.1; obtain ⟨c0, c1, c2, c3, c4, c5, c6, c7, c8, c9, c10, c11, c12, c13⟩ := id wSc; obtain ⟨⟨z0, y0⟩, ⟨f5, g5, y5, z5⟩, ⟨t6, y6, z6⟩, ⟨z7, y7⟩, ⟨z8, y8⟩, ⟨z9, y9⟩, ⟨z10, y10⟩, ⟨z11, y11⟩, ⟨z12, y12⟩, ⟨z13, y13⟩⟩ := id i1
  unfold F_X9_still F_X10_still
  rw [isUnit_eq, isRoad_eq, c8, c7]
  rcases rngN x1 (R.1 1 8) _ z8 (by omega) with ⟨k, hk, rfl, e1, e2⟩ | ⟨e1, e2⟩ <;> rw [e1, e2] <;> simp only [bS, i10, i00, ↓reduceIte]
  · rcases rngN x2 (R.1 1 7) _ z7 (by omega) with ⟨r, hr, rfl, f1, f2⟩ | ⟨f1, f2⟩ <;> rw [f1, f2] <;> simp only [bS, i10, i00, ↓reduceIte]
    · simp only [uat_2]
      simp (disch := omega) only [eIn_s, eG_tt, cl, nI_add, bS, Ladd_0, Ladd_1, Ladd_2, Ladd_3, Ladd_4, Ladd_5, Ladd_6, Ladd_7, Ladd_8, Ladd_10, Ladd_12, Ladd_14, Ladd_20, Ladd_23, Ladd_24, Ladd_110, Ladd_200, Ladd_230, Ladd_290, Ladd_294, Ladd_298, Ladd_498, Ladd_1128, Ladd_1248, Ladd_1278, Ladd_1764, Rad_0, Rad_1, Rad_2, Rad_3, Rad_4, Rad_5, Rad_6, Rad_7, Rad_8, Rad_10, Rad_12, Rad_14, Rad_20, Rad_23, Rad_24, Rad_110, Rad_200, Rad_230, Rad_290, Rad_294, Rad_298, Rad_498, Rad_1128, Rad_1248, Rad_1278, Rad_1764, Mul_2, Mul_3, Mul_4, Mul_5, Mul_6, Mul_7, Mul_10, Mul_20, Mul_23, Mul_24, Mul_142]
      rcases onroad_both h.1 hk with ⟨q1, q2⟩ | ⟨q1, q2⟩
      · rw [q1, if_pos q2]
        simp only [bS, i10, i00, ↓reduceIte]
        rcases leads_both h.1 hk hr with ⟨g1, g2⟩ | ⟨g1, g2⟩ <;> rw [g1, g2] <;> simp only [bS, i10, i00, ↓reduceIte]
        · exact stf3 h
        · have hs := still_both h.1 hr 201 0 (by omega) eFuel eFuel (by unfold eFuel; omega) (by unfold eFuel; omega)
          simp only [Nat.add_zero] at hs
          unfold F_X8_firstStill
          rw [c0, z0]
          simp (disch := omega) only [eIn_s, eG_tt, cl, nI_add, bS, Ladd_0, Ladd_1, Ladd_2, Ladd_3, Ladd_4, Ladd_5, Ladd_6, Ladd_7, Ladd_8, Ladd_10, Ladd_12, Ladd_14, Ladd_20, Ladd_23, Ladd_24, Ladd_110, Ladd_200, Ladd_230, Ladd_290, Ladd_294, Ladd_298, Ladd_498, Ladd_1128, Ladd_1248, Ladd_1278, Ladd_1764, Rad_0, Rad_1, Rad_2, Rad_3, Rad_4, Rad_5, Rad_6, Rad_7, Rad_8, Rad_10, Rad_12, Rad_14, Rad_20, Rad_23, Rad_24, Rad_110, Rad_200, Rad_230, Rad_290, Rad_294, Rad_298, Rad_498, Rad_1128, Rad_1248, Rad_1278, Rad_1764, Mul_2, Mul_3, Mul_4, Mul_5, Mul_6, Mul_7, Mul_10, Mul_20, Mul_23, Mul_24, Mul_142]
          rcases hs with ⟨p1, p2⟩ | ⟨x, x1, p1, p2⟩ <;> rw [p1, p2] <;> simp only [bS, i10, i00, ↓reduceIte]
          · exact stf4 h
          · rw [if_neg (fun e => by have := nI_pos (n := x) (by omega); rw [e] at this; exact this (by decide))]
            exact stepI rfl h
      · rw [q1, if_neg q2]
        simp only [bS, i10, i00, ↓reduceIte]
        exact stf5 h
    · exact stf1 h
  · exact stf1 h
