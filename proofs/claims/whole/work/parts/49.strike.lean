/-! report, strike -/
theorem credit_both {C R : eMem} (hW : RelW C.1 (R.1 1)) {k : Nat} (hk : k < nP (R.1 1)) : ∃ v, v ≤ 11 ∧ F_X1_credit (nI k) C = some (nI v) ∧ F_X10_creditOf (nI k) R = some (nI v) := by
  obtain ⟨wSc, -, -, -, -, -, wSh, wRe, -, -, -, -, -, -, i1, -, -, i4, i5, -⟩ := id hW
  obtain ⟨-, -, -, -, -, -, -, -, -, c9, -⟩ := id wSc
  obtain ⟨-, -, -, -, -, ⟨z9, y9⟩, ⟨z10, y10⟩, -⟩ := id i1
  obtain ⟨r0, r1, r2, r3, r4, r5, r6⟩ := wRe k hk
  obtain ⟨⟨x, hx, x0⟩, -, -, -, x5, -⟩ := i5 k hk
  unfold F_X1_credit F_X10_creditOf
  rw [rep_0 k R (by omega), rep_5 k R (by omega), eIn_s (n := 90) (by omega) (by omega), cl (by omega), r0, r5, x0]
  simp only [bS, eG_tt]
  have hsh : (x = 2 ∨ x = 3) → ∃ v, v ≤ 11 ∧ ((F_X5_has (R.1 1 (503 + 7 * k)) C).bind fun q2 => if q2 = 0 then some 0 else eG (eIn (R.1 1 (503 + 7 * k)) 20) (some (C.1 16 (R.1 1 (503 + 7 * k)).toNatClampNeg))) = some (nI v) ∧ ((F_X10_show (R.1 1 (503 + 7 * k)) 3 R).bind fun q4 => some q4) = some (nI v) := by
    intro hq
    obtain ⟨y, y1, y2, y3⟩ := x5 (by rcases hq with rfl | rfl; exact Or.inl x0; exact Or.inr x0)
    obtain ⟨-, -, ⟨v, -, v2, v3⟩, -⟩ := i4 y y1
    have v1 : v ≤ 11 := v3.elim id (fun e => absurd e y3)
    obtain ⟨-, -, -, s3, -⟩ := wSh y y1
    rw [y2, has_eq, c9, z9]
    rw [show_3 y R (by omega)]
    have hi : F_X9_isIn (nI y) (nI (nS (R.1 1))) = some 1 := by
      rcases rngN (nI y) (R.1 1 9) _ z9 (by omega) with ⟨u, hu, eu, u1, u2⟩ | ⟨u1, u2⟩
      · rw [z9] at u1; exact u1
      · rw [z9] at u2
        unfold F_X10_in at u2
        rw [if_neg (nI_pos (by omega)), if_neg (fun q => by rw [lt_pred _ (by omega) (by omega)] at q; exact q (nI_lt y1 (by omega)))] at u2
        cases u2
    rw [hi]
    simp only [bS, i10, ↓reduceIte]
    simp (disch := omega) only [eIn_s, eG_tt, cl, nI_add, bS, Ladd_0, Ladd_1, Ladd_2, Ladd_3, Ladd_4, Ladd_5, Ladd_6, Ladd_7, Ladd_8, Ladd_10, Ladd_12, Ladd_14, Ladd_20, Ladd_23, Ladd_24, Ladd_110, Ladd_200, Ladd_230, Ladd_290, Ladd_294, Ladd_298, Ladd_498, Ladd_1128, Ladd_1248, Ladd_1278, Ladd_1764, Rad_0, Rad_1, Rad_2, Rad_3, Rad_4, Rad_5, Rad_6, Rad_7, Rad_8, Rad_10, Rad_12, Rad_14, Rad_20, Rad_23, Rad_24, Rad_110, Rad_200, Rad_230, Rad_290, Rad_294, Rad_298, Rad_498, Rad_1128, Rad_1248, Rad_1278, Rad_1764, Mul_2, Mul_3, Mul_4, Mul_5, Mul_6, Mul_7, Mul_10, Mul_20, Mul_23, Mul_24, Mul_142]
    rw [s3]
    exact ⟨v, v1, by rw [v2], by rw [v2]⟩
  rcases (show x = 0 ∨ x = 1 ∨ x = 2 ∨ x = 3 ∨ x = 4 ∨ x = 5 by omega) with rfl | rfl | rfl | rfl | rfl | rfl
  · simp only [show (nI 0 = 0) = True by decide, show (nI 0 = 1) = False by decide, show (nI 0 = 2) = False by decide, show (nI 0 = 3) = False by decide, show (nI 0 = 4) = False by decide, ↓reduceIte]
    exact ⟨2, by omega, rfl, rfl⟩
  · simp only [show (nI 1 = 0) = False by decide, show (nI 1 = 1) = True by decide, show (nI 1 = 2) = False by decide, show (nI 1 = 3) = False by decide, show (nI 1 = 4) = False by decide, ↓reduceIte]
    exact ⟨1, by omega, rfl, rfl⟩
  · simp only [show (nI 2 = 0) = False by decide, show (nI 2 = 1) = False by decide, show (nI 2 = 2) = True by decide, show (nI 2 = 3) = False by decide, show (nI 2 = 4) = False by decide, ↓reduceIte]
    exact hsh (Or.inl rfl)
  · simp only [show (nI 3 = 0) = False by decide, show (nI 3 = 1) = False by decide, show (nI 3 = 2) = False by decide, show (nI 3 = 3) = True by decide, show (nI 3 = 4) = False by decide, ↓reduceIte]
    exact hsh (Or.inr rfl)
  · simp only [show (nI 4 = 0) = False by decide, show (nI 4 = 1) = False by decide, show (nI 4 = 2) = False by decide, show (nI 4 = 3) = False by decide, show (nI 4 = 4) = True by decide, ↓reduceIte]
    exact ⟨3, by omega, rfl, rfl⟩
  · simp only [show (nI 5 = 0) = False by decide, show (nI 5 = 1) = False by decide, show (nI 5 = 2) = False by decide, show (nI 5 = 3) = False by decide, show (nI 5 = 4) = False by decide, ↓reduceIte]
    exact ⟨2, by omega, rfl, rfl⟩
theorem st_report {C R : eMem} (h : Rel C R) (x1 x2 : Int32) : Step (F_X9_report x1 x2 C) (F_X10_report x1 x2 R) := by
  obtain ⟨wSc, wGr, wRo, wUn, wPl, wHe, wSh, wRe, wFl, wLi, wBo, wTx, wTc, wz, i1, i2, i3, i4, i5, i6⟩ := id h.1; obtain ⟨c0, c1, c2, c3, c4, c5, c6, c7, c8, c9, c10, c11, c12, c13⟩ := id wSc; obtain ⟨⟨z0, y0⟩, ⟨f5, g5, y5, z5⟩, ⟨t6, y6, z6⟩, ⟨z7, y7⟩, ⟨z8, y8⟩, ⟨z9, y9⟩, ⟨z10, y10⟩, ⟨z11, y11⟩, ⟨z12, y12⟩, ⟨z13, y13⟩⟩ := id i1
  unfold F_X9_report F_X10_report
  rw [isReport_eq, c10]
  rcases rngN x1 (R.1 1 10) _ z10 (by omega) with ⟨k, hk, rfl, e1, e2⟩ | ⟨e1, e2⟩ <;> rw [e1, e2]
  · simp only [bS, i10, ↓reduceIte]
    obtain ⟨r0, r1, r2, r3, r4, r5, r6⟩ := wRe k hk
    obtain ⟨-, -, p2, -, -, p6⟩ := i5 k hk
    rw [eIn_s (n := 90) (by omega) (by omega)]
    rcases rng x2 8 7 8 rfl rfl with ⟨g, hg, rfl, f1, f2⟩ | ⟨f1, f2⟩
    · rw [f2]
      simp only [bS, i10, ↓reduceIte]
      rcases (show g = 0 ∨ g = 1 ∨ g = 2 ∨ g = 3 ∨ g = 4 ∨ g = 5 ∨ g = 6 ∨ g = 7 by omega) with rfl | rfl | rfl | rfl | rfl | rfl | rfl | rfl
      · simp only [show (nI 0 = 0) = True by decide, show (nI 0 = 1) = False by decide, show (nI 0 = 2) = False by decide, show (nI 0 = 3) = False by decide, show (nI 0 = 4) = False by decide, show (nI 0 = 5) = False by decide, show (nI 0 = 6) = False by decide, show (nI 0 = 7) = False by decide, ↓reduceIte]
        rw [show nI 0 = 0 from rfl, rep_0 k R (by omega), cl (by omega)]
        simp only [bS, eG_tt]
        rw [r0]
        exact stepI rfl h
      · simp only [show (nI 1 = 0) = False by decide, show (nI 1 = 1) = True by decide, show (nI 1 = 2) = False by decide, show (nI 1 = 3) = False by decide, show (nI 1 = 4) = False by decide, show (nI 1 = 5) = False by decide, show (nI 1 = 6) = False by decide, show (nI 1 = 7) = False by decide, ↓reduceIte]
        rw [show nI 1 = 1 from rfl, rep_1 k R (by omega), cl (by omega)]
        simp only [bS, eG_tt]
        rw [r1]
        exact stepI rfl h
      · simp only [show (nI 2 = 0) = False by decide, show (nI 2 = 1) = False by decide, show (nI 2 = 2) = True by decide, show (nI 2 = 3) = False by decide, show (nI 2 = 4) = False by decide, show (nI 2 = 5) = False by decide, show (nI 2 = 6) = False by decide, show (nI 2 = 7) = False by decide, ↓reduceIte]
        rw [show nI 2 = 2 from rfl, rep_2 k R (by omega), cl (by omega)]
        simp only [bS, eG_tt]
        rw [r2]
        rcases p2 with q | q <;> rw [q] <;> simp only [bS, i10, i00, ↓reduceIte] <;> exact stepI rfl h
      · simp only [show (nI 3 = 0) = False by decide, show (nI 3 = 1) = False by decide, show (nI 3 = 2) = False by decide, show (nI 3 = 3) = True by decide, show (nI 3 = 4) = False by decide, show (nI 3 = 5) = False by decide, show (nI 3 = 6) = False by decide, show (nI 3 = 7) = False by decide, ↓reduceIte]
        rw [show nI 3 = 3 from rfl, rep_3 k R (by omega), cl (by omega)]
        simp only [bS, eG_tt]
        rw [r3]
        exact stepI rfl h
      · simp only [show (nI 4 = 0) = False by decide, show (nI 4 = 1) = False by decide, show (nI 4 = 2) = False by decide, show (nI 4 = 3) = False by decide, show (nI 4 = 4) = True by decide, show (nI 4 = 5) = False by decide, show (nI 4 = 6) = False by decide, show (nI 4 = 7) = False by decide, ↓reduceIte]
        rw [show nI 4 = 4 from rfl, rep_4 k R (by omega), cl (by omega)]
        simp only [bS, eG_tt]
        rw [r4]
        exact stepI rfl h
      · simp only [show (nI 5 = 0) = False by decide, show (nI 5 = 1) = False by decide, show (nI 5 = 2) = False by decide, show (nI 5 = 3) = False by decide, show (nI 5 = 4) = False by decide, show (nI 5 = 5) = True by decide, show (nI 5 = 6) = False by decide, show (nI 5 = 7) = False by decide, ↓reduceIte]
        rw [show nI 5 = 5 from rfl, rep_5 k R (by omega), cl (by omega)]
        simp only [bS, eG_tt]
        rw [r5]
        exact stepI rfl h
      · simp only [show (nI 6 = 0) = False by decide, show (nI 6 = 1) = False by decide, show (nI 6 = 2) = False by decide, show (nI 6 = 3) = False by decide, show (nI 6 = 4) = False by decide, show (nI 6 = 5) = False by decide, show (nI 6 = 6) = True by decide, show (nI 6 = 7) = False by decide, ↓reduceIte]
        rw [show nI 6 = 6 from rfl, rep_6 k R (by omega), cl (by omega)]
        simp only [bS, eG_tt]
        rw [r6]
        rcases p6 with q | q <;> rw [q] <;> simp only [bS, i10, i00, ↓reduceIte] <;> exact stepI rfl h
      · simp only [show (nI 7 = 0) = False by decide, show (nI 7 = 1) = False by decide, show (nI 7 = 2) = False by decide, show (nI 7 = 3) = False by decide, show (nI 7 = 4) = False by decide, show (nI 7 = 5) = False by decide, show (nI 7 = 6) = False by decide, show (nI 7 = 7) = True by decide, ↓reduceIte]
        obtain ⟨v, -, p1, p2⟩ := credit_both h.1 hk; rw [p1, p2]; simp only [bS, i10, i00, ↓reduceIte]; exact stepI rfl h
    · rw [f2]
      simp only [bS, i10, i00, ↓reduceIte]
      have hx : ∀ g : Nat, g < 8 → ¬ x2 = nI g := fun g hg e => by rw [e, isIn_y (n := 8) rfl hg] at f1; cases f1
      rw [if_neg (show ¬ x2 = 0 from hx 0 (by decide)), if_neg (show ¬ x2 = 1 from hx 1 (by decide)), if_neg (show ¬ x2 = 2 from hx 2 (by decide)), if_neg (show ¬ x2 = 3 from hx 3 (by decide)), if_neg (show ¬ x2 = 4 from hx 4 (by decide)), if_neg (show ¬ x2 = 5 from hx 5 (by decide)), if_neg (show ¬ x2 = 6 from hx 6 (by decide)), if_neg (show ¬ x2 = 7 from hx 7 (by decide))]
      exact stf1 h
  · simp only [bS, i10, i00, ↓reduceIte]
    exact stf1 h
theorem st_strike {C R : eMem} (h : Rel C R) (x1 : Int32) : Step (F_X9_strike x1 C) (F_X10_strike x1 R) := by
  obtain ⟨wSc, wGr, wRo, wUn, wPl, wHe, wSh, wRe, wFl, wLi, wBo, wTx, wTc, wz, i1, i2, i3, i4, i5, i6⟩ := id h.1; obtain ⟨c0, c1, c2, c3, c4, c5, c6, c7, c8, c9, c10, c11, c12, c13⟩ := id wSc; obtain ⟨⟨z0, y0⟩, ⟨f5, g5, y5, z5⟩, ⟨t6, y6, z6⟩, ⟨z7, y7⟩, ⟨z8, y8⟩, ⟨z9, y9⟩, ⟨z10, y10⟩, ⟨z11, y11⟩, ⟨z12, y12⟩, ⟨z13, y13⟩⟩ := id i1
  unfold F_X9_strike F_X10_strike
  rw [isReport_eq, c10]
  rcases rngN x1 (R.1 1 10) _ z10 (by omega) with ⟨k, hk, rfl, e1, e2⟩ | ⟨e1, e2⟩ <;> rw [e1, e2]
  · simp only [bS, i10, ↓reduceIte]
    obtain ⟨r0, r1, r2, r3, r4, r5, r6⟩ := wRe k hk
    obtain ⟨x0, x1, x2, x3, x5, x6⟩ := i5 k hk
    rw [rep_6 k R (by omega), rep_4 k R (by omega), eIn_s (n := 90) (by omega) (by omega), cl (by omega), r6, r4, r0, r5, c0]
    simp only [bS, eG_tt]
    rcases x6 with q | q <;> rw [q]
    · rw [if_pos rfl, if_neg (show ¬ (0 : Int32) = 1 by decide)]
      by_cases hh : R.1 1 0 < R.1 1 (502 + 7 * k)
      · rw [if_pos hh, if_pos hh]; exact stf4 h
      · rw [if_neg hh, if_neg hh]
        obtain ⟨v, v1, p1, p2⟩ := credit_both h.1 hk
        rw [p1, p2]
        simp only [bS]
        simp (disch := omega) only [eIn_s, eG_tt, cl, nI_add, bS, Ladd_0, Ladd_1, Ladd_2, Ladd_3, Ladd_4, Ladd_5, Ladd_6, Ladd_7, Ladd_8, Ladd_10, Ladd_12, Ladd_14, Ladd_20, Ladd_23, Ladd_24, Ladd_110, Ladd_200, Ladd_230, Ladd_290, Ladd_294, Ladd_298, Ladd_498, Ladd_1128, Ladd_1248, Ladd_1278, Ladd_1764, Rad_0, Rad_1, Rad_2, Rad_3, Rad_4, Rad_5, Rad_6, Rad_7, Rad_8, Rad_10, Rad_12, Rad_14, Rad_20, Rad_23, Rad_24, Rad_110, Rad_200, Rad_230, Rad_290, Rad_294, Rad_298, Rad_498, Rad_1128, Rad_1248, Rad_1278, Rad_1764, Mul_2, Mul_3, Mul_4, Mul_5, Mul_6, Mul_7, Mul_10, Mul_20, Mul_23, Mul_24, Mul_142]
        rw [show 498 + 7 * k + 6 = 504 + 7 * k by omega, rep_0 k _ (by omega), rep_5 k _ (by omega)]
        simp only [bS]
        rw [show vp_nar .boolean (1 : Int32) = 1 from rfl]
        have h1 : Rel (eI C 36 k 1) (eI R 1 (504 + 7 * k) 1) := by
          refine h.now (by simp (disch := omega) only [eIq_ne, eIq_eq, upd_ne, upd_eq]) (fun p hp => by simp (disch := omega) only [eIq_ne, eIq_eq, upd_ne, upd_eq]) (by simp (disch := omega) only [eIq_ne, eIq_eq, upd_ne, upd_eq]) (by simp (disch := omega) only [eIq_ne, eIq_eq, upd_ne, upd_eq]) (fun p p1 p2 => by simp (disch := omega) only [eIq_ne, eIq_eq, upd_ne, upd_eq]) (h.1.re (fun p p1 p2 p3 p4 p5 p6 p7 p8 => by simp (disch := omega) only [eIq_ne, eIq_eq, upd_ne, upd_eq]) (fun j j1 j2 => by simp (disch := omega) only [eIq_ne, eIq_eq, upd_ne, upd_eq]) (by refine ⟨?_, ?_, ?_, ?_, ?_, ?_, ?_, ?_, ?_, ?_, ?_, ?_, ?_, ?_⟩ <;> (simp (disch := omega) only [eIq_ne, eIq_eq, upd_ne, upd_eq] <;> first | assumption | (simp only [*]; done))) (wRe_mk (n := nP (R.1 1)) (by simp (disch := omega) only [eIq_ne, eIq_eq, upd_ne, upd_eq]; exact z10) (by omega) (fun i hi => ?_)) ?_ (iSc_mk  (by simp (disch := omega) only [eIq_ne, eIq_eq, upd_ne, upd_eq]; exact z0) y0 (by simp (disch := omega) only [eIq_ne, eIq_eq, upd_ne, upd_eq]; exact z5) g5 y5 (by simp (disch := omega) only [eIq_ne, eIq_eq, upd_ne, upd_eq]; exact z6) y6 (by simp (disch := omega) only [eIq_ne, eIq_eq, upd_ne, upd_eq]; exact z7) y7 (by simp (disch := omega) only [eIq_ne, eIq_eq, upd_ne, upd_eq]; exact z8) y8 (by simp (disch := omega) only [eIq_ne, eIq_eq, upd_ne, upd_eq]; exact z9) y9 (by simp (disch := omega) only [eIq_ne, eIq_eq, upd_ne, upd_eq]; exact z10) y10 (by simp (disch := omega) only [eIq_ne, eIq_eq, upd_ne, upd_eq]; exact z11) y11 (by simp (disch := omega) only [eIq_ne, eIq_eq, upd_ne, upd_eq]; exact z12) y12 (by simp (disch := omega) only [eIq_ne, eIq_eq, upd_ne, upd_eq]; exact z13) y13) (iRe_mk (n := nP (R.1 1)) (a := hr (R.1 1)) (b := nS (R.1 1)) (by simp (disch := omega) only [eIq_ne, eIq_eq, upd_ne, upd_eq]; exact z10) (by omega) (by simp (disch := omega) only [eIq_ne, eIq_eq, upd_ne, upd_eq]; exact z0) (by omega) (by simp (disch := omega) only [eIq_ne, eIq_eq, upd_ne, upd_eq]; exact z9) (by omega) (fun i hi => ?_)))
          · by_cases e : i = k
            · subst e; refine ⟨?_, ?_, ?_, ?_, ?_, ?_, ?_⟩ <;> simp (disch := omega) only [eIq_ne, eIq_eq, upd_ne, upd_eq] <;> assumption
            · simp (disch := omega) only [eIq_ne, eIq_eq, upd_ne, upd_eq]; exact wRe i hi
          · refine ⟨fun i hi => ?_, fun i hi => ?_, fun i hi => ?_, fun i hi => ?_, fun i hi => ?_, fun i hi => ?_, fun i hi => ?_⟩
            · simp (disch := omega) only [eIq_ne, eIq_eq, upd_ne, upd_eq]; exact wz.1 i hi
            · simp (disch := omega) only [eIq_ne, eIq_eq, upd_ne, upd_eq]; exact wz.2.1 i hi
            · simp (disch := omega) only [eIq_ne, eIq_eq, upd_ne, upd_eq]; exact wz.2.2.1 i hi
            · simp (disch := omega) only [eIq_ne, eIq_eq, upd_ne, upd_eq]
              by_cases e : i = k
              · subst e; simp (disch := omega) only [eIq_ne, eIq_eq, upd_ne, upd_eq]; exact Or.inr trivial
              · simp (disch := omega) only [eIq_ne, eIq_eq, upd_ne, upd_eq]; exact wz.2.2.2.1 i hi
            · simp (disch := omega) only [eIq_ne, eIq_eq, upd_ne, upd_eq]; exact wz.2.2.2.2.1 i hi
            · simp (disch := omega) only [eIq_ne, eIq_eq, upd_ne, upd_eq]; exact wz.2.2.2.2.2.1 i hi
            · simp (disch := omega) only [eIq_ne, eIq_eq, upd_ne, upd_eq]; exact wz.2.2.2.2.2.2 i hi
          · obtain ⟨b1, b2, b3, b4, b5, b6⟩ := i5 i hi
            have b5' : R.1 1 (498 + 7 * i) = 2 ∨ R.1 1 (498 + 7 * i) = 3 → ∃ x, x < nS (R.1 1) ∧ R.1 1 (503 + 7 * i) = nI x ∧ ¬ (eI R 1 (504 + 7 * k) 1).1 1 (298 + 10 * x) = 3 := fun q => by
              obtain ⟨y, y1, y2, y3⟩ := b5 q
              exact ⟨y, y1, y2, by simp (disch := omega) only [eIq_ne, eIq_eq, upd_ne, upd_eq]; exact y3⟩
            by_cases e : i = k
            · subst e; simp (disch := omega) only [eIq_ne, eIq_eq, upd_ne, upd_eq]; exact ⟨b1, b2, b3, b4, by simpa only [eIq_eq] using b5', Or.inr trivial⟩
            · simp (disch := omega) only [eIq_ne, eIq_eq, upd_ne, upd_eq]; exact ⟨b1, b2, b3, b4, by simpa only [eIq_eq] using b5', b6⟩
        simp (disch := omega) only [eIq_ne, eIq_eq, upd_ne, upd_eq]
        by_cases h2 : R.1 1 (498 + 7 * k) = 2
        · rw [if_pos h2, if_pos h2]
          obtain ⟨y, y1, y2, y3⟩ := x5 (Or.inl h2)
          obtain ⟨s0, s1, s2, s3, s4, s5, s6, s7, s8, s9⟩ := wSh y y1
          obtain ⟨a0, a1, ⟨w, w1, w2, -⟩, a4, a5, a7, a8⟩ := i4 y y1
          have hi : F_X9_isIn (nI y) (nI (nS (R.1 1))) = some 1 := by
            rcases rngN (nI y) (R.1 1 9) _ z9 (by omega) with ⟨u, hu, eu, u1, u2⟩ | ⟨u1, u2⟩
            · rw [z9] at u1; exact u1
            · rw [z9] at u2
              unfold F_X10_in at u2
              rw [if_neg (nI_pos (by omega)), if_neg (fun q => by rw [lt_pred _ (by omega) (by omega)] at q; exact q (nI_lt y1 (by omega)))] at u2
              cases u2
          have hcr : nI v = R.1 1 (301 + 10 * y) := by
            have hq := p2
            unfold F_X10_creditOf at hq
            rw [rep_0 k R (by omega), rep_5 k R (by omega)] at hq
            simp only [bS] at hq
            rw [h2, if_neg (by decide), if_pos rfl, y2, show_3 y R (by omega)] at hq
            simp only [bS] at hq
            injection hq with hq
            exact hq.symm
          rw [y2, has_eq]
          simp (disch := omega) only [eIq_ne, eIq_eq, upd_ne, upd_eq]
          rw [c9, z9, hi, set_3 y _ _ (by omega)]
          simp only [bS, i10, ↓reduceIte]
          simp (disch := omega) only [eIn_s, eG_tt, cl, nI_add, bS, Ladd_0, Ladd_1, Ladd_2, Ladd_3, Ladd_4, Ladd_5, Ladd_6, Ladd_7, Ladd_8, Ladd_10, Ladd_12, Ladd_14, Ladd_20, Ladd_23, Ladd_24, Ladd_110, Ladd_200, Ladd_230, Ladd_290, Ladd_294, Ladd_298, Ladd_498, Ladd_1128, Ladd_1248, Ladd_1278, Ladd_1764, Rad_0, Rad_1, Rad_2, Rad_3, Rad_4, Rad_5, Rad_6, Rad_7, Rad_8, Rad_10, Rad_12, Rad_14, Rad_20, Rad_23, Rad_24, Rad_110, Rad_200, Rad_230, Rad_290, Rad_294, Rad_298, Rad_498, Rad_1128, Rad_1248, Rad_1278, Rad_1764, Mul_2, Mul_3, Mul_4, Mul_5, Mul_6, Mul_7, Mul_10, Mul_20, Mul_23, Mul_24, Mul_142]
          have eh : nI v / 2 = nI (v / 2) := by rw [show (2 : Int32) = nI 2 from rfl, pk_div (by omega) (by omega) (by omega)]
          rw [s3, ← hcr, eh]
          refine stepI rfl ?_
          have hS : ∀ i, nS (R.1 1) = i → (eI R 1 (504 + 7 * k) 1).1 1 9 = nI i := fun i hi => by simp (disch := omega) only [eIq_ne, eIq_eq, upd_ne, upd_eq]; rw [z9, hi]
          refine h1.now (by simp (disch := omega) only [eIq_ne, eIq_eq, upd_ne, upd_eq]) (fun p hp => by simp (disch := omega) only [eIq_ne, eIq_eq, upd_ne, upd_eq]) (by simp (disch := omega) only [eIq_ne, eIq_eq, upd_ne, upd_eq]) (by simp (disch := omega) only [eIq_ne, eIq_eq, upd_ne, upd_eq]) (fun p p1 p2 => by simp (disch := omega) only [eIq_ne, eIq_eq, upd_ne, upd_eq]) (h1.1.sh (fun p p1 p2 p3 p4 p5 p6 p7 p8 p9 p10 p11 p12 => by simp (disch := omega) only [eIq_ne, eIq_eq, upd_ne, upd_eq]) (fun j j1 j2 j3 => by simp (disch := omega) only [eIq_ne, eIq_eq, upd_ne, upd_eq]) (by refine ⟨?_, ?_, ?_, ?_, ?_, ?_, ?_, ?_, ?_, ?_, ?_, ?_, ?_, ?_⟩ <;> (simp (disch := omega) only [eIq_ne, eIq_eq, upd_ne, upd_eq] <;> first | assumption | (simp only [*]; done))) (wSh_mk (n := nS (R.1 1)) (by simp (disch := omega) only [eIq_ne, eIq_eq, upd_ne, upd_eq]; exact z9) (by omega) (fun i hi => ?_)) (wZ_cg h1.1.2.2.2.2.2.2.2.2.2.2.2.2.2.1 (fun i hi => by simp (disch := omega) only [eIq_ne, eIq_eq, upd_ne, upd_eq]) (fun i hi => by simp (disch := omega) only [eIq_ne, eIq_eq, upd_ne, upd_eq]) (fun i hi => by simp (disch := omega) only [eIq_ne, eIq_eq, upd_ne, upd_eq]) (fun i hi => by simp (disch := omega) only [eIq_ne, eIq_eq, upd_ne, upd_eq]) (fun i hi => by simp (disch := omega) only [eIq_ne, eIq_eq, upd_ne, upd_eq]) (fun i hi => by simp (disch := omega) only [eIq_ne, eIq_eq, upd_ne, upd_eq]) (fun i hi => by simp (disch := omega) only [eIq_ne, eIq_eq, upd_ne, upd_eq])) (iSc_mk  (by simp (disch := omega) only [eIq_ne, eIq_eq, upd_ne, upd_eq]; exact z0) y0 (by simp (disch := omega) only [eIq_ne, eIq_eq, upd_ne, upd_eq]; exact z5) g5 y5 (by simp (disch := omega) only [eIq_ne, eIq_eq, upd_ne, upd_eq]; exact z6) y6 (by simp (disch := omega) only [eIq_ne, eIq_eq, upd_ne, upd_eq]; exact z7) y7 (by simp (disch := omega) only [eIq_ne, eIq_eq, upd_ne, upd_eq]; exact z8) y8 (by simp (disch := omega) only [eIq_ne, eIq_eq, upd_ne, upd_eq]; exact z9) y9 (by simp (disch := omega) only [eIq_ne, eIq_eq, upd_ne, upd_eq]; exact z10) y10 (by simp (disch := omega) only [eIq_ne, eIq_eq, upd_ne, upd_eq]; exact z11) y11 (by simp (disch := omega) only [eIq_ne, eIq_eq, upd_ne, upd_eq]; exact z12) y12 (by simp (disch := omega) only [eIq_ne, eIq_eq, upd_ne, upd_eq]; exact z13) y13) (iSh_mk (n := nS (R.1 1)) (by simp (disch := omega) only [eIq_ne, eIq_eq, upd_ne, upd_eq]; exact z9) (by omega) (fun i hi => ?_)) (nS_mono (n := nS (R.1 1)) (by simp (disch := omega) only [eIq_ne, eIq_eq, upd_ne, upd_eq]; exact z9) (by omega) (by rw [nS_of (hS _ rfl) (by omega)]; exact Nat.le_refl _)) (fun x hx => by simp (disch := omega) only [eIq_ne, eIq_eq, upd_ne, upd_eq]))
          · by_cases e : i = y
            · subst e; refine ⟨?_, ?_, ?_, ?_, ?_, ?_, ?_, ?_, ?_, ?_⟩ <;> simp (disch := omega) only [eIq_ne, eIq_eq, upd_ne, upd_eq] <;> assumption
            · simp (disch := omega) only [eIq_ne, eIq_eq, upd_ne, upd_eq]; exact wSh i hi
          · by_cases e : i = y
            · subst e; simp (disch := omega) only [eIq_ne, eIq_eq, upd_ne, upd_eq]; exact ⟨a0, a1, ⟨v / 2, by omega, rfl, Or.inl (by omega)⟩, a4, a5, a7, a8⟩
            · simp (disch := omega) only [eIq_ne, eIq_eq, upd_ne, upd_eq]; exact i4 i hi
        · rw [if_neg h2, if_neg h2]
          exact stepI rfl h1
    · rw [if_neg (show ¬ (1 : Int32) = 0 by decide), if_pos rfl]
      exact stf5 h
  · simp only [bS, i10, i00, ↓reduceIte]
    exact stf1 h
