/-! listeners -/
theorem nets_loop (T : Int32) : ∀ m j, ∀ (C R : eMem), Rel C R → j + m = nS (R.1 1) → ∀ f1 f2, m < f1 → m < f2 → ∃ C2 R2, F_X8_hearNets_13 f1 T (nI j) C = some C2 ∧ F_X10_listens_12 f2 T (nI j) R = some R2 ∧ Rel C2 R2 ∧ kq R R2 := by
  intro m
  induction m with
  | zero =>
    intro j C R h hj f1 f2 h1 h2
    obtain ⟨wSc, wGr, wRo, wUn, wPl, wHe, wSh, wRe, wFl, wLi, wBo, wTx, wTc, wz, i1, i2, i3, i4, i5, i6⟩ := id h.1; obtain ⟨c0, c1, c2, c3, c4, c5, c6, c7, c8, c9, c10, c11, c12, c13⟩ := id wSc; obtain ⟨⟨z0, y0⟩, ⟨f5, g5, y5, z5⟩, ⟨t6, y6, z6⟩, ⟨z7, y7⟩, ⟨z8, y8⟩, ⟨z9, y9⟩, ⟨z10, y10⟩, ⟨z11, y11⟩, ⟨z12, y12⟩, ⟨z13, y13⟩⟩ := id i1
    obtain ⟨f1, rfl⟩ : ∃ x, f1 = x + 1 := ⟨f1 - 1, by omega⟩
    obtain ⟨f2, rfl⟩ : ∃ x, f2 = x + 1 := ⟨f2 - 1, by omega⟩
    rw [F_X8_hearNets_13, F_X10_listens_12, c9, z9, if_neg (nI_nlt (by omega) (by omega)), if_neg (nI_nlt (by omega) (by omega))]
    exact ⟨C, R, rfl, rfl, h, kq.rf⟩
  | succ m ih =>
    intro j C R h hj f1 f2 h1 h2
    obtain ⟨wSc, wGr, wRo, wUn, wPl, wHe, wSh, wRe, wFl, wLi, wBo, wTx, wTc, wz, i1, i2, i3, i4, i5, i6⟩ := id h.1; obtain ⟨c0, c1, c2, c3, c4, c5, c6, c7, c8, c9, c10, c11, c12, c13⟩ := id wSc; obtain ⟨⟨z0, y0⟩, ⟨f5, g5, y5, z5⟩, ⟨t6, y6, z6⟩, ⟨z7, y7⟩, ⟨z8, y8⟩, ⟨z9, y9⟩, ⟨z10, y10⟩, ⟨z11, y11⟩, ⟨z12, y12⟩, ⟨z13, y13⟩⟩ := id i1
    obtain ⟨f1, rfl⟩ : ∃ x, f1 = x + 1 := ⟨f1 - 1, by omega⟩
    obtain ⟨f2, rfl⟩ : ∃ x, f2 = x + 1 := ⟨f2 - 1, by omega⟩
    obtain ⟨s0, s1, s2, s3, s4, s5, s6, s7, s8, s9⟩ := wSh j (by omega)
    obtain ⟨x0, ⟨st, hst, x1⟩, -⟩ := i4 j (by omega)
    have hskip := fun C h => ih (j + 1) C R h (by omega) f1 f2 (by omega) (by omega)
    rw [F_X8_hearNets_13, F_X10_listens_12, c9, z9, if_pos (nI_lt (by omega) (by omega)), if_pos (nI_lt (by omega) (by omega)), show_0 j R (by omega), show_3 j R (by omega), show_4 j R (by omega), show_1 j R (by omega), eIn_s (show j < 20 by omega) (by omega), cl (show j < 2147483648 by omega), s0, s3, s4, btw, Rad_1]
    simp only [bS, eG_tt]
    by_cases q : R.1 1 (298 + 10 * j) = 3
    · rw [if_pos q, if_pos q]
      rcases in01 T (R.1 1 (301 + 10 * j)) (R.1 1 (302 + 10 * j)) with ⟨e, -⟩ | e <;> rw [e]
      · simp only [bS, i10, ↓reduceIte]
        obtain ⟨v, C2, hv, p1, p2, p3⟩ := shown_both h.1 (k := j) (by omega)
        rw [p1, p2]
        have h2 := p3.R h
        rcases hv with rfl | rfl
        · simp only [bS, ↓reduceIte]; exact hskip C2 h2
        · simp only [bS, i10, ↓reduceIte]
          obtain ⟨wSc2, -, -, -, -, -, wSh2, -⟩ := id h2.1
          unfold F_X8_reportShow
          obtain ⟨C3, v, R3, e1, e2, e3, e4⟩ := comes_any h2 (k := 1) (st := st) (b := 1) (kn := R.1 1 0) (x6 := nI j) (by omega) hst (Or.inr rfl) (fun q => by omega)
          rw [show nI 1 = 1 from rfl] at e1 e2
          rw [eIn_s (show j < 20 by omega) (by omega), cl (show j < 2147483648 by omega), (wSh2 j (by omega)).2.1, x1, wSc2.1, e1, e2]
          simp only [bS, eG_tt]
          obtain ⟨C4, R4, g1, g2, g3, g4⟩ := ih (j + 1) C3 R3 e3 (by rw [e4.S]; omega) f1 f2 (by omega) (by omega)
          exact ⟨C4, R4, g1, g2, g3, e4.tr g4⟩
      · simp only [bS, ↓reduceIte]
        exact hskip C h
    · rw [if_neg q, if_neg q]
      exact hskip C h
theorem listens_loop (KC KR : eMem → Option eMem) : ∀ m j, ∀ (C R : eMem), Rel C R → j + m = nL (R.1 1) → ∀ f1 f2, m < f1 → m < f2 → ∃ C2 R2, F_X8_closeHour_73 KC f1 (nI j) C = KC C2 ∧ F_X10_oneHour_57 KR f2 (nI j) R = KR R2 ∧ Rel C2 R2 ∧ kq R R2 := by
  intro m
  induction m with
  | zero =>
    intro j C R h hj f1 f2 h1 h2
    obtain ⟨wSc, wGr, wRo, wUn, wPl, wHe, wSh, wRe, wFl, wLi, wBo, wTx, wTc, wz, i1, i2, i3, i4, i5, i6⟩ := id h.1; obtain ⟨c0, c1, c2, c3, c4, c5, c6, c7, c8, c9, c10, c11, c12, c13⟩ := id wSc; obtain ⟨⟨z0, y0⟩, ⟨f5, g5, y5, z5⟩, ⟨t6, y6, z6⟩, ⟨z7, y7⟩, ⟨z8, y8⟩, ⟨z9, y9⟩, ⟨z10, y10⟩, ⟨z11, y11⟩, ⟨z12, y12⟩, ⟨z13, y13⟩⟩ := id i1
    obtain ⟨f1, rfl⟩ : ∃ x, f1 = x + 1 := ⟨f1 - 1, by omega⟩
    obtain ⟨f2, rfl⟩ : ∃ x, f2 = x + 1 := ⟨f2 - 1, by omega⟩
    rw [F_X8_closeHour_73, F_X10_oneHour_57, c13, z13, if_neg (nI_nlt (by omega) (by omega)), if_neg (nI_nlt (by omega) (by omega))]
    exact ⟨C, R, rfl, rfl, h, kq.rf⟩
  | succ m ih =>
    intro j C R h hj f1 f2 h1 h2
    obtain ⟨wSc, wGr, wRo, wUn, wPl, wHe, wSh, wRe, wFl, wLi, wBo, wTx, wTc, wz, i1, i2, i3, i4, i5, i6⟩ := id h.1; obtain ⟨c0, c1, c2, c3, c4, c5, c6, c7, c8, c9, c10, c11, c12, c13⟩ := id wSc; obtain ⟨⟨z0, y0⟩, ⟨f5, g5, y5, z5⟩, ⟨t6, y6, z6⟩, ⟨z7, y7⟩, ⟨z8, y8⟩, ⟨z9, y9⟩, ⟨z10, y10⟩, ⟨z11, y11⟩, ⟨z12, y12⟩, ⟨z13, y13⟩⟩ := id i1
    obtain ⟨f1, rfl⟩ : ∃ x, f1 = x + 1 := ⟨f1 - 1, by omega⟩
    obtain ⟨f2, rfl⟩ : ∃ x, f2 = x + 1 := ⟨f2 - 1, by omega⟩
    have l0 := wLi j (by omega)
    rw [F_X8_closeHour_73, F_X10_oneHour_57, c13, z13, if_pos (nI_lt (by omega) (by omega)), if_pos (nI_lt (by omega) (by omega)), Ladd_1248, eIn_s (show 1248 + j < 2900 by omega) (by omega), cl (show 1248 + j < 2147483648 by omega), eIn_s (show j < 30 by omega) (by omega), cl (show j < 2147483648 by omega), l0, c0, Rad_1]
    simp only [eG_tt]
    by_cases q : R.1 1 (1248 + j) = R.1 1 0
    · rw [if_pos q, if_pos q]
      unfold F_X8_hearNets F_X10_listens
      rw [c0]
      obtain ⟨C2, R2, a1, a2, a3, a4⟩ := nets_loop (R.1 1 0 - R.1 1 0 / 24 * 24) (nS (R.1 1)) 0 C R h (by omega) eFuel eFuel (by unfold eFuel; omega) (by unfold eFuel; omega)
      rw [show nI 0 = 0 from rfl] at a1 a2
      rw [a1, a2]
      simp only [bS]
      obtain ⟨C4, R4, g1, g2, g3, g4⟩ := ih (j + 1) C2 R2 a3 (by rw [a4.L]; omega) f1 f2 (by omega) (by omega)
      exact ⟨C4, R4, g1, g2, g3, a4.tr g4⟩
    · rw [if_neg q, if_neg q]
      exact ih (j + 1) C R h (by omega) f1 f2 (by omega) (by omega)
/-! papers -/
theorem papers_loop : ∀ m j, ∀ (C R : eMem), Rel C R → j + m = nS (R.1 1) → ∀ f1 f2, m < f1 → m < f2 → ∃ C2 R2, F_X8_findPapers_2 f1 (nI j) C = some C2 ∧ F_X10_papers_2 f2 (nI j) R = some R2 ∧ Rel C2 R2 ∧ kq R R2 := by
  intro m
  induction m with
  | zero =>
    intro j C R h hj f1 f2 h1 h2
    obtain ⟨wSc, wGr, wRo, wUn, wPl, wHe, wSh, wRe, wFl, wLi, wBo, wTx, wTc, wz, i1, i2, i3, i4, i5, i6⟩ := id h.1; obtain ⟨c0, c1, c2, c3, c4, c5, c6, c7, c8, c9, c10, c11, c12, c13⟩ := id wSc; obtain ⟨⟨z0, y0⟩, ⟨f5, g5, y5, z5⟩, ⟨t6, y6, z6⟩, ⟨z7, y7⟩, ⟨z8, y8⟩, ⟨z9, y9⟩, ⟨z10, y10⟩, ⟨z11, y11⟩, ⟨z12, y12⟩, ⟨z13, y13⟩⟩ := id i1
    obtain ⟨f1, rfl⟩ : ∃ x, f1 = x + 1 := ⟨f1 - 1, by omega⟩
    obtain ⟨f2, rfl⟩ : ∃ x, f2 = x + 1 := ⟨f2 - 1, by omega⟩
    rw [F_X8_findPapers_2, F_X10_papers_2, c9, z9, if_neg (nI_nlt (by omega) (by omega)), if_neg (nI_nlt (by omega) (by omega))]
    exact ⟨C, R, rfl, rfl, h, kq.rf⟩
  | succ m ih =>
    intro j C R h hj f1 f2 h1 h2
    obtain ⟨wSc, wGr, wRo, wUn, wPl, wHe, wSh, wRe, wFl, wLi, wBo, wTx, wTc, wz, i1, i2, i3, i4, i5, i6⟩ := id h.1; obtain ⟨c0, c1, c2, c3, c4, c5, c6, c7, c8, c9, c10, c11, c12, c13⟩ := id wSc; obtain ⟨⟨z0, y0⟩, ⟨f5, g5, y5, z5⟩, ⟨t6, y6, z6⟩, ⟨z7, y7⟩, ⟨z8, y8⟩, ⟨z9, y9⟩, ⟨z10, y10⟩, ⟨z11, y11⟩, ⟨z12, y12⟩, ⟨z13, y13⟩⟩ := id i1
    obtain ⟨f1, rfl⟩ : ∃ x, f1 = x + 1 := ⟨f1 - 1, by omega⟩
    obtain ⟨f2, rfl⟩ : ∃ x, f2 = x + 1 := ⟨f2 - 1, by omega⟩
    obtain ⟨s0, s1, s2, s3, s4, s5, s6, s7, s8, s9⟩ := wSh j (by omega)
    obtain ⟨x0, ⟨st, hst, x1⟩, -, -, x5, -⟩ := i4 j (by omega)
    have hskip := fun C h => ih (j + 1) C R h (by omega) f1 f2 (by omega) (by omega)
    rw [F_X8_findPapers_2, F_X10_papers_2, c9, z9, if_pos (nI_lt (by omega) (by omega)), if_pos (nI_lt (by omega) (by omega))]
    unfold F_X10_papers_60 F_X10_papers_61
    simp only [show_0 j R (by omega), show_5 j R (by omega), show_6 j R (by omega), show_4 j R (by omega), show_1 j R (by omega)]
    rw [eIn_s (show j < 20 by omega) (by omega), cl (show j < 2147483648 by omega), s0, s4, s5, s6, c0, Rad_1]
    simp only [bS, eG_tt, i10, ↓reduceIte]
    by_cases q : R.1 1 (298 + 10 * j) = 5
    · rw [if_pos q, if_pos q]
      rcases x5 with q2 | q2
      · rw [q2]
        simp only [↓reduceIte, show ((0 : Int32) = 1) = False by decide]
        exact hskip C h
      · rw [q2]
        simp only [i10, ↓reduceIte]
        by_cases q3 : R.1 1 0 - R.1 1 (304 + 10 * j) < R.1 1 (302 + 10 * j)
        · rw [if_pos q3, if_pos q3]
          exact hskip C h
        · rw [if_neg q3, if_neg q3]
          obtain ⟨v, C2, hv, p1, p2, p3⟩ := shown_both h.1 (k := j) (by omega)
          rw [p1, p2]
          have h2 := p3.R h
          rcases hv with rfl | rfl
          · simp only [bS, ↓reduceIte]; exact hskip C2 h2
          · simp only [bS, i10, ↓reduceIte]
            obtain ⟨wSc2, -, -, -, -, -, wSh2, -⟩ := id h2.1
            unfold F_X8_reportShow
            obtain ⟨C3, v, R3, e1, e2, e3, e4⟩ := comes_any h2 (k := 3) (st := st) (b := 1) (kn := R.1 1 0) (x6 := nI j) (by omega) hst (Or.inr rfl) (fun _ => ⟨j, by omega, rfl, by rw [q]; decide⟩)
            rw [show nI 3 = 3 from rfl] at e1 e2
            rw [eIn_s (show j < 20 by omega) (by omega), cl (show j < 2147483648 by omega), (wSh2 j (by omega)).2.1, x1, wSc2.1, e1, e2]
            simp only [bS, eG_tt]
            rw [set_5 j 0 R3 (by omega), show vp_nar .boolean (0 : Int32) = 0 from rfl]
            simp only [bS]
            have h4 := set_stands e3 (k := j) (w := 0) (by rw [e4.S]; omega) (Or.inl rfl)
            have hk : kq R3 (eI R3 1 (303 + 10 * j) 0) := kq.w (by omega)
            obtain ⟨C4, R4, g1, g2, g3, g4⟩ := ih (j + 1) _ _ h4 (by rw [hk.S, e4.S]; omega) f1 f2 (by omega) (by omega)
            exact ⟨C4, R4, g1, g2, g3, (e4.tr hk).tr g4⟩
    · rw [if_neg q, if_neg q]
      exact hskip C h
/-! the units march -/
theorem march_one {C R : eMem} (h : Rel C R) {k r g : Nat} (hk : k < nU (R.1 1)) (hrn : r < nR (R.1 1)) (hg1 : 1 ≤ g) (hg2 : g ≤ 30) (q4 : R.1 1 (232 + 5 * k) = nI r) (q5 : R.1 1 (234 + 5 * k) = nI g) (q6 : R.1 1 (233 + 5 * k) = (if R.1 1 (110 + 3 * r) = R.1 1 (230 + 5 * k) then R.1 1 (111 + 3 * r) else R.1 1 (110 + 3 * r))) :
    (2 ≤ g → Rel (eI C 10 k (nI (g - 1))) (eI R 1 (234 + 5 * k) (nI (g - 1)))) ∧
    (g = 1 → Rel (eI (eI (eI C 10 k 0) 7 k (R.1 1 (233 + 5 * k))) 9 k (-1)) (eI (eI (eI R 1 (234 + 5 * k) 0) 1 (230 + 5 * k) (R.1 1 (233 + 5 * k))) 1 (232 + 5 * k) (-1))) := by
  obtain ⟨wSc, wGr, wRo, wUn, wPl, wHe, wSh, wRe, wFl, wLi, wBo, wTx, wTc, wz, i1, i2, i3, i4, i5, i6⟩ := id h.1; obtain ⟨c0, c1, c2, c3, c4, c5, c6, c7, c8, c9, c10, c11, c12, c13⟩ := id wSc; obtain ⟨⟨z0, y0⟩, ⟨f5, g5, y5, z5⟩, ⟨t6, y6, z6⟩, ⟨z7, y7⟩, ⟨z8, y8⟩, ⟨z9, y9⟩, ⟨z10, y10⟩, ⟨z11, y11⟩, ⟨z12, y12⟩, ⟨z13, y13⟩⟩ := id i1
  obtain ⟨u0, u1, u2, u3⟩ := wUn k hk
  refine ⟨fun hg => ?_, fun hg => ?_⟩
  · refine h.now (by simp (disch := omega) only [eIq_ne, eIq_eq, upd_ne, upd_eq]) (fun p hp => by simp (disch := omega) only [eIq_ne, eIq_eq, upd_ne, upd_eq]) (by simp (disch := omega) only [eIq_ne, eIq_eq, upd_ne, upd_eq]) (by simp (disch := omega) only [eIq_ne, eIq_eq, upd_ne, upd_eq]) (fun p p1 p2 => by simp (disch := omega) only [eIq_ne, eIq_eq, upd_ne, upd_eq]) (h.1.un (fun p p1 p2 p3 p4 p5 => by simp (disch := omega) only [eIq_ne, eIq_eq, upd_ne, upd_eq]) (fun j h1 h2 => by simp (disch := omega) only [eIq_ne, eIq_eq, upd_ne, upd_eq]) (by refine ⟨?_, ?_, ?_, ?_, ?_, ?_, ?_, ?_, ?_, ?_, ?_, ?_, ?_, ?_⟩ <;> simp (disch := omega) only [eIq_ne, eIq_eq, upd_ne, upd_eq] <;> assumption) (wUn_mk (n := nU (R.1 1)) (by simp (disch := omega) only [eIq_ne, eIq_eq, upd_ne, upd_eq]; exact z8) (by omega) (fun i hi => ?_)) (iSc_mk  (by simp (disch := omega) only [eIq_ne, eIq_eq, upd_ne, upd_eq]; exact z0) y0 (by simp (disch := omega) only [eIq_ne, eIq_eq, upd_ne, upd_eq]; exact z5) g5 y5 (by simp (disch := omega) only [eIq_ne, eIq_eq, upd_ne, upd_eq]; exact z6) y6 (by simp (disch := omega) only [eIq_ne, eIq_eq, upd_ne, upd_eq]; exact z7) y7 (by simp (disch := omega) only [eIq_ne, eIq_eq, upd_ne, upd_eq]; exact z8) y8 (by simp (disch := omega) only [eIq_ne, eIq_eq, upd_ne, upd_eq]; exact z9) y9 (by simp (disch := omega) only [eIq_ne, eIq_eq, upd_ne, upd_eq]; exact z10) y10 (by simp (disch := omega) only [eIq_ne, eIq_eq, upd_ne, upd_eq]; exact z11) y11 (by simp (disch := omega) only [eIq_ne, eIq_eq, upd_ne, upd_eq]; exact z12) y12 (by simp (disch := omega) only [eIq_ne, eIq_eq, upd_ne, upd_eq]; exact z13) y13) (iUn_mk (n := nU (R.1 1)) (a := nR (R.1 1)) (by simp (disch := omega) only [eIq_ne, eIq_eq, upd_ne, upd_eq]; exact z8) (by omega) (by simp (disch := omega) only [eIq_ne, eIq_eq, upd_ne, upd_eq]; exact z7) (by omega) (fun i hi => ?_)))
    · by_cases e : i = k
      · subst e; refine ⟨?_, ?_, ?_, ?_⟩ <;> simp (disch := omega) only [eIq_ne, eIq_eq, upd_ne, upd_eq]
        · exact u0
        · exact u1
        · exact u2
      · simp (disch := omega) only [eIq_ne, eIq_eq, upd_ne, upd_eq]; exact wUn i hi
    · by_cases e : i = k
      · subst e
        exact Or.inr ⟨r, g - 1, hrn, by omega, by omega, by simp (disch := omega) only [eIq_ne, eIq_eq, upd_ne, upd_eq]; exact q4, by simp (disch := omega) only [eIq_ne, eIq_eq, upd_ne, upd_eq], by simp (disch := omega) only [eIq_ne, eIq_eq, upd_ne, upd_eq]; exact q6⟩
      · rcases i3 i hi with q | ⟨r, u, p1, p2, p3, p4, p5, p6⟩
        · exact Or.inl (by simp (disch := omega) only [eIq_ne, eIq_eq, upd_ne, upd_eq]; exact q)
        · exact Or.inr ⟨r, u, by omega, p2, p3, by simp (disch := omega) only [eIq_ne, eIq_eq, upd_ne, upd_eq]; exact p4, by simp (disch := omega) only [eIq_ne, eIq_eq, upd_ne, upd_eq]; exact p5, by simp (disch := omega) only [eIq_ne, eIq_eq, upd_ne, upd_eq]; exact p6⟩
  · refine h.now (by simp (disch := omega) only [eIq_ne, eIq_eq, upd_ne, upd_eq]) (fun p hp => by simp (disch := omega) only [eIq_ne, eIq_eq, upd_ne, upd_eq]) (by simp (disch := omega) only [eIq_ne, eIq_eq, upd_ne, upd_eq]) (by simp (disch := omega) only [eIq_ne, eIq_eq, upd_ne, upd_eq]) (fun p p1 p2 => by simp (disch := omega) only [eIq_ne, eIq_eq, upd_ne, upd_eq]) (h.1.un (fun p p1 p2 p3 p4 p5 => by simp (disch := omega) only [eIq_ne, eIq_eq, upd_ne, upd_eq]) (fun j h1 h2 => by simp (disch := omega) only [eIq_ne, eIq_eq, upd_ne, upd_eq]) (by refine ⟨?_, ?_, ?_, ?_, ?_, ?_, ?_, ?_, ?_, ?_, ?_, ?_, ?_, ?_⟩ <;> simp (disch := omega) only [eIq_ne, eIq_eq, upd_ne, upd_eq] <;> assumption) (wUn_mk (n := nU (R.1 1)) (by simp (disch := omega) only [eIq_ne, eIq_eq, upd_ne, upd_eq]; exact z8) (by omega) (fun i hi => ?_)) (iSc_mk  (by simp (disch := omega) only [eIq_ne, eIq_eq, upd_ne, upd_eq]; exact z0) y0 (by simp (disch := omega) only [eIq_ne, eIq_eq, upd_ne, upd_eq]; exact z5) g5 y5 (by simp (disch := omega) only [eIq_ne, eIq_eq, upd_ne, upd_eq]; exact z6) y6 (by simp (disch := omega) only [eIq_ne, eIq_eq, upd_ne, upd_eq]; exact z7) y7 (by simp (disch := omega) only [eIq_ne, eIq_eq, upd_ne, upd_eq]; exact z8) y8 (by simp (disch := omega) only [eIq_ne, eIq_eq, upd_ne, upd_eq]; exact z9) y9 (by simp (disch := omega) only [eIq_ne, eIq_eq, upd_ne, upd_eq]; exact z10) y10 (by simp (disch := omega) only [eIq_ne, eIq_eq, upd_ne, upd_eq]; exact z11) y11 (by simp (disch := omega) only [eIq_ne, eIq_eq, upd_ne, upd_eq]; exact z12) y12 (by simp (disch := omega) only [eIq_ne, eIq_eq, upd_ne, upd_eq]; exact z13) y13) (iUn_mk (n := nU (R.1 1)) (a := nR (R.1 1)) (by simp (disch := omega) only [eIq_ne, eIq_eq, upd_ne, upd_eq]; exact z8) (by omega) (by simp (disch := omega) only [eIq_ne, eIq_eq, upd_ne, upd_eq]; exact z7) (by omega) (fun i hi => ?_)))
    · by_cases e : i = k
      · subst e; refine ⟨?_, ?_, ?_, ?_⟩ <;> simp (disch := omega) only [eIq_ne, eIq_eq, upd_ne, upd_eq]
        exact u1
      · simp (disch := omega) only [eIq_ne, eIq_eq, upd_ne, upd_eq]; exact wUn i hi
    · by_cases e : i = k
      · subst e
        exact Or.inl (by simp (disch := omega) only [eIq_ne, eIq_eq, upd_ne, upd_eq])
      · rcases i3 i hi with q | ⟨r, u, p1, p2, p3, p4, p5, p6⟩
        · exact Or.inl (by simp (disch := omega) only [eIq_ne, eIq_eq, upd_ne, upd_eq]; exact q)
        · exact Or.inr ⟨r, u, by omega, p2, p3, by simp (disch := omega) only [eIq_ne, eIq_eq, upd_ne, upd_eq]; exact p4, by simp (disch := omega) only [eIq_ne, eIq_eq, upd_ne, upd_eq]; exact p5, by simp (disch := omega) only [eIq_ne, eIq_eq, upd_ne, upd_eq]; exact p6⟩
theorem march_loop : ∀ m j, ∀ (C R : eMem), Rel C R → j + m = nU (R.1 1) → ∀ f1 f2, m < f1 → m < f2 → ∃ C2 R2, F_X0_march_2 f1 (nI j) C = some C2 ∧ F_X10_marches_2 f2 (nI j) R = some R2 ∧ Rel C2 R2 ∧ kq R R2 := by
  intro m
  induction m with
  | zero =>
    intro j C R h hj f1 f2 h1 h2
    obtain ⟨wSc, wGr, wRo, wUn, wPl, wHe, wSh, wRe, wFl, wLi, wBo, wTx, wTc, wz, i1, i2, i3, i4, i5, i6⟩ := id h.1; obtain ⟨c0, c1, c2, c3, c4, c5, c6, c7, c8, c9, c10, c11, c12, c13⟩ := id wSc; obtain ⟨⟨z0, y0⟩, ⟨f5, g5, y5, z5⟩, ⟨t6, y6, z6⟩, ⟨z7, y7⟩, ⟨z8, y8⟩, ⟨z9, y9⟩, ⟨z10, y10⟩, ⟨z11, y11⟩, ⟨z12, y12⟩, ⟨z13, y13⟩⟩ := id i1
    obtain ⟨f1, rfl⟩ : ∃ x, f1 = x + 1 := ⟨f1 - 1, by omega⟩
    obtain ⟨f2, rfl⟩ : ∃ x, f2 = x + 1 := ⟨f2 - 1, by omega⟩
    rw [F_X0_march_2, F_X10_marches_2, c8, z8, if_neg (nI_nlt (by omega) (by omega)), if_neg (nI_nlt (by omega) (by omega))]
    exact ⟨C, R, rfl, rfl, h, kq.rf⟩
  | succ m ih =>
    intro j C R h hj f1 f2 h1 h2
    obtain ⟨wSc, wGr, wRo, wUn, wPl, wHe, wSh, wRe, wFl, wLi, wBo, wTx, wTc, wz, i1, i2, i3, i4, i5, i6⟩ := id h.1; obtain ⟨c0, c1, c2, c3, c4, c5, c6, c7, c8, c9, c10, c11, c12, c13⟩ := id wSc; obtain ⟨⟨z0, y0⟩, ⟨f5, g5, y5, z5⟩, ⟨t6, y6, z6⟩, ⟨z7, y7⟩, ⟨z8, y8⟩, ⟨z9, y9⟩, ⟨z10, y10⟩, ⟨z11, y11⟩, ⟨z12, y12⟩, ⟨z13, y13⟩⟩ := id i1
    obtain ⟨f1, rfl⟩ : ∃ x, f1 = x + 1 := ⟨f1 - 1, by omega⟩
    obtain ⟨f2, rfl⟩ : ∃ x, f2 = x + 1 := ⟨f2 - 1, by omega⟩
    obtain ⟨u0, u1, u2, u3⟩ := wUn j (by omega)
    rw [F_X0_march_2, F_X10_marches_2, c8, z8, if_pos (nI_lt (by omega) (by omega)), if_pos (nI_lt (by omega) (by omega))]
    simp only [uat_0, uat_2, uat_3, uat_4, bS]
    rw [eIn_s (show j < 12 by omega) (by omega), cl (show j < 2147483648 by omega), eIn_s (show 230 + 5 * j < 2900 by omega) (by omega), cl (show 230 + 5 * j < 2147483648 by omega), eIn_s (show 232 + 5 * j < 2900 by omega) (by omega), cl (show 232 + 5 * j < 2147483648 by omega), eIn_s (show 233 + 5 * j < 2900 by omega) (by omega), cl (show 233 + 5 * j < 2147483648 by omega), eIn_s (show 234 + 5 * j < 2900 by omega) (by omega), cl (show 234 + 5 * j < 2147483648 by omega), u2, u3, c7, Rad_1]
    simp only [eG_tt]
    simp (disch := omega) only [eIq_ne, eIq_eq, upd_ne, upd_eq]
    rcases i3 j (by omega) with q | ⟨r, g, q1, q2, q3, q4, q5, q6⟩
    · rw [q, if_pos (show (-1 : Int32) < 0 by decide)]
      unfold F_X9_isIn
      rw [if_pos (show (-1 : Int32) < 0 by decide)]
      simp only [bS, ↓reduceIte]
      exact ih (j + 1) C R h (by omega) f1 f2 (by omega) (by omega)
    · obtain ⟨r0, r1, r2⟩ := wRo r q1
      obtain ⟨m1, m2⟩ := march_one h (k := j) (by omega) q1 q2 q3 q4 q5 q6
      have hin : F_X9_isIn (nI r) (R.1 1 7) = some 1 := by
        rw [z7]
        unfold F_X9_isIn
        rw [if_neg (nI_pos (by omega)), if_pos (nI_lt q1 (by omega))]
      rw [q4, hin, if_neg (nI_pos (by omega)), q5]
      simp only [bS, i10, ↓reduceIte]
      rw [show nI g - 1 = nI (g - 1) from nI_sub (b := 1) q2]
      by_cases e : 2 ≤ g
      · rw [if_pos ((gt_lit (n := 0) rfl (by omega)).mpr (by omega)), if_neg (nI_ne0 (by omega) (by omega))]
        have hk : kq R (eI R 1 (234 + 5 * j) (nI (g - 1))) := kq.w (by omega)
        obtain ⟨C4, R4, g1, g2, g3, g4⟩ := ih (j + 1) _ _ (m1 e) (by rw [hk.U]; omega) f1 f2 (by omega) (by omega)
        exact ⟨C4, R4, g1, g2, g3, hk.tr g4⟩
      · have e1 : g = 1 := by omega
        subst e1
        rw [show nI (1 - 1) = 0 from rfl, if_neg (show ¬ (0 : Int32) < 0 by decide), if_pos rfl, eIn_s (show r < 40 by omega) (by omega), cl (show r < 2147483648 by omega), r0, r1, u0]
        simp only [eG_tt]
        have hk : kq R (eI (eI (eI R 1 (234 + 5 * j) 0) 1 (230 + 5 * j) (R.1 1 (233 + 5 * j))) 1 (232 + 5 * j) (-1)) := ((kq.w (by omega)).tr (kq.w (by omega))).tr (kq.w (by omega))
        have hrest := ih (j + 1) _ _ (m2 rfl) (by rw [hk.U]; omega) f1 f2 (by omega) (by omega)
        have h88 : ∀ w : Int32, w = R.1 1 (233 + 5 * j) → F_X0_march_88 (fun v1 M => F_X0_march_2 f1 v1 M) (nI j) w (nI j) (eI C 10 j 0) = F_X0_march_2 f1 (nI (j + 1)) (eI (eI (eI C 10 j 0) 7 j (R.1 1 (233 + 5 * j))) 9 j (-1)) := by
          intro w hw
          unfold F_X0_march_88
          rw [eIn_s (show j < 12 by omega) (by omega), cl (show j < 2147483648 by omega), Rad_1, hw]
          simp only [eG_tt]
        by_cases e2 : R.1 1 (110 + 3 * r) = R.1 1 (230 + 5 * j)
        · rw [if_pos e2] at q6
          rw [if_pos e2, h88 _ q6.symm]
          obtain ⟨C4, R4, g1, g2, g3, g4⟩ := hrest
          exact ⟨C4, R4, g1, g2, g3, hk.tr g4⟩
        · rw [if_neg e2] at q6
          rw [if_neg e2, h88 _ q6.symm]
          obtain ⟨C4, R4, g1, g2, g3, g4⟩ := hrest
          exact ⟨C4, R4, g1, g2, g3, hk.tr g4⟩
