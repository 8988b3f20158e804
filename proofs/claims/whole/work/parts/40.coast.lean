/-! THE CALLS: the coast. -/
theorem st_cell {C R : eMem} (h : Rel C R) (x1 x2 : Int32) : Step (F_X9_cell x1 x2 C) (F_X10_cell x1 x2 R) := by
  obtain ⟨wSc, wGr, wRo, wUn, wPl, wHe, wSh, wRe, wFl, wLi, wBo, wTx, wTc, wz, i1, i2, i3, i4, i5, i6⟩ := id h.1; obtain ⟨c0, c1, c2, c3, c4, c5, c6, c7, c8, c9, c10, c11, c12, c13⟩ := id wSc; obtain ⟨⟨z0, y0⟩, ⟨f5, g5, y5, z5⟩, ⟨t6, y6, z6⟩, ⟨z7, y7⟩, ⟨z8, y8⟩, ⟨z9, y9⟩, ⟨z10, y10⟩, ⟨z11, y11⟩, ⟨z12, y12⟩, ⟨z13, y13⟩⟩ := id i1
  unfold F_X9_cell F_X10_cell
  rw [isCell_eq]
  rcases rng x1 96 95 96 rfl rfl with ⟨k, hk, rfl, e1, e2⟩ | ⟨e1, e2⟩ <;> rw [e1, e2] <;> simp only [bS, i10, i00, ↓reduceIte]
  · rcases rng x2 4 3 4 rfl rfl with ⟨g, hg, rfl, f1, f2⟩ | ⟨f1, f2⟩ <;> rw [f1, f2] <;> simp only [bS, i10, i00, ↓reduceIte]
    · simp (disch := omega) only [eIn_s, eG_tt, cl, nI_add, bS, Ladd_0, Ladd_1, Ladd_2, Ladd_3, Ladd_4, Ladd_5, Ladd_6, Ladd_7, Ladd_8, Ladd_10, Ladd_12, Ladd_14, Ladd_20, Ladd_23, Ladd_24, Ladd_110, Ladd_200, Ladd_230, Ladd_290, Ladd_294, Ladd_298, Ladd_498, Ladd_1128, Ladd_1248, Ladd_1278, Ladd_1764, Rad_0, Rad_1, Rad_2, Rad_3, Rad_4, Rad_5, Rad_6, Rad_7, Rad_8, Rad_10, Rad_12, Rad_14, Rad_20, Rad_23, Rad_24, Rad_110, Rad_200, Rad_230, Rad_290, Rad_294, Rad_298, Rad_498, Rad_1128, Rad_1248, Rad_1278, Rad_1764, Mul_2, Mul_3, Mul_4, Mul_5, Mul_6, Mul_7, Mul_10, Mul_20, Mul_23, Mul_24, Mul_142]
      refine stepI (wGr k hk) ?_
      refine h.now (by simp (disch := omega) only [eIq_ne, eIq_eq, upd_ne, upd_eq]) (fun p hp => by simp (disch := omega) only [eIq_ne, eIq_eq, upd_ne, upd_eq]) (by simp (disch := omega) only [eIq_ne, eIq_eq, upd_ne, upd_eq]) (by simp (disch := omega) only [eIq_ne, eIq_eq, upd_ne, upd_eq]) (fun p p1 p2 => by simp (disch := omega) only [eIq_ne, eIq_eq, upd_ne, upd_eq]) (h.1.gr (fun p hp => by simp (disch := omega) only [eIq_ne, eIq_eq, upd_ne, upd_eq]) (fun j hj => by simp (disch := omega) only [eIq_ne, eIq_eq, upd_ne, upd_eq]) ?_)
      intro i hi
      simp (disch := omega) only [eIq_ne, eIq_eq, upd_ne, upd_eq]
      simp only [upd_at]
      by_cases e : i = k
      · subst e; simp
      · rw [if_neg e, if_neg (by omega)]; exact wGr i hi
    · exact stf1 h
  · exact stf1 h
theorem st_weather {C R : eMem} (h : Rel C R) (x1 x2 : Int32) : Step (F_X9_weather x1 x2 C) (F_X10_weather x1 x2 R) := by
  obtain ⟨wSc, wGr, wRo, wUn, wPl, wHe, wSh, wRe, wFl, wLi, wBo, wTx, wTc, wz, i1, i2, i3, i4, i5, i6⟩ := id h.1; obtain ⟨c0, c1, c2, c3, c4, c5, c6, c7, c8, c9, c10, c11, c12, c13⟩ := id wSc; obtain ⟨⟨z0, y0⟩, ⟨f5, g5, y5, z5⟩, ⟨t6, y6, z6⟩, ⟨z7, y7⟩, ⟨z8, y8⟩, ⟨z9, y9⟩, ⟨z10, y10⟩, ⟨z11, y11⟩, ⟨z12, y12⟩, ⟨z13, y13⟩⟩ := id i1
  unfold F_X9_weather F_X10_weather
  simp only [btw]
  rcases in01 x1 0 9 with ⟨e, -⟩ | e <;> rw [e] <;> simp only [bS, i10, i00, ↓reduceIte]
  · rcases in01 x2 0 9 with ⟨e, -⟩ | e <;> rw [e] <;> simp only [bS, i10, i00, ↓reduceIte]
    · exact stepI rfl (h.now (by simp (disch := omega) only [eIq_ne, eIq_eq, upd_ne, upd_eq]) (fun p hp => by simp (disch := omega) only [eIq_ne, eIq_eq, upd_ne, upd_eq]) (by simp (disch := omega) only [eIq_ne, eIq_eq, upd_ne, upd_eq]) (by simp (disch := omega) only [eIq_ne, eIq_eq, upd_ne, upd_eq]) (fun p p1 p2 => by simp (disch := omega) only [eIq_ne, eIq_eq, upd_ne, upd_eq]) (h.1.scal (fun p p1 p2 => by simp (disch := omega) only [eIq_ne, eIq_eq, upd_ne, upd_eq]) (fun j hj => by simp (disch := omega) only [eIq_ne, eIq_eq, upd_ne, upd_eq]) (by refine ⟨?_, ?_, ?_, ?_, ?_, ?_, ?_, ?_, ?_, ?_, ?_, ?_, ?_, ?_⟩ <;> (simp (disch := omega) only [eIq_ne, eIq_eq, upd_ne, upd_eq] <;> first | assumption | (simp only [*]; done))) (iSc_mk  (by simp (disch := omega) only [eIq_ne, eIq_eq, upd_ne, upd_eq]; exact z0) y0 (by simp (disch := omega) only [eIq_ne, eIq_eq, upd_ne, upd_eq]; exact z5) g5 y5 (by simp (disch := omega) only [eIq_ne, eIq_eq, upd_ne, upd_eq]; exact z6) y6 (by simp (disch := omega) only [eIq_ne, eIq_eq, upd_ne, upd_eq]; exact z7) y7 (by simp (disch := omega) only [eIq_ne, eIq_eq, upd_ne, upd_eq]; exact z8) y8 (by simp (disch := omega) only [eIq_ne, eIq_eq, upd_ne, upd_eq]; exact z9) y9 (by simp (disch := omega) only [eIq_ne, eIq_eq, upd_ne, upd_eq]; exact z10) y10 (by simp (disch := omega) only [eIq_ne, eIq_eq, upd_ne, upd_eq]; exact z11) y11 (by simp (disch := omega) only [eIq_ne, eIq_eq, upd_ne, upd_eq]; exact z12) y12 (by simp (disch := omega) only [eIq_ne, eIq_eq, upd_ne, upd_eq]; exact z13) y13)))
    · exact stf1 h
  · exact stf1 h
theorem st_purse {C R : eMem} (h : Rel C R) (x1 x2 : Int32) : Step (F_X9_purse x1 x2 C) (F_X10_purse x1 x2 R) := by
  obtain ⟨wSc, wGr, wRo, wUn, wPl, wHe, wSh, wRe, wFl, wLi, wBo, wTx, wTc, wz, i1, i2, i3, i4, i5, i6⟩ := id h.1; obtain ⟨c0, c1, c2, c3, c4, c5, c6, c7, c8, c9, c10, c11, c12, c13⟩ := id wSc; obtain ⟨⟨z0, y0⟩, ⟨f5, g5, y5, z5⟩, ⟨t6, y6, z6⟩, ⟨z7, y7⟩, ⟨z8, y8⟩, ⟨z9, y9⟩, ⟨z10, y10⟩, ⟨z11, y11⟩, ⟨z12, y12⟩, ⟨z13, y13⟩⟩ := id i1
  unfold F_X9_purse F_X10_purse
  simp only [btw]
  rcases in01 x1 0 900 with ⟨e, -⟩ | e <;> rw [e] <;> simp only [bS, i10, i00, ↓reduceIte]
  · rcases in01 x2 0 9000 with ⟨e, -⟩ | e <;> rw [e] <;> simp only [bS, i10, i00, ↓reduceIte]
    · exact stepI rfl (h.now (by simp (disch := omega) only [eIq_ne, eIq_eq, upd_ne, upd_eq]) (fun p hp => by simp (disch := omega) only [eIq_ne, eIq_eq, upd_ne, upd_eq]) (by simp (disch := omega) only [eIq_ne, eIq_eq, upd_ne, upd_eq]) (by simp (disch := omega) only [eIq_ne, eIq_eq, upd_ne, upd_eq]) (fun p p1 p2 => by simp (disch := omega) only [eIq_ne, eIq_eq, upd_ne, upd_eq]) (h.1.scal (fun p p1 p2 => by simp (disch := omega) only [eIq_ne, eIq_eq, upd_ne, upd_eq]) (fun j hj => by simp (disch := omega) only [eIq_ne, eIq_eq, upd_ne, upd_eq]) (by refine ⟨?_, ?_, ?_, ?_, ?_, ?_, ?_, ?_, ?_, ?_, ?_, ?_, ?_, ?_⟩ <;> (simp (disch := omega) only [eIq_ne, eIq_eq, upd_ne, upd_eq] <;> first | assumption | (simp only [*]; done))) (iSc_mk  (by simp (disch := omega) only [eIq_ne, eIq_eq, upd_ne, upd_eq]; exact z0) y0 (by simp (disch := omega) only [eIq_ne, eIq_eq, upd_ne, upd_eq]; exact z5) g5 y5 (by simp (disch := omega) only [eIq_ne, eIq_eq, upd_ne, upd_eq]; exact z6) y6 (by simp (disch := omega) only [eIq_ne, eIq_eq, upd_ne, upd_eq]; exact z7) y7 (by simp (disch := omega) only [eIq_ne, eIq_eq, upd_ne, upd_eq]; exact z8) y8 (by simp (disch := omega) only [eIq_ne, eIq_eq, upd_ne, upd_eq]; exact z9) y9 (by simp (disch := omega) only [eIq_ne, eIq_eq, upd_ne, upd_eq]; exact z10) y10 (by simp (disch := omega) only [eIq_ne, eIq_eq, upd_ne, upd_eq]; exact z11) y11 (by simp (disch := omega) only [eIq_ne, eIq_eq, upd_ne, upd_eq]; exact z12) y12 (by simp (disch := omega) only [eIq_ne, eIq_eq, upd_ne, upd_eq]; exact z13) y13)))
    · exact stf1 h
  · exact stf1 h
theorem st_story {C R : eMem} (h : Rel C R) (x1 x2 : Int32) : Step (F_X9_story x1 x2 C) (F_X10_story x1 x2 R) := by
  obtain ⟨wSc, wGr, wRo, wUn, wPl, wHe, wSh, wRe, wFl, wLi, wBo, wTx, wTc, wz, i1, i2, i3, i4, i5, i6⟩ := id h.1; obtain ⟨c0, c1, c2, c3, c4, c5, c6, c7, c8, c9, c10, c11, c12, c13⟩ := id wSc; obtain ⟨⟨z0, y0⟩, ⟨f5, g5, y5, z5⟩, ⟨t6, y6, z6⟩, ⟨z7, y7⟩, ⟨z8, y8⟩, ⟨z9, y9⟩, ⟨z10, y10⟩, ⟨z11, y11⟩, ⟨z12, y12⟩, ⟨z13, y13⟩⟩ := id i1
  unfold F_X9_story F_X10_story
  rw [isCell_eq, isStory_eq]
  rcases rng x1 4 3 4 rfl rfl with ⟨k, hk, rfl, e1, e2⟩ | ⟨e1, e2⟩ <;> rw [e1, e2] <;> simp only [bS, i10, i00, ↓reduceIte]
  · rcases rng x2 96 95 96 rfl rfl with ⟨g, hg, rfl, f1, f2⟩ | ⟨f1, f2⟩ <;> rw [f1, f2] <;> simp only [bS, i10, i00, ↓reduceIte]
    · simp (disch := omega) only [eIn_s, eG_tt, cl, nI_add, bS, Ladd_0, Ladd_1, Ladd_2, Ladd_3, Ladd_4, Ladd_5, Ladd_6, Ladd_7, Ladd_8, Ladd_10, Ladd_12, Ladd_14, Ladd_20, Ladd_23, Ladd_24, Ladd_110, Ladd_200, Ladd_230, Ladd_290, Ladd_294, Ladd_298, Ladd_498, Ladd_1128, Ladd_1248, Ladd_1278, Ladd_1764, Rad_0, Rad_1, Rad_2, Rad_3, Rad_4, Rad_5, Rad_6, Rad_7, Rad_8, Rad_10, Rad_12, Rad_14, Rad_20, Rad_23, Rad_24, Rad_110, Rad_200, Rad_230, Rad_290, Rad_294, Rad_298, Rad_498, Rad_1128, Rad_1248, Rad_1278, Rad_1764, Mul_2, Mul_3, Mul_4, Mul_5, Mul_6, Mul_7, Mul_10, Mul_20, Mul_23, Mul_24, Mul_142]
      refine stepI (wPl k hk) ?_
      refine h.now (by simp (disch := omega) only [eIq_ne, eIq_eq, upd_ne, upd_eq]) (fun p hp => by simp (disch := omega) only [eIq_ne, eIq_eq, upd_ne, upd_eq]) (by simp (disch := omega) only [eIq_ne, eIq_eq, upd_ne, upd_eq]) (by simp (disch := omega) only [eIq_ne, eIq_eq, upd_ne, upd_eq]) (fun p p1 p2 => by simp (disch := omega) only [eIq_ne, eIq_eq, upd_ne, upd_eq]) (h.1.pl (fun p hp => by simp (disch := omega) only [eIq_ne, eIq_eq, upd_ne, upd_eq]) (fun j hj => by simp (disch := omega) only [eIq_ne, eIq_eq, upd_ne, upd_eq]) ?_)
      intro i hi
      simp (disch := omega) only [eIq_ne, eIq_eq, upd_ne, upd_eq]
      simp only [upd_at]
      by_cases e : i = k
      · subst e; simp
      · rw [if_neg e, if_neg (by omega)]; exact wPl i hi
    · exact stf1 h
  · exact stf1 h
theorem st_road {C R : eMem} (h : Rel C R) (x1 x2 x3 : Int32) : Step (F_X9_road x1 x2 x3 C) (F_X10_road_ x1 x2 x3 R) := by
  obtain ⟨wSc, wGr, wRo, wUn, wPl, wHe, wSh, wRe, wFl, wLi, wBo, wTx, wTc, wz, i1, i2, i3, i4, i5, i6⟩ := id h.1; obtain ⟨c0, c1, c2, c3, c4, c5, c6, c7, c8, c9, c10, c11, c12, c13⟩ := id wSc; obtain ⟨⟨z0, y0⟩, ⟨f5, g5, y5, z5⟩, ⟨t6, y6, z6⟩, ⟨z7, y7⟩, ⟨z8, y8⟩, ⟨z9, y9⟩, ⟨z10, y10⟩, ⟨z11, y11⟩, ⟨z12, y12⟩, ⟨z13, y13⟩⟩ := id i1
  unfold F_X9_road F_X10_road_
  rw [isCell_eq, isCell_eq]
  simp only [btw]
  rcases rng x1 96 95 96 rfl rfl with ⟨k, hk, rfl, e1, e2⟩ | ⟨e1, e2⟩ <;> rw [e1, e2] <;> simp only [bS, i10, i00, ↓reduceIte]
  · rcases rng x2 96 95 96 rfl rfl with ⟨g, hg, rfl, f1, f2⟩ | ⟨f1, f2⟩ <;> rw [f1, f2] <;> simp only [bS, i10, i00, ↓reduceIte]
    · by_cases he : nI k = nI g
      · rw [if_pos he, if_pos he]; exact stf1 h
      · rw [if_neg he, if_neg he]
        rcases inL x3 1 30 1 30 rfl rfl with ⟨t, t1, t2, rfl, e3⟩ | e3 <;> rw [e3] <;> simp only [bS, i10, i00, ↓reduceIte]
        · rw [c7, z7]
          generalize hn : nR (R.1 1) = n at *
          by_cases hf : n = 40
          · subst hf
            rw [if_neg (by decide), if_pos (by decide)]
            exact stf2 h
          · rw [if_pos ((lt_lit (n := 40) rfl (by omega)).mpr (by omega)), if_neg (fun q => hf ((eq_lit (n := 40) rfl (by omega)).mp q))]
            unfold F_X0_addRoad
            rw [c7, z7, isIn_y (n := 40) rfl (by omega)]
            simp only [roa_0, roa_1, roa_2]
            simp only [bS, i10, i00, ↓reduceIte]
            simp (disch := omega) only [eIn_s, eG_tt, cl, nI_add, bS, Ladd_0, Ladd_1, Ladd_2, Ladd_3, Ladd_4, Ladd_5, Ladd_6, Ladd_7, Ladd_8, Ladd_10, Ladd_12, Ladd_14, Ladd_20, Ladd_23, Ladd_24, Ladd_110, Ladd_200, Ladd_230, Ladd_290, Ladd_294, Ladd_298, Ladd_498, Ladd_1128, Ladd_1248, Ladd_1278, Ladd_1764, Rad_0, Rad_1, Rad_2, Rad_3, Rad_4, Rad_5, Rad_6, Rad_7, Rad_8, Rad_10, Rad_12, Rad_14, Rad_20, Rad_23, Rad_24, Rad_110, Rad_200, Rad_230, Rad_290, Rad_294, Rad_298, Rad_498, Rad_1128, Rad_1248, Rad_1278, Rad_1764, Mul_2, Mul_3, Mul_4, Mul_5, Mul_6, Mul_7, Mul_10, Mul_20, Mul_23, Mul_24, Mul_142]
            refine stepI rfl ?_
            refine h.now (by simp (disch := omega) only [eIq_ne, eIq_eq, upd_ne, upd_eq]) (fun p hp => by simp (disch := omega) only [eIq_ne, eIq_eq, upd_ne, upd_eq]) (by simp (disch := omega) only [eIq_ne, eIq_eq, upd_ne, upd_eq]) (by simp (disch := omega) only [eIq_ne, eIq_eq, upd_ne, upd_eq]) (fun p p1 p2 => by simp (disch := omega) only [eIq_ne, eIq_eq, upd_ne, upd_eq]) (h.1.ro (fun p p1 p2 p3 p4 => by simp (disch := omega) only [eIq_ne, eIq_eq, upd_ne, upd_eq]) (fun j h1 h2 => by simp (disch := omega) only [eIq_ne, eIq_eq, upd_ne, upd_eq]) (by refine ⟨?_, ?_, ?_, ?_, ?_, ?_, ?_, ?_, ?_, ?_, ?_, ?_, ?_, ?_⟩ <;> (simp (disch := omega) only [eIq_ne, eIq_eq, upd_ne, upd_eq] <;> first | assumption | (simp only [*]; done))) (wRo_mk (n := n + 1) (by simp (disch := omega) only [eIq_ne, eIq_eq, upd_ne, upd_eq]) (by omega) (fun i hi => ?_)) (iSc_mk (a := n + 1) (by simp (disch := omega) only [eIq_ne, eIq_eq, upd_ne, upd_eq]; exact z0) y0 (by simp (disch := omega) only [eIq_ne, eIq_eq, upd_ne, upd_eq]; exact z5) g5 y5 (by simp (disch := omega) only [eIq_ne, eIq_eq, upd_ne, upd_eq]; exact z6) y6 (by simp (disch := omega) only [eIq_ne, eIq_eq, upd_ne, upd_eq]) (by omega) (by simp (disch := omega) only [eIq_ne, eIq_eq, upd_ne, upd_eq]; exact z8) y8 (by simp (disch := omega) only [eIq_ne, eIq_eq, upd_ne, upd_eq]; exact z9) y9 (by simp (disch := omega) only [eIq_ne, eIq_eq, upd_ne, upd_eq]; exact z10) y10 (by simp (disch := omega) only [eIq_ne, eIq_eq, upd_ne, upd_eq]; exact z11) y11 (by simp (disch := omega) only [eIq_ne, eIq_eq, upd_ne, upd_eq]; exact z12) y12 (by simp (disch := omega) only [eIq_ne, eIq_eq, upd_ne, upd_eq]; exact z13) y13) (iRo_mk (n := n + 1) (by simp (disch := omega) only [eIq_ne, eIq_eq, upd_ne, upd_eq]) (by omega) (fun i hi => ?_)) (iUn_mk (n := nU (R.1 1)) (a := n + 1) (by simp (disch := omega) only [eIq_ne, eIq_eq, upd_ne, upd_eq]; exact z8) (by omega) (by simp (disch := omega) only [eIq_ne, eIq_eq, upd_ne, upd_eq]) (by omega) (fun i hi => ?_)))
            · by_cases e : i = n
              · subst e; refine ⟨?_, ?_, ?_⟩ <;> simp (disch := omega) only [eIq_ne, eIq_eq, upd_ne, upd_eq]
              · simp (disch := omega) only [eIq_ne, eIq_eq, upd_ne, upd_eq]; exact wRo i (by omega)
            · by_cases e : i = n
              · subst e; simp (disch := omega) only [eIq_ne, eIq_eq, upd_ne, upd_eq]; exact ⟨t, t1, t2, rfl⟩
              · simp (disch := omega) only [eIq_ne, eIq_eq, upd_ne, upd_eq]; exact i2 i (by omega)
            · rcases i3 i hi with q | ⟨r, u, q1, q2, q3, q4, q5, q6⟩
              · exact Or.inl (by simp (disch := omega) only [eIq_ne, eIq_eq, upd_ne, upd_eq]; exact q)
              · exact Or.inr ⟨r, u, by omega, q2, q3, by simp (disch := omega) only [eIq_ne, eIq_eq, upd_ne, upd_eq]; exact q4, by simp (disch := omega) only [eIq_ne, eIq_eq, upd_ne, upd_eq]; exact q5, by simp (disch := omega) only [eIq_ne, eIq_eq, upd_ne, upd_eq]; exact q6⟩
        · exact stf1 h
    · exact stf1 h
  · exact stf1 h
theorem st_unit {C R : eMem} (h : Rel C R) (x1 x2 : Int32) : Step (F_X9_unit x1 x2 C) (F_X10_unit x1 x2 R) := by
  obtain ⟨wSc, wGr, wRo, wUn, wPl, wHe, wSh, wRe, wFl, wLi, wBo, wTx, wTc, wz, i1, i2, i3, i4, i5, i6⟩ := id h.1; obtain ⟨c0, c1, c2, c3, c4, c5, c6, c7, c8, c9, c10, c11, c12, c13⟩ := id wSc; obtain ⟨⟨z0, y0⟩, ⟨f5, g5, y5, z5⟩, ⟨t6, y6, z6⟩, ⟨z7, y7⟩, ⟨z8, y8⟩, ⟨z9, y9⟩, ⟨z10, y10⟩, ⟨z11, y11⟩, ⟨z12, y12⟩, ⟨z13, y13⟩⟩ := id i1
  unfold F_X9_unit F_X10_unit
  rw [isCell_eq]
  simp only [btw]
  rcases rng x1 96 95 96 rfl rfl with ⟨k, hk, rfl, e1, e2⟩ | ⟨e1, e2⟩ <;> rw [e1, e2] <;> simp only [bS, i10, i00, ↓reduceIte]
  · rcases inL x2 1 90 1 90 rfl rfl with ⟨t, t1, t2, rfl, e3⟩ | e3 <;> rw [e3] <;> simp only [bS, i10, i00, ↓reduceIte]
    · rw [c8, z8]
      generalize hn : nU (R.1 1) = n at *
      by_cases hf : n = 12
      · subst hf
        rw [if_neg (by decide), if_pos (by decide)]
        exact stf2 h
      · rw [if_pos ((lt_lit (n := 12) rfl (by omega)).mpr (by omega)), if_neg (fun q => hf ((eq_lit (n := 12) rfl (by omega)).mp q))]
        unfold F_X0_addUnit
        rw [c8, z8, isIn_y (n := 12) rfl (by omega)]
        simp only [uat_0, uat_1, uat_2, uat_3, uat_4]
        simp only [bS, i10, i00, ↓reduceIte]
        simp (disch := omega) only [eIn_s, eG_tt, cl, nI_add, bS, Ladd_0, Ladd_1, Ladd_2, Ladd_3, Ladd_4, Ladd_5, Ladd_6, Ladd_7, Ladd_8, Ladd_10, Ladd_12, Ladd_14, Ladd_20, Ladd_23, Ladd_24, Ladd_110, Ladd_200, Ladd_230, Ladd_290, Ladd_294, Ladd_298, Ladd_498, Ladd_1128, Ladd_1248, Ladd_1278, Ladd_1764, Rad_0, Rad_1, Rad_2, Rad_3, Rad_4, Rad_5, Rad_6, Rad_7, Rad_8, Rad_10, Rad_12, Rad_14, Rad_20, Rad_23, Rad_24, Rad_110, Rad_200, Rad_230, Rad_290, Rad_294, Rad_298, Rad_498, Rad_1128, Rad_1248, Rad_1278, Rad_1764, Mul_2, Mul_3, Mul_4, Mul_5, Mul_6, Mul_7, Mul_10, Mul_20, Mul_23, Mul_24, Mul_142]
        refine stepI rfl ?_
        refine h.now (by simp (disch := omega) only [eIq_ne, eIq_eq, upd_ne, upd_eq]) (fun p hp => by simp (disch := omega) only [eIq_ne, eIq_eq, upd_ne, upd_eq]) (by simp (disch := omega) only [eIq_ne, eIq_eq, upd_ne, upd_eq]) (by simp (disch := omega) only [eIq_ne, eIq_eq, upd_ne, upd_eq]) (fun p p1 p2 => by simp (disch := omega) only [eIq_ne, eIq_eq, upd_ne, upd_eq]) (h.1.un (fun p p1 p2 p3 p4 p5 => by simp (disch := omega) only [eIq_ne, eIq_eq, upd_ne, upd_eq]) (fun j h1 h2 => by simp (disch := omega) only [eIq_ne, eIq_eq, upd_ne, upd_eq]) (by refine ⟨?_, ?_, ?_, ?_, ?_, ?_, ?_, ?_, ?_, ?_, ?_, ?_, ?_, ?_⟩ <;> (simp (disch := omega) only [eIq_ne, eIq_eq, upd_ne, upd_eq] <;> first | assumption | (simp only [*]; done))) (wUn_mk (n := n + 1) (by simp (disch := omega) only [eIq_ne, eIq_eq, upd_ne, upd_eq]) (by omega) (fun i hi => ?_)) (iSc_mk (b := n + 1) (by simp (disch := omega) only [eIq_ne, eIq_eq, upd_ne, upd_eq]; exact z0) y0 (by simp (disch := omega) only [eIq_ne, eIq_eq, upd_ne, upd_eq]; exact z5) g5 y5 (by simp (disch := omega) only [eIq_ne, eIq_eq, upd_ne, upd_eq]; exact z6) y6 (by simp (disch := omega) only [eIq_ne, eIq_eq, upd_ne, upd_eq]; exact z7) y7 (by simp (disch := omega) only [eIq_ne, eIq_eq, upd_ne, upd_eq]) (by omega) (by simp (disch := omega) only [eIq_ne, eIq_eq, upd_ne, upd_eq]; exact z9) y9 (by simp (disch := omega) only [eIq_ne, eIq_eq, upd_ne, upd_eq]; exact z10) y10 (by simp (disch := omega) only [eIq_ne, eIq_eq, upd_ne, upd_eq]; exact z11) y11 (by simp (disch := omega) only [eIq_ne, eIq_eq, upd_ne, upd_eq]; exact z12) y12 (by simp (disch := omega) only [eIq_ne, eIq_eq, upd_ne, upd_eq]; exact z13) y13) (iUn_mk (n := n + 1) (a := nR (R.1 1)) (by simp (disch := omega) only [eIq_ne, eIq_eq, upd_ne, upd_eq]) (by omega) (by simp (disch := omega) only [eIq_ne, eIq_eq, upd_ne, upd_eq]; exact z7) (by omega) (fun i hi => ?_)))
        · by_cases e : i = n
          · subst e; refine ⟨?_, ?_, ?_, ?_⟩ <;> simp (disch := omega) only [eIq_ne, eIq_eq, upd_ne, upd_eq]
          · simp (disch := omega) only [eIq_ne, eIq_eq, upd_ne, upd_eq]; exact wUn i (by omega)
        · by_cases e : i = n
          · subst e; exact Or.inl (by simp (disch := omega) only [eIq_ne, eIq_eq, upd_ne, upd_eq])
          · rcases i3 i (by omega) with q | ⟨r, g, q1, q2, q3, q4, q5, q6⟩
            · exact Or.inl (by simp (disch := omega) only [eIq_ne, eIq_eq, upd_ne, upd_eq]; exact q)
            · exact Or.inr ⟨r, g, q1, q2, q3, by simp (disch := omega) only [eIq_ne, eIq_eq, upd_ne, upd_eq]; exact q4, by simp (disch := omega) only [eIq_ne, eIq_eq, upd_ne, upd_eq]; exact q5, by simp (disch := omega) only [eIq_ne, eIq_eq, upd_ne, upd_eq]; exact q6⟩
    · exact stf1 h
  · exact stf1 h
