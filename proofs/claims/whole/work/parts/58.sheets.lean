/-! known; sheets; tear -/
theorem known_loop {C R : eMem} (h : Rel C R) (T : Int32) : ∀ m j, j + m = nP (R.1 1) → ∀ f1 f2, m < f1 → m < f2 → ∀ v, ∃ u, F_X1_knownBy_4 f1 C T v (nI j) = some u ∧ F_X10_knownBy_4 f2 R T v (nI j) = some u := by
  obtain ⟨wSc, wGr, wRo, wUn, wPl, wHe, wSh, wRe, wFl, wLi, wBo, wTx, wTc, wz, i1, i2, i3, i4, i5, i6⟩ := id h.1; obtain ⟨c0, c1, c2, c3, c4, c5, c6, c7, c8, c9, c10, c11, c12, c13⟩ := id wSc; obtain ⟨⟨z0, y0⟩, ⟨f5, g5, y5, z5⟩, ⟨t6, y6, z6⟩, ⟨z7, y7⟩, ⟨z8, y8⟩, ⟨z9, y9⟩, ⟨z10, y10⟩, ⟨z11, y11⟩, ⟨z12, y12⟩, ⟨z13, y13⟩⟩ := id i1
  intro m
  induction m with
  | zero =>
    intro j hj f1 f2 h1 h2 v
    obtain ⟨f1, rfl⟩ : ∃ x, f1 = x + 1 := ⟨f1 - 1, by omega⟩
    obtain ⟨f2, rfl⟩ : ∃ x, f2 = x + 1 := ⟨f2 - 1, by omega⟩
    rw [F_X1_knownBy_4, F_X10_knownBy_4, c10, z10, if_neg (nI_nlt (by omega) (by omega)), if_neg (nI_nlt (by omega) (by omega))]
    exact ⟨v, rfl, rfl⟩
  | succ m ih =>
    intro j hj f1 f2 h1 h2 v
    obtain ⟨f1, rfl⟩ : ∃ x, f1 = x + 1 := ⟨f1 - 1, by omega⟩
    obtain ⟨f2, rfl⟩ : ∃ x, f2 = x + 1 := ⟨f2 - 1, by omega⟩
    have hn := fun v => ih (j + 1) (by omega) f1 f2 (by omega) (by omega) v
    rw [F_X1_knownBy_4, F_X10_knownBy_4, c10, z10, if_pos (nI_lt (by omega) (by omega)), if_pos (nI_lt (by omega) (by omega)), rep_4 j R (by omega), eIn_s (show j < 90 by omega) (by omega), cl (show j < 2147483648 by omega), eG_tt, (wRe j (by omega)).2.2.2.2.1, Rad_1, show v + 0 = v from Int32.add_zero v]
    simp only [bS]
    by_cases q : T < R.1 1 (502 + 7 * j)
    · rw [if_pos q, if_pos q]; exact hn v
    · rw [if_neg q, if_neg q]; exact hn (v + 1)
theorem known_both {C R : eMem} (h : Rel C R) (T : Int32) : ∃ u, F_X1_knownBy T C = some u ∧ F_X10_knownBy T R = some u := by
  have y10 := h.1.2.2.2.2.2.2.2.2.2.2.2.2.2.2.1.2.2.2.2.2.2.1.2
  have := known_loop h T (nP (R.1 1)) 0 (by omega) eFuel eFuel (by unfold eFuel; omega) (by unfold eFuel; omega) 0
  rw [show nI 0 = 0 from rfl] at this
  exact this
theorem st_known {C R : eMem} (h : Rel C R) (x1 : Int32) : Step (F_X9_known x1 C) (F_X10_known x1 R) := by
  unfold F_X9_known F_X10_known
  rw [isHour_eq]
  simp only [btw]
  rcases in01 x1 0 1943 with ⟨e, -⟩ | e <;> rw [e]
  · simp only [bS, i10, ↓reduceIte]
    obtain ⟨u, u1, u2⟩ := known_both h x1
    rw [u1, u2]
    exact stepI rfl h
  · simp only [bS, i10, i00, ↓reduceIte]
    exact stf1 h
theorem Rel.sheet {C C2 R R2 : eMem} (h : Rel C R) (hc : ∀ p, (p < 148 ∨ 154 < p) → C2.1 p = C.1 p) (hr : ∀ p, (p < 4 ∨ p = 7) → R2.1 p = R.1 p) (hs : rShe C2 R2) : Rel C2 R2 := by
  obtain ⟨h1, ⟨h2, h3⟩, h4, h5, h6, h7⟩ := h
  refine ⟨?_, ⟨by rw [hc 0 (by omega), hr 0 (by omega)]; exact h2, ?_⟩, ?_, hs, ?_, wZ_cg h7 ?_ ?_ ?_ ?_ ?_ ?_ ?_⟩
  · rw [hr 1 (by omega)]
    refine h1.agr ?_ (fun j _ => rfl)
    simp (disch := omega) only [Agr, hc]
    simp
  · rw [hr 0 (by omega)]
    rcases h3 with h3 | ⟨h3, h3'⟩
    · exact Or.inl h3
    · refine Or.inr ⟨h3, ?_⟩
      rw [hr 2 (by omega)]
      refine h3'.agr ?_ (fun j _ => rfl)
      simp (disch := omega) only [Agr, hc]
      simp
  · unfold rTape
    rw [hc 145 (by omega), hc 146 (by omega), hr 0 (by omega), hr 3 (by omega)]
    exact h4
  · intro i hi
    rw [hc 155 (by omega), hr 7 (by omega)]
    exact h6 i hi
  all_goals (intro i _; rw [hc _ (by omega)])
theorem st_read {C R : eMem} (h : Rel C R) (x1 x2 : Int32) : Step (F_X9_read x1 x2 C) (F_X10_read x1 x2 R) := by
  unfold F_X9_read F_X10_read
  rw [isSheet_eq]
  rcases rng x1 4 3 4 rfl rfl with ⟨k, hk, rfl, f1, f2⟩ | ⟨f1, f2⟩ <;> rw [f1, f2]
  · simp only [bS, i10, ↓reduceIte]
    obtain ⟨b4, b5, b3, ⟨n, hn, h5⟩, b6, b8⟩ := h.2.2.2.1 k hk
    unfold F_X4_isMissing
    rw [eIn_s hk (by omega), cl (show k < 2147483648 by omega), b4, b5, h5]
    simp only [eG_tt]
    by_cases h4 : R.1 4 k = 0
    · rw [if_pos h4, if_pos h4]; simp only [bS, i10, i00, ↓reduceIte]; exact stf6 h
    · rw [if_neg h4, if_neg h4]
      simp only [bS, ↓reduceIte]
      rcases rngN x2 (nI n) n rfl (by omega) with ⟨j, hj, rfl, e1, e2⟩ | ⟨e1, e2⟩ <;> rw [e1, e2]
      · simp only [bS, i10, ↓reduceIte]
        simp (disch := omega) only [eIn_s, eG_tt, cl, nI_add, bS, Ladd_0, Ladd_1, Ladd_2, Ladd_3, Ladd_4, Ladd_5, Ladd_6, Ladd_7, Ladd_8, Ladd_10, Ladd_12, Ladd_14, Ladd_20, Ladd_23, Ladd_24, Ladd_110, Ladd_200, Ladd_230, Ladd_290, Ladd_294, Ladd_298, Ladd_498, Ladd_1128, Ladd_1248, Ladd_1278, Ladd_1764, Rad_0, Rad_1, Rad_2, Rad_3, Rad_4, Rad_5, Rad_6, Rad_7, Rad_8, Rad_10, Rad_12, Rad_14, Rad_20, Rad_23, Rad_24, Rad_110, Rad_200, Rad_230, Rad_290, Rad_294, Rad_298, Rad_498, Rad_1128, Rad_1248, Rad_1278, Rad_1764, Mul_2, Mul_3, Mul_4, Mul_5, Mul_6, Mul_7, Mul_10, Mul_20, Mul_23, Mul_24, Mul_142]
        exact stepI (b6 j (by omega)) h
      · simp only [bS, i10, i00, ↓reduceIte]
        exact stf1 h
  · simp only [bS, i10, i00, ↓reduceIte]
    exact stf1 h
theorem st_write {C R : eMem} (h : Rel C R) (x1 x2 x3 : Int32) : Step (F_X9_write x1 x2 x3 C) (F_X10_write x1 x2 x3 R) := by
  unfold F_X9_write F_X10_write
  rw [isSheet_eq]
  simp only [btw]
  rcases rng x1 4 3 4 rfl rfl with ⟨k, hk, rfl, f1, f2⟩ | ⟨f1, f2⟩ <;> rw [f1, f2]
  · simp only [bS, i10, ↓reduceIte]
    obtain ⟨b4, b5, b3, ⟨n, hn, h5⟩, b6, b8⟩ := h.2.2.2.1 k hk
    unfold F_X4_isMissing
    rw [eIn_s hk (by omega), cl (show k < 2147483648 by omega), b4, b5, h5]
    simp only [eG_tt]
    by_cases h4 : R.1 4 k = 0
    · rw [if_pos h4, if_pos h4]; simp only [bS, i10, i00, ↓reduceIte]; exact stf6 h
    · rw [if_neg h4, if_neg h4]
      simp only [bS, ↓reduceIte]
      rcases rngN x2 (nI n) n rfl (by omega) with ⟨j, hj, rfl, e1, e2⟩ | ⟨e1, e2⟩ <;> rw [e1, e2]
      · simp only [bS, i10, ↓reduceIte]
        rcases in01 x3 (-9999) 9999 with ⟨q, -⟩ | q <;> rw [q]
        · simp only [bS, i10, ↓reduceIte]
          simp (disch := omega) only [eIn_s, eG_tt, cl, nI_add, bS, Ladd_0, Ladd_1, Ladd_2, Ladd_3, Ladd_4, Ladd_5, Ladd_6, Ladd_7, Ladd_8, Ladd_10, Ladd_12, Ladd_14, Ladd_20, Ladd_23, Ladd_24, Ladd_110, Ladd_200, Ladd_230, Ladd_290, Ladd_294, Ladd_298, Ladd_498, Ladd_1128, Ladd_1248, Ladd_1278, Ladd_1764, Rad_0, Rad_1, Rad_2, Rad_3, Rad_4, Rad_5, Rad_6, Rad_7, Rad_8, Rad_10, Rad_12, Rad_14, Rad_20, Rad_23, Rad_24, Rad_110, Rad_200, Rad_230, Rad_290, Rad_294, Rad_298, Rad_498, Rad_1128, Rad_1248, Rad_1278, Rad_1764, Mul_2, Mul_3, Mul_4, Mul_5, Mul_6, Mul_7, Mul_10, Mul_20, Mul_23, Mul_24, Mul_142]
          have hgo : ∀ v : Int32, (R.1 4 k = 8 → ¬ v = 999) → Step (some ((1 : Int32), eI C (151 + k) j v)) (some ((1 : Int32), eI R 6 (20 * k + j) v)) := by
            intro v hv
            refine stepI rfl (h.sheet (fun p hp => by simp (disch := omega) only [eIq_ne, eIq_eq, upd_ne, upd_eq]) (fun p hp => by simp (disch := omega) only [eIq_ne, eIq_eq, upd_ne, upd_eq]) (fun g hg => ?_))
            obtain ⟨t4, t5, t3, t2, t6, t8⟩ := h.2.2.2.1 g hg
            by_cases e : g = k
            · subst e
              simp (disch := omega) only [eIq_ne, eIq_eq, upd_ne, upd_eq]
              refine ⟨t4, t5, t3, t2, fun i hi => ?_, fun q i hi => ?_⟩
              · rw [upd_at, upd_at, t6 i hi]
                by_cases e2 : i = j
                · rw [if_pos e2, if_pos (by omega)]
                · rw [if_neg e2, if_neg (by omega)]
              · rw [upd_at]
                by_cases e2 : i = j
                · rw [if_pos (by omega)]; exact hv q
                · rw [if_neg (by omega)]; exact t8 q i hi
            · simp (disch := omega) only [eIq_ne, eIq_eq, upd_ne, upd_eq]
              refine ⟨t4, t5, t3, t2, fun i hi => ?_, fun q i hi => ?_⟩
              · simp (disch := omega) only [eIq_ne, eIq_eq, upd_ne, upd_eq]; exact t6 i hi
              · simp (disch := omega) only [eIq_ne, eIq_eq, upd_ne, upd_eq]; exact t8 q i hi
          by_cases q8 : R.1 4 k = 8
          · rw [if_pos q8, if_pos q8]
            refine hgo _ (fun _ e => ?_)
            have l1 := x3.toInt8.toInt_lt
            have e2 : x3.toInt8.toInt32.toInt = (999 : Int32).toInt := by rw [e]
            rw [Int8.toInt_toInt32, show (999 : Int32).toInt = 999 from rfl] at e2
            omega
          · rw [if_neg q8, if_neg q8]
            exact hgo _ (fun q => absurd q q8)
        · simp only [bS, i10, i00, ↓reduceIte]
          exact stf1 h
      · simp only [bS, i10, i00, ↓reduceIte]
        exact stf1 h
  · simp only [bS, i10, i00, ↓reduceIte]
    exact stf1 h
theorem st_tear {C R : eMem} (h : Rel C R) : Step (F_X9_tear C) (F_X10_tear R) := by
  obtain ⟨h1, ⟨h2, h3⟩, h4, h5, h6, h7⟩ := id h
  have hR : Rel (eI C 0 2 0) (eI R 0 2 0) := by
    refine ⟨?_, ⟨by simp (disch := omega) only [eIq_ne, eIq_eq, upd_ne, upd_eq], ?_⟩, ?_, ?_, ?_, wZ_cg h7 ?_ ?_ ?_ ?_ ?_ ?_ ?_⟩
    · simp (disch := omega) only [eIq_ne, eIq_eq, upd_ne, upd_eq]
      refine h1.agr ?_ (fun j _ => rfl)
      simp (disch := omega) only [Agr, eIq_ne]
      simp
    · simp (disch := omega) only [eIq_ne, eIq_eq, upd_ne, upd_eq]
      exact Or.inl trivial
    · unfold rTape
      simp (disch := omega) only [eIq_ne, eIq_eq, upd_ne, upd_eq]
      exact h4
    · unfold rShe
      simp (disch := omega) only [eIq_ne, eIq_eq, upd_ne, upd_eq]
      exact h5
    · unfold rFin
      simp (disch := omega) only [eIq_ne, eIq_eq, upd_ne, upd_eq]
      exact h6
    all_goals (intro i _; simp (disch := omega) only [eIq_ne, eIq_eq, upd_ne, upd_eq])
  unfold F_X9_tear F_X10_tear
  rw [h2]
  by_cases q : R.1 0 2 = 0
  · rw [if_pos q, if_pos q]; exact stepI rfl hR
  · rw [if_neg q, if_neg q]; exact stepI rfl hR
