/-! carry, book, check, known -/
theorem or0 (v : Int32) : v ||| 0 = v := Int32.or_zero
theorem carry_loop {C R : eMem} (hW : RelW C.1 (R.1 1)) {k : Nat} (hk : k < nS (R.1 1)) : ∀ m j, j + m = nS (R.1 1) → ∀ f1 f2, m < f1 → m < f2 → ∀ (D : eMem) (v : Int32), scr C D → ∃ u C2, F_X8_carriersOf_4 f1 (nI k) v (nI j) D = some (u, C2) ∧ F_X10_carry_18 f2 (nI k) v (nI j) R = some (u, R) ∧ scr C C2 := by
  intro m
  induction m with
  | zero =>
    intro j hj f1 f2 h1 h2 D v hD
    obtain ⟨f1, rfl⟩ : ∃ x, f1 = x + 1 := ⟨f1 - 1, by omega⟩
    obtain ⟨f2, rfl⟩ : ∃ x, f2 = x + 1 := ⟨f2 - 1, by omega⟩
    obtain ⟨wSc, -, -, -, -, -, -, -, -, -, -, -, -, -, i1, -⟩ := hD.W hW
    obtain ⟨-, -, -, -, -, ⟨z9, y9⟩, -⟩ := id i1
    rw [F_X8_carriersOf_4, F_X10_carry_18, wSc.2.2.2.2.2.2.2.2.2.1, z9, if_neg (nI_nlt (by omega) (by omega)), if_neg (nI_nlt (by omega) (by omega))]
    exact ⟨v, D, rfl, rfl, hD⟩
  | succ m ih =>
    intro j hj f1 f2 h1 h2 D v hD
    obtain ⟨f1, rfl⟩ : ∃ x, f1 = x + 1 := ⟨f1 - 1, by omega⟩
    obtain ⟨f2, rfl⟩ : ∃ x, f2 = x + 1 := ⟨f2 - 1, by omega⟩
    have hW2 := hD.W hW
    obtain ⟨wSc, -, -, -, -, -, wSh, -, -, -, -, -, -, -, i1, -⟩ := id hW2
    obtain ⟨-, -, -, -, -, ⟨z9, y9⟩, -⟩ := id i1
    rw [F_X8_carriersOf_4, F_X10_carry_18, wSc.2.2.2.2.2.2.2.2.2.1, z9, if_pos (nI_lt (by omega) (by omega)), if_pos (nI_lt (by omega) (by omega)), or0, Rad_1, show_1 j R (by omega), show_1 k R (by omega), eIn_s (show j < 20 by omega) (by omega), eIn_s (show k < 20 by omega) (by omega), cl (show j < 2147483648 by omega), cl (show k < 2147483648 by omega), (wSh j (by omega)).2.1, (wSh k hk).2.1]
    simp only [eG_tt, bS]
    have hn := fun D v h => ih (j + 1) (by omega) f1 f2 (by omega) (by omega) D v h
    by_cases e : nI j = nI k
    · rw [if_pos e, if_pos e]; exact hn D v hD
    · rw [if_neg e, if_neg e]
      by_cases e2 : R.1 1 (299 + 10 * j) = R.1 1 (299 + 10 * k)
      · rw [if_pos e2, if_pos e2]
        obtain ⟨w, C2, hv, q1, q2, q3⟩ := shown_both hW2 (k := j) (by omega)
        rw [q1, q2]
        rcases hv with rfl | rfl
        · simp only [bS, ↓reduceIte]; exact hn C2 v (hD.tr q3)
        · simp only [bS, i10, ↓reduceIte]; exact hn C2 _ (hD.tr q3)
      · rw [if_neg e2, if_neg e2]; exact hn D v hD
theorem st_carry {C R : eMem} (h : Rel C R) (x1 : Int32) : Step (F_X9_carry x1 C) (F_X10_carry x1 R) := by
  obtain ⟨wSc, wGr, wRo, wUn, wPl, wHe, wSh, wRe, wFl, wLi, wBo, wTx, wTc, wz, i1, i2, i3, i4, i5, i6⟩ := id h.1; obtain ⟨c0, c1, c2, c3, c4, c5, c6, c7, c8, c9, c10, c11, c12, c13⟩ := id wSc; obtain ⟨⟨z0, y0⟩, ⟨f5, g5, y5, z5⟩, ⟨t6, y6, z6⟩, ⟨z7, y7⟩, ⟨z8, y8⟩, ⟨z9, y9⟩, ⟨z10, y10⟩, ⟨z11, y11⟩, ⟨z12, y12⟩, ⟨z13, y13⟩⟩ := id i1
  unfold F_X9_carry F_X10_carry
  rw [has_eq, isShow_eq, c9]
  rcases rngN x1 (R.1 1 9) _ z9 (by omega) with ⟨k, hk, rfl, e1, e2⟩ | ⟨e1, e2⟩ <;> rw [e1, e2]
  · simp only [bS, i10, ↓reduceIte]
    unfold F_X8_carriersOf
    obtain ⟨u, C2, q1, q2, q3⟩ := carry_loop h.1 hk (nS (R.1 1)) 0 (by omega) eFuel eFuel (by unfold eFuel; omega) (by unfold eFuel; omega) C 0 scr.rf
    rw [show nI 0 = 0 from rfl] at q1 q2
    rw [q1, q2]
    simp only [bS]
    exact stepS h q3 rfl
  · simp only [bS, i10, i00, ↓reduceIte]
    exact stf1 h
theorem closed_both {C R : eMem} (h : Rel C R) {a : Nat} (ha : a < 81) : (F_X8_isClosed (nI a) C = some 0 ∧ F_X10_isClosed (nI a) R = some 0) ∨ (F_X8_isClosed (nI a) C = some 1 ∧ F_X10_isClosed (nI a) R = some 1) := by
  obtain ⟨wSc, wGr, wRo, wUn, wPl, wHe, wSh, wRe, wFl, wLi, wBo, wTx, wTc, wz, i1, i2, i3, i4, i5, i6⟩ := id h.1; obtain ⟨c0, c1, c2, c3, c4, c5, c6, c7, c8, c9, c10, c11, c12, c13⟩ := id wSc; obtain ⟨⟨z0, y0⟩, ⟨f5, g5, y5, z5⟩, ⟨t6, y6, z6⟩, ⟨z7, y7⟩, ⟨z8, y8⟩, ⟨z9, y9⟩, ⟨z10, y10⟩, ⟨z11, y11⟩, ⟨z12, y12⟩, ⟨z13, y13⟩⟩ := id i1
  unfold F_X8_isClosed F_X10_isClosed
  rw [c0, z0, show (24 : Int32) = nI 24 from rfl, pk_div (by omega) (by omega) (by omega), Rad_1, nI_mul]
  by_cases q : a < hr (R.1 1) / 24
  · rw [if_pos (nI_lt q (by omega)), if_neg (nI_nlt (by omega) (by omega))]; exact Or.inr ⟨rfl, rfl⟩
  · rw [if_neg (nI_nlt (by omega) (by omega)), if_pos (nI_lt (by omega) (by omega))]; exact Or.inl ⟨rfl, rfl⟩
theorem st_book {C R : eMem} (h : Rel C R) (x1 x2 : Int32) : Step (F_X9_book x1 x2 C) (F_X10_book x1 x2 R) := by
  obtain ⟨wSc, wGr, wRo, wUn, wPl, wHe, wSh, wRe, wFl, wLi, wBo, wTx, wTc, wz, i1, i2, i3, i4, i5, i6⟩ := id h.1; obtain ⟨c0, c1, c2, c3, c4, c5, c6, c7, c8, c9, c10, c11, c12, c13⟩ := id wSc; obtain ⟨⟨z0, y0⟩, ⟨f5, g5, y5, z5⟩, ⟨t6, y6, z6⟩, ⟨z7, y7⟩, ⟨z8, y8⟩, ⟨z9, y9⟩, ⟨z10, y10⟩, ⟨z11, y11⟩, ⟨z12, y12⟩, ⟨z13, y13⟩⟩ := id i1
  unfold F_X9_book F_X10_book
  rcases rng x2 6 5 6 rfl rfl with ⟨b, hb, rfl, f1, f2⟩ | ⟨f1, f2⟩ <;> rw [f1, f2]
  · rcases rng x1 81 80 81 rfl rfl with ⟨a, ha, rfl, e1, e2⟩ | ⟨e1, e2⟩ <;> rw [e1, e2]
    · simp only [bS, i10, ↓reduceIte]
      rcases closed_both h ha with ⟨q1, q2⟩ | ⟨q1, q2⟩ <;> rw [q1, q2]
      · simp only [bS, i10, i00, ↓reduceIte]; exact stf4 h
      · simp only [bS, i10, ↓reduceIte]
        simp (disch := omega) only [eIn_s, eG_tt, cl, nI_add, bS, Ladd_0, Ladd_1, Ladd_2, Ladd_3, Ladd_4, Ladd_5, Ladd_6, Ladd_7, Ladd_8, Ladd_10, Ladd_12, Ladd_14, Ladd_20, Ladd_23, Ladd_24, Ladd_110, Ladd_200, Ladd_230, Ladd_290, Ladd_294, Ladd_298, Ladd_498, Ladd_1128, Ladd_1248, Ladd_1278, Ladd_1764, Rad_0, Rad_1, Rad_2, Rad_3, Rad_4, Rad_5, Rad_6, Rad_7, Rad_8, Rad_10, Rad_12, Rad_14, Rad_20, Rad_23, Rad_24, Rad_110, Rad_200, Rad_230, Rad_290, Rad_294, Rad_298, Rad_498, Rad_1128, Rad_1248, Rad_1278, Rad_1764, Mul_2, Mul_3, Mul_4, Mul_5, Mul_6, Mul_7, Mul_10, Mul_20, Mul_23, Mul_24, Mul_142]
        rw [show 1278 + 6 * a + b = 1278 + (6 * a + b) by omega]
        exact stepI (wBo (6 * a + b) (by omega)) h
    · simp only [bS, i10, i00, ↓reduceIte]
      exact stf1 h
  · rcases rng x1 81 80 81 rfl rfl with ⟨a, ha, rfl, e1, e2⟩ | ⟨e1, e2⟩ <;> rw [e2]
    · simp only [bS, i10, i00, ↓reduceIte]; exact stf1 h
    · simp only [bS, i10, i00, ↓reduceIte]; exact stf1 h
theorem check_loop {C R : eMem} (h : Rel C R) {a k : Nat} (ha : a < 81) (hk : k < 4) (h4 : ¬ R.1 4 k = 0) : ∀ m j, j + m = 6 → ∀ f1 f2, m < f1 → m < f2 → ∃ v, F_X9_check_83 f1 (nI a) (nI k) (nI j) C = some (v, C) ∧ F_X10_check_73 f2 (nI a) (nI k) (nI j) R = some (v, R) := by
  obtain ⟨b4, b5, b3, -, b6, b8⟩ := h.2.2.2.1 k hk
  have wBo := h.1.2.2.2.2.2.2.2.2.2.2.1
  intro m
  induction m with
  | zero =>
    intro j hj f1 f2 h1 h2
    obtain ⟨f1, rfl⟩ : ∃ x, f1 = x + 1 := ⟨f1 - 1, by omega⟩
    obtain ⟨f2, rfl⟩ : ∃ x, f2 = x + 1 := ⟨f2 - 1, by omega⟩
    have e : j = 6 := by omega
    subst e
    rw [F_X9_check_83, F_X10_check_73, if_neg (by decide), if_neg (by decide)]
    exact ⟨6, rfl, rfl⟩
  | succ m ih =>
    intro j hj f1 f2 h1 h2
    obtain ⟨f1, rfl⟩ : ∃ x, f1 = x + 1 := ⟨f1 - 1, by omega⟩
    obtain ⟨f2, rfl⟩ : ∃ x, f2 = x + 1 := ⟨f2 - 1, by omega⟩
    have hl : nI j < 6 := (lt_lit (n := 6) rfl (by omega)).mpr (by omega)
    have hn := ih (j + 1) (by omega) f1 f2 (by omega) (by omega)
    rw [F_X9_check_83, F_X10_check_73, if_pos hl, if_pos hl]
    unfold F_X10_isCloud
    simp (disch := omega) only [eIn_s, eG_tt, cl, nI_add, bS, Ladd_0, Ladd_1, Ladd_2, Ladd_3, Ladd_4, Ladd_5, Ladd_6, Ladd_7, Ladd_8, Ladd_10, Ladd_12, Ladd_14, Ladd_20, Ladd_23, Ladd_24, Ladd_110, Ladd_200, Ladd_230, Ladd_290, Ladd_294, Ladd_298, Ladd_498, Ladd_1128, Ladd_1248, Ladd_1278, Ladd_1764, Rad_0, Rad_1, Rad_2, Rad_3, Rad_4, Rad_5, Rad_6, Rad_7, Rad_8, Rad_10, Rad_12, Rad_14, Rad_20, Rad_23, Rad_24, Rad_110, Rad_200, Rad_230, Rad_290, Rad_294, Rad_298, Rad_498, Rad_1128, Rad_1248, Rad_1278, Rad_1764, Mul_2, Mul_3, Mul_4, Mul_5, Mul_6, Mul_7, Mul_10, Mul_20, Mul_23, Mul_24, Mul_142]
    rw [b6 j (by omega), show 1278 + 6 * a + j = 1278 + (6 * a + j) by omega, wBo (6 * a + j) (by omega)]
    have hgo : ∀ X Y : Option (Int32 × eMem), (∃ v, X = some (v, C) ∧ Y = some (v, R)) → ∃ v, (if R.1 6 (20 * k + j) = R.1 1 (1278 + (6 * a + j)) then X else some (nI j, C)) = some (v, C) ∧ (if R.1 6 (20 * k + j) = R.1 1 (1278 + (6 * a + j)) then Y else some (nI j, R)) = some (v, R) := by
      intro X Y hXY
      by_cases q : R.1 6 (20 * k + j) = R.1 1 (1278 + (6 * a + j))
      · rw [if_pos q, if_pos q]; exact hXY
      · rw [if_neg q, if_neg q]; exact ⟨nI j, rfl, rfl⟩
    by_cases q9 : R.1 6 (20 * k + j) = 999
    · have h32 : R.1 4 k = 32 := by
        rcases b3 with b3 | b3 | b3
        · exact absurd b3 h4
        · exact absurd q9 (b8 b3 j (by omega))
        · exact b3
      rw [if_pos q9, if_pos h32, if_pos q9]
      simp only [bS, i10, ↓reduceIte]
      exact hn
    · rw [if_neg q9, if_neg q9, ite_self]
      simp only [bS, ↓reduceIte]
      exact hgo _ _ hn
theorem st_check {C R : eMem} (h : Rel C R) (x1 x2 : Int32) : Step (F_X9_check x1 x2 C) (F_X10_check x1 x2 R) := by
  unfold F_X9_check F_X10_check
  rw [isSheet_eq]
  rcases rng x1 81 80 81 rfl rfl with ⟨a, ha, rfl, e1, e2⟩ | ⟨e1, e2⟩ <;> rw [e1, e2]
  · rcases rng x2 4 3 4 rfl rfl with ⟨k, hk, rfl, f1, f2⟩ | ⟨f1, f2⟩ <;> rw [f1, f2]
    · simp only [bS, i10, ↓reduceIte]
      rcases closed_both h ha with ⟨q1, q2⟩ | ⟨q1, q2⟩ <;> rw [q1, q2]
      · simp only [bS, i10, i00, ↓reduceIte]; exact stf4 h
      · simp only [bS, i10, ↓reduceIte]
        obtain ⟨b4, b5, b3, ⟨n, hn, h5⟩, b6, b8⟩ := h.2.2.2.1 k hk
        unfold F_X4_isMissing
        rw [eIn_s hk (by omega), cl (show k < 2147483648 by omega), b4, b5, h5]
        simp only [eG_tt]
        by_cases h4 : R.1 4 k = 0
        · rw [if_pos h4, if_pos h4]; simp only [bS, i10, i00, ↓reduceIte]; exact stf6 h
        · rw [if_neg h4, if_neg h4]
          simp only [bS, ↓reduceIte]
          by_cases h6 : nI n = 6
          · rw [if_pos h6, if_pos h6]
            obtain ⟨v, q1, q2⟩ := check_loop h ha hk h4 6 0 rfl eFuel eFuel (by unfold eFuel; omega) (by unfold eFuel; omega)
            rw [show nI 0 = 0 from rfl] at q1 q2
            rw [q1, q2]
            exact stepI rfl h
          · rw [if_neg h6, if_neg h6]; exact stf7 h
    · simp only [bS, i10, i00, ↓reduceIte]
      exact stf1 h
  · simp only [bS, i10, i00, ↓reduceIte]
    exact stf1 h
