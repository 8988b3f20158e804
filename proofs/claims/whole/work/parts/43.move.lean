/-! who keeps a unit still; moving -/
theorem quiet_end (R : eMem) (x : Int32) {n : Nat} (h9 : R.1 1 9 = nI n) (hn : n ≤ 20) : ∀ m j, j + m = n → ∀ f, m < f → F_X10_isQuiet_4 f R x 1 (nI j) = some 1 := by
  intro m
  induction m with
  | zero =>
    intro j hj f hf
    obtain ⟨f, rfl⟩ : ∃ x, f = x + 1 := ⟨f - 1, by omega⟩
    rw [F_X10_isQuiet_4, h9, if_neg (nI_nlt (by omega) (by omega))]
    rfl
  | succ m ih =>
    intro j hj f hf
    obtain ⟨f, rfl⟩ : ∃ x, f = x + 1 := ⟨f - 1, by omega⟩
    rw [F_X10_isQuiet_4, h9, if_pos (nI_lt (by omega) (by omega)), if_neg (by decide)]
    unfold F_X10_isQuiet_48
    simp (disch := omega) only [eIn_s, eG_tt, cl, nI_add, bS, Ladd_0, Ladd_1, Ladd_2, Ladd_3, Ladd_4, Ladd_5, Ladd_6, Ladd_7, Ladd_8, Ladd_10, Ladd_12, Ladd_14, Ladd_20, Ladd_23, Ladd_24, Ladd_110, Ladd_200, Ladd_230, Ladd_290, Ladd_294, Ladd_298, Ladd_498, Ladd_1128, Ladd_1248, Ladd_1278, Ladd_1764, Rad_0, Rad_1, Rad_2, Rad_3, Rad_4, Rad_5, Rad_6, Rad_7, Rad_8, Rad_10, Rad_12, Rad_14, Rad_20, Rad_23, Rad_24, Rad_110, Rad_200, Rad_230, Rad_290, Rad_294, Rad_298, Rad_498, Rad_1128, Rad_1248, Rad_1278, Rad_1764, Mul_2, Mul_3, Mul_4, Mul_5, Mul_6, Mul_7, Mul_10, Mul_20, Mul_23, Mul_24, Mul_142]
    exact ih (j + 1) (by omega) f (by omega)
theorem quiet_both {C R : eMem} (hW : RelW C.1 (R.1 1)) (x : Int32) : ∀ m j, j + m = nS (R.1 1) → ∀ f1 f2, m < f1 → m < f2 → ∀ D, scr C D → ∃ v C2, (v = 0 ∨ v = 1) ∧ F_X8_isQuiet_2 f1 x (nI j) D = some (v, C2) ∧ F_X10_isQuiet_4 f2 R x 0 (nI j) = some v ∧ scr C C2 := by
  intro m
  induction m with
  | zero =>
    intro j hj f1 f2 h1 h2 D hD
    obtain ⟨f1, rfl⟩ : ∃ x, f1 = x + 1 := ⟨f1 - 1, by omega⟩
    obtain ⟨f2, rfl⟩ : ∃ x, f2 = x + 1 := ⟨f2 - 1, by omega⟩
    obtain ⟨wSc, -, -, -, -, -, -, -, -, -, -, -, -, -, i1, -⟩ := hD.W hW
    obtain ⟨-, -, -, -, -, ⟨z9, y9⟩, -⟩ := id i1
    rw [F_X10_isQuiet_4, F_X8_isQuiet_2, wSc.2.2.2.2.2.2.2.2.2.1, z9, if_neg (nI_nlt (by omega) (by omega)), if_neg (nI_nlt (by omega) (by omega))]
    exact ⟨0, D, Or.inl rfl, rfl, rfl, hD⟩
  | succ m ih =>
    intro j hj f1 f2 h1 h2 D hD
    obtain ⟨f1, rfl⟩ : ∃ x, f1 = x + 1 := ⟨f1 - 1, by omega⟩
    obtain ⟨f2, rfl⟩ : ∃ x, f2 = x + 1 := ⟨f2 - 1, by omega⟩
    have hW2 := hD.W hW
    obtain ⟨wSc, -, -, -, -, -, wSh, -, -, -, -, -, -, -, i1, -⟩ := id hW2
    obtain ⟨-, -, -, -, -, ⟨z9, y9⟩, -⟩ := id i1
    obtain ⟨s0, -, -, s3, -⟩ := wSh j (by omega)
    rw [F_X10_isQuiet_4, F_X8_isQuiet_2, wSc.2.2.2.2.2.2.2.2.2.1, z9, if_pos (nI_lt (by omega) (by omega)), if_pos (nI_lt (by omega) (by omega)), if_pos rfl, show_0 j R (by omega), show_3 j R (by omega)]
    simp (disch := omega) only [eIn_s, eG_tt, cl, nI_add, bS, Ladd_0, Ladd_1, Ladd_2, Ladd_3, Ladd_4, Ladd_5, Ladd_6, Ladd_7, Ladd_8, Ladd_10, Ladd_12, Ladd_14, Ladd_20, Ladd_23, Ladd_24, Ladd_110, Ladd_200, Ladd_230, Ladd_290, Ladd_294, Ladd_298, Ladd_498, Ladd_1128, Ladd_1248, Ladd_1278, Ladd_1764, Rad_0, Rad_1, Rad_2, Rad_3, Rad_4, Rad_5, Rad_6, Rad_7, Rad_8, Rad_10, Rad_12, Rad_14, Rad_20, Rad_23, Rad_24, Rad_110, Rad_200, Rad_230, Rad_290, Rad_294, Rad_298, Rad_498, Rad_1128, Rad_1248, Rad_1278, Rad_1764, Mul_2, Mul_3, Mul_4, Mul_5, Mul_6, Mul_7, Mul_10, Mul_20, Mul_23, Mul_24, Mul_142]
    rw [s0, s3]
    have hn := ih (j + 1) (by omega) f1 f2 (by omega) (by omega)
    by_cases e0 : R.1 1 (298 + 10 * j) = 6
    · rw [if_pos e0, if_pos e0]
      by_cases e3 : R.1 1 (301 + 10 * j) = x
      · rw [if_pos e3, if_pos e3]
        obtain ⟨v, C2, hv, q1, q2, q3⟩ := shown_both hW2 (k := j) (by omega)
        rw [q1, q2]
        rcases hv with rfl | rfl <;> simp only [bS, i10, i00, ↓reduceIte]
        · exact hn C2 (hD.tr q3)
        · unfold F_X10_isQuiet_48
          simp (disch := omega) only [eIn_s, eG_tt, cl, nI_add, bS, Ladd_0, Ladd_1, Ladd_2, Ladd_3, Ladd_4, Ladd_5, Ladd_6, Ladd_7, Ladd_8, Ladd_10, Ladd_12, Ladd_14, Ladd_20, Ladd_23, Ladd_24, Ladd_110, Ladd_200, Ladd_230, Ladd_290, Ladd_294, Ladd_298, Ladd_498, Ladd_1128, Ladd_1248, Ladd_1278, Ladd_1764, Rad_0, Rad_1, Rad_2, Rad_3, Rad_4, Rad_5, Rad_6, Rad_7, Rad_8, Rad_10, Rad_12, Rad_14, Rad_20, Rad_23, Rad_24, Rad_110, Rad_200, Rad_230, Rad_290, Rad_294, Rad_298, Rad_498, Rad_1128, Rad_1248, Rad_1278, Rad_1764, Mul_2, Mul_3, Mul_4, Mul_5, Mul_6, Mul_7, Mul_10, Mul_20, Mul_23, Mul_24, Mul_142]
          rw [quiet_end R x z9 y9 m (j + 1) (by omega) f2 (by omega)]
          exact ⟨1, C2, Or.inr rfl, rfl, rfl, hD.tr q3⟩
      · rw [if_neg e3, if_neg e3]; exact hn D hD
    · rw [if_neg e0, if_neg e0]; exact hn D hD
theorem quiet_st {C R : eMem} (hW : RelW C.1 (R.1 1)) (x : Int32) : ∃ v C2, (v = 0 ∨ v = 1) ∧ F_X8_isQuiet x C = some (v, C2) ∧ F_X10_isQuiet x R = some v ∧ scr C C2 := by
  have y9 : nS (R.1 1) ≤ 20 := hW.2.2.2.2.2.2.2.2.2.2.2.2.2.2.1.2.2.2.2.2.1.2
  have hq := quiet_both hW x (nS (R.1 1)) 0 (by omega) eFuel eFuel (by unfold eFuel; omega) (by unfold eFuel; omega) C scr.rf
  rw [show nI 0 = 0 from rfl] at hq
  unfold F_X8_isQuiet F_X10_isQuiet
  exact hq
theorem leads_both {C R : eMem} (hW : RelW C.1 (R.1 1)) {k r : Nat} (hk : k < nU (R.1 1)) (hr : r < nR (R.1 1)) : (F_X0_leadsFrom (nI r) (C.1 7 k) C = some 0 ∧ F_X10_leads (nI k) (nI r) R = some 0) ∨ (F_X0_leadsFrom (nI r) (C.1 7 k) C = some 1 ∧ F_X10_leads (nI k) (nI r) R = some 1) := by
  obtain ⟨-, -, wRo, wUn, -, -, -, -, -, -, -, -, -, -, i1, -⟩ := id hW
  obtain ⟨-, -, -, ⟨z7, y7⟩, ⟨z8, y8⟩, -⟩ := id i1
  obtain ⟨u0, -⟩ := wUn k hk
  obtain ⟨r0, r1, -⟩ := wRo r hr
  unfold F_X0_leadsFrom F_X10_leads F_X0_leadsFrom_20 F_X10_leads_39
  simp only [uat_0, roa_0, roa_1]
  simp (disch := omega) only [eIn_s, eG_tt, cl, nI_add, bS, Ladd_0, Ladd_1, Ladd_2, Ladd_3, Ladd_4, Ladd_5, Ladd_6, Ladd_7, Ladd_8, Ladd_10, Ladd_12, Ladd_14, Ladd_20, Ladd_23, Ladd_24, Ladd_110, Ladd_200, Ladd_230, Ladd_290, Ladd_294, Ladd_298, Ladd_498, Ladd_1128, Ladd_1248, Ladd_1278, Ladd_1764, Rad_0, Rad_1, Rad_2, Rad_3, Rad_4, Rad_5, Rad_6, Rad_7, Rad_8, Rad_10, Rad_12, Rad_14, Rad_20, Rad_23, Rad_24, Rad_110, Rad_200, Rad_230, Rad_290, Rad_294, Rad_298, Rad_498, Rad_1128, Rad_1248, Rad_1278, Rad_1764, Mul_2, Mul_3, Mul_4, Mul_5, Mul_6, Mul_7, Mul_10, Mul_20, Mul_23, Mul_24, Mul_142]
  rw [u0, r0, r1]
  by_cases e : R.1 1 (110 + 3 * r) = R.1 1 (230 + 5 * k)
  · simp [e]
  · by_cases e2 : R.1 1 (111 + 3 * r) = R.1 1 (230 + 5 * k) <;> simp [e, e2]
/-- is a unit on a road? -/
theorem onroad_both {C R : eMem} (hW : RelW C.1 (R.1 1)) {k : Nat} (hk : k < nU (R.1 1)) : (F_X0_isOnRoad (nI k) C = some 0 ∧ R.1 1 (232 + 5 * k) < 0) ∨ (F_X0_isOnRoad (nI k) C = some 1 ∧ ¬ R.1 1 (232 + 5 * k) < 0) := by
  obtain ⟨-, -, wRo, wUn, -, -, -, -, -, -, -, -, -, -, i1, -, i3, -⟩ := id hW
  obtain ⟨-, -, -, ⟨z7, y7⟩, ⟨z8, y8⟩, -⟩ := id i1
  obtain ⟨-, -, u2, -⟩ := wUn k hk
  unfold F_X0_isOnRoad
  simp (disch := omega) only [eIn_s, eG_tt, cl, nI_add, bS, Ladd_0, Ladd_1, Ladd_2, Ladd_3, Ladd_4, Ladd_5, Ladd_6, Ladd_7, Ladd_8, Ladd_10, Ladd_12, Ladd_14, Ladd_20, Ladd_23, Ladd_24, Ladd_110, Ladd_200, Ladd_230, Ladd_290, Ladd_294, Ladd_298, Ladd_498, Ladd_1128, Ladd_1248, Ladd_1278, Ladd_1764, Rad_0, Rad_1, Rad_2, Rad_3, Rad_4, Rad_5, Rad_6, Rad_7, Rad_8, Rad_10, Rad_12, Rad_14, Rad_20, Rad_23, Rad_24, Rad_110, Rad_200, Rad_230, Rad_290, Rad_294, Rad_298, Rad_498, Rad_1128, Rad_1248, Rad_1278, Rad_1764, Mul_2, Mul_3, Mul_4, Mul_5, Mul_6, Mul_7, Mul_10, Mul_20, Mul_23, Mul_24, Mul_142]
  rw [u2]
  rcases i3 k hk with q | ⟨r, g, q1, q2, q3, q4, q5, q6⟩
  · rw [q, if_pos rfl]; exact Or.inl ⟨rfl, by decide⟩
  · have hp : ¬ nI r < 0 := nI_pos (by omega)
    rw [q4, if_neg (fun e => by rw [e] at hp; exact hp (by decide))]; exact Or.inr ⟨rfl, hp⟩
theorem st_where {C R : eMem} (h : Rel C R) (x1 x2 : Int32) : Step (F_X9_where x1 x2 C) (F_X10_where x1 x2 R) := by
  obtain ⟨wSc, wGr, wRo, wUn, wPl, wHe, wSh, wRe, wFl, wLi, wBo, wTx, wTc, wz, i1, i2, i3, i4, i5, i6⟩ := id h.1; obtain ⟨c0, c1, c2, c3, c4, c5, c6, c7, c8, c9, c10, c11, c12, c13⟩ := id wSc; obtain ⟨⟨z0, y0⟩, ⟨f5, g5, y5, z5⟩, ⟨t6, y6, z6⟩, ⟨z7, y7⟩, ⟨z8, y8⟩, ⟨z9, y9⟩, ⟨z10, y10⟩, ⟨z11, y11⟩, ⟨z12, y12⟩, ⟨z13, y13⟩⟩ := id i1
  unfold F_X9_where F_X10_where
  rw [isUnit_eq, c8]
  rcases rngN x1 (R.1 1 8) _ z8 (by omega) with ⟨k, hk, rfl, e1, e2⟩ | ⟨e1, e2⟩ <;> rw [e1, e2] <;> simp only [bS, i10, i00, ↓reduceIte]
  · obtain ⟨u0, u1, u2, u3⟩ := wUn k hk
    rcases rng x2 4 3 4 rfl rfl with ⟨g, hg, rfl, f1, f2⟩ | ⟨f1, f2⟩
    · rw [f2]
      simp only [bS, i10, i00, ↓reduceIte]
      rcases (show g = 0 ∨ g = 1 ∨ g = 2 ∨ g = 3 by omega) with rfl | rfl | rfl | rfl
      · rw [if_pos (by decide), if_neg (by decide), show nI 0 = 0 from rfl, uat_0]; simp (disch := omega) only [eIn_s, eG_tt, cl, nI_add, bS, Ladd_0, Ladd_1, Ladd_2, Ladd_3, Ladd_4, Ladd_5, Ladd_6, Ladd_7, Ladd_8, Ladd_10, Ladd_12, Ladd_14, Ladd_20, Ladd_23, Ladd_24, Ladd_110, Ladd_200, Ladd_230, Ladd_290, Ladd_294, Ladd_298, Ladd_498, Ladd_1128, Ladd_1248, Ladd_1278, Ladd_1764, Rad_0, Rad_1, Rad_2, Rad_3, Rad_4, Rad_5, Rad_6, Rad_7, Rad_8, Rad_10, Rad_12, Rad_14, Rad_20, Rad_23, Rad_24, Rad_110, Rad_200, Rad_230, Rad_290, Rad_294, Rad_298, Rad_498, Rad_1128, Rad_1248, Rad_1278, Rad_1764, Mul_2, Mul_3, Mul_4, Mul_5, Mul_6, Mul_7, Mul_10, Mul_20, Mul_23, Mul_24, Mul_142]; exact stepI u0 h
      · rw [if_neg (by decide), if_pos (by decide), if_neg (by decide), show nI 1 = 1 from rfl, uat_1]; simp (disch := omega) only [eIn_s, eG_tt, cl, nI_add, bS, Ladd_0, Ladd_1, Ladd_2, Ladd_3, Ladd_4, Ladd_5, Ladd_6, Ladd_7, Ladd_8, Ladd_10, Ladd_12, Ladd_14, Ladd_20, Ladd_23, Ladd_24, Ladd_110, Ladd_200, Ladd_230, Ladd_290, Ladd_294, Ladd_298, Ladd_498, Ladd_1128, Ladd_1248, Ladd_1278, Ladd_1764, Rad_0, Rad_1, Rad_2, Rad_3, Rad_4, Rad_5, Rad_6, Rad_7, Rad_8, Rad_10, Rad_12, Rad_14, Rad_20, Rad_23, Rad_24, Rad_110, Rad_200, Rad_230, Rad_290, Rad_294, Rad_298, Rad_498, Rad_1128, Rad_1248, Rad_1278, Rad_1764, Mul_2, Mul_3, Mul_4, Mul_5, Mul_6, Mul_7, Mul_10, Mul_20, Mul_23, Mul_24, Mul_142]; exact stepI u1 h
      · rw [if_neg (by decide), if_neg (by decide), if_pos (by decide), if_neg (by decide), show nI 2 = 2 from rfl, uat_2]; simp (disch := omega) only [eIn_s, eG_tt, cl, nI_add, bS, Ladd_0, Ladd_1, Ladd_2, Ladd_3, Ladd_4, Ladd_5, Ladd_6, Ladd_7, Ladd_8, Ladd_10, Ladd_12, Ladd_14, Ladd_20, Ladd_23, Ladd_24, Ladd_110, Ladd_200, Ladd_230, Ladd_290, Ladd_294, Ladd_298, Ladd_498, Ladd_1128, Ladd_1248, Ladd_1278, Ladd_1764, Rad_0, Rad_1, Rad_2, Rad_3, Rad_4, Rad_5, Rad_6, Rad_7, Rad_8, Rad_10, Rad_12, Rad_14, Rad_20, Rad_23, Rad_24, Rad_110, Rad_200, Rad_230, Rad_290, Rad_294, Rad_298, Rad_498, Rad_1128, Rad_1248, Rad_1278, Rad_1764, Mul_2, Mul_3, Mul_4, Mul_5, Mul_6, Mul_7, Mul_10, Mul_20, Mul_23, Mul_24, Mul_142]; exact stepI u2 h
      · rw [if_neg (by decide), if_neg (by decide), if_neg (by decide), if_pos (by decide), if_pos (by decide), uat_4]; simp (disch := omega) only [eIn_s, eG_tt, cl, nI_add, bS, Ladd_0, Ladd_1, Ladd_2, Ladd_3, Ladd_4, Ladd_5, Ladd_6, Ladd_7, Ladd_8, Ladd_10, Ladd_12, Ladd_14, Ladd_20, Ladd_23, Ladd_24, Ladd_110, Ladd_200, Ladd_230, Ladd_290, Ladd_294, Ladd_298, Ladd_498, Ladd_1128, Ladd_1248, Ladd_1278, Ladd_1764, Rad_0, Rad_1, Rad_2, Rad_3, Rad_4, Rad_5, Rad_6, Rad_7, Rad_8, Rad_10, Rad_12, Rad_14, Rad_20, Rad_23, Rad_24, Rad_110, Rad_200, Rad_230, Rad_290, Rad_294, Rad_298, Rad_498, Rad_1128, Rad_1248, Rad_1278, Rad_1764, Mul_2, Mul_3, Mul_4, Mul_5, Mul_6, Mul_7, Mul_10, Mul_20, Mul_23, Mul_24, Mul_142]; exact stepI u3 h
    · rw [f2]
      simp only [bS, i10, i00, ↓reduceIte]
      have hx : ∀ g : Nat, g < 4 → ¬ x2 = nI g := fun g hg e => by rw [e, isIn_y (n := 4) rfl hg] at f1; cases f1
      rw [if_neg (show ¬ x2 = 0 from hx 0 (by decide)), if_neg (show ¬ x2 = 1 from hx 1 (by decide)), if_neg (show ¬ x2 = 2 from hx 2 (by decide)), if_neg (show ¬ x2 = 3 from hx 3 (by decide))]
      exact stf1 h
  · exact stf1 h
theorem move_go {C R : eMem} (h : Rel C R) {k r : Nat} {w : Int32} (hk : k < nU (R.1 1)) (hr : r < nR (R.1 1)) (hw : w = (if R.1 1 (110 + 3 * r) = R.1 1 (230 + 5 * k) then R.1 1 (111 + 3 * r) else R.1 1 (110 + 3 * r))) :
    Step (some (C.1 2 11 + C.1 6 r, eI (eI C 9 k (nI r)) 10 k (C.1 6 r)))
                (some ((eI (eI (eI R 1 (232 + 5 * k) (nI r)) 1 (233 + 5 * k) w) 1 (234 + 5 * k) ((eI (eI R 1 (232 + 5 * k) (nI r)) 1 (233 + 5 * k) w).1 1 (112 + 3 * r))).1 1 0 + (eI (eI (eI R 1 (232 + 5 * k) (nI r)) 1 (233 + 5 * k) w) 1 (234 + 5 * k) ((eI (eI R 1 (232 + 5 * k) (nI r)) 1 (233 + 5 * k) w).1 1 (112 + 3 * r))).1 1 (112 + 3 * r), eI (eI (eI R 1 (232 + 5 * k) (nI r)) 1 (233 + 5 * k) w) 1 (234 + 5 * k) ((eI (eI R 1 (232 + 5 * k) (nI r)) 1 (233 + 5 * k) w).1 1 (112 + 3 * r)))) := by
  obtain ⟨wSc, wGr, wRo, wUn, wPl, wHe, wSh, wRe, wFl, wLi, wBo, wTx, wTc, wz, i1, i2, i3, i4, i5, i6⟩ := id h.1; obtain ⟨c0, c1, c2, c3, c4, c5, c6, c7, c8, c9, c10, c11, c12, c13⟩ := id wSc; obtain ⟨⟨z0, y0⟩, ⟨f5, g5, y5, z5⟩, ⟨t6, y6, z6⟩, ⟨z7, y7⟩, ⟨z8, y8⟩, ⟨z9, y9⟩, ⟨z10, y10⟩, ⟨z11, y11⟩, ⟨z12, y12⟩, ⟨z13, y13⟩⟩ := id i1
  obtain ⟨u0, u1, u2, u3⟩ := wUn k hk
  obtain ⟨r0, r1, r2⟩ := wRo r hr
  obtain ⟨t, t1, t2, t3⟩ := i2 r hr
  simp (disch := omega) only [eIq_ne, eIq_eq, upd_ne, upd_eq]
  refine stepI (by rw [c0, r2]) ?_
  refine h.now (by simp (disch := omega) only [eIq_ne, eIq_eq, upd_ne, upd_eq]) (fun p hp => by simp (disch := omega) only [eIq_ne, eIq_eq, upd_ne, upd_eq]) (by simp (disch := omega) only [eIq_ne, eIq_eq, upd_ne, upd_eq]) (by simp (disch := omega) only [eIq_ne, eIq_eq, upd_ne, upd_eq]) (fun p p1 p2 => by simp (disch := omega) only [eIq_ne, eIq_eq, upd_ne, upd_eq]) (h.1.un (fun p p1 p2 p3 p4 p5 => by simp (disch := omega) only [eIq_ne, eIq_eq, upd_ne, upd_eq]) (fun j h1 h2 => by simp (disch := omega) only [eIq_ne, eIq_eq, upd_ne, upd_eq]) (by refine ⟨?_, ?_, ?_, ?_, ?_, ?_, ?_, ?_, ?_, ?_, ?_, ?_, ?_, ?_⟩ <;> simp (disch := omega) only [eIq_ne, eIq_eq, upd_ne, upd_eq] <;> assumption) (wUn_mk (n := nU (R.1 1)) (by simp (disch := omega) only [eIq_ne, eIq_eq, upd_ne, upd_eq]; exact z8) (by omega) (fun i hi => ?_)) (iSc_mk  (by simp (disch := omega) only [eIq_ne, eIq_eq, upd_ne, upd_eq]; exact z0) y0 (by simp (disch := omega) only [eIq_ne, eIq_eq, upd_ne, upd_eq]; exact z5) g5 y5 (by simp (disch := omega) only [eIq_ne, eIq_eq, upd_ne, upd_eq]; exact z6) y6 (by simp (disch := omega) only [eIq_ne, eIq_eq, upd_ne, upd_eq]; exact z7) y7 (by simp (disch := omega) only [eIq_ne, eIq_eq, upd_ne, upd_eq]; exact z8) y8 (by simp (disch := omega) only [eIq_ne, eIq_eq, upd_ne, upd_eq]; exact z9) y9 (by simp (disch := omega) only [eIq_ne, eIq_eq, upd_ne, upd_eq]; exact z10) y10 (by simp (disch := omega) only [eIq_ne, eIq_eq, upd_ne, upd_eq]; exact z11) y11 (by simp (disch := omega) only [eIq_ne, eIq_eq, upd_ne, upd_eq]; exact z12) y12 (by simp (disch := omega) only [eIq_ne, eIq_eq, upd_ne, upd_eq]; exact z13) y13) (iUn_mk (n := nU (R.1 1)) (a := nR (R.1 1)) (by simp (disch := omega) only [eIq_ne, eIq_eq, upd_ne, upd_eq]; exact z8) (by omega) (by simp (disch := omega) only [eIq_ne, eIq_eq, upd_ne, upd_eq]; exact z7) (by omega) (fun i hi => ?_)))
  · by_cases e : i = k
    · subst e; refine ⟨?_, ?_, ?_, ?_⟩ <;> simp (disch := omega) only [eIq_ne, eIq_eq, upd_ne, upd_eq]
      · exact u0
      · exact u1
      · exact r2
    · simp (disch := omega) only [eIq_ne, eIq_eq, upd_ne, upd_eq]; exact wUn i hi
  · by_cases e : i = k
    · subst e
      exact Or.inr ⟨r, t, hr, t1, t2, by simp (disch := omega) only [eIq_ne, eIq_eq, upd_ne, upd_eq], by simp (disch := omega) only [eIq_ne, eIq_eq, upd_ne, upd_eq]; exact t3, by simp (disch := omega) only [eIq_ne, eIq_eq, upd_ne, upd_eq]; exact hw⟩
    · rcases i3 i hi with q | ⟨r, u, q1, q2, q3, q4, q5, q6⟩
      · exact Or.inl (by simp (disch := omega) only [eIq_ne, eIq_eq, upd_ne, upd_eq]; exact q)
      · exact Or.inr ⟨r, u, by omega, q2, q3, by simp (disch := omega) only [eIq_ne, eIq_eq, upd_ne, upd_eq]; exact q4, by simp (disch := omega) only [eIq_ne, eIq_eq, upd_ne, upd_eq]; exact q5, by simp (disch := omega) only [eIq_ne, eIq_eq, upd_ne, upd_eq]; exact q6⟩
theorem st_move {C R : eMem} (h : Rel C R) (x1 x2 : Int32) : Step (F_X9_move x1 x2 C) (F_X10_move x1 x2 R) := by
  obtain ⟨wSc, wGr, wRo, wUn, wPl, wHe, wSh, wRe, wFl, wLi, wBo, wTx, wTc, wz, i1, i2, i3, i4, i5, i6⟩ := id h.1; obtain ⟨c0, c1, c2, c3, c4, c5, c6, c7, c8, c9, c10, c11, c12, c13⟩ := id wSc; obtain ⟨⟨z0, y0⟩, ⟨f5, g5, y5, z5⟩, ⟨t6, y6, z6⟩, ⟨z7, y7⟩, ⟨z8, y8⟩, ⟨z9, y9⟩, ⟨z10, y10⟩, ⟨z11, y11⟩, ⟨z12, y12⟩, ⟨z13, y13⟩⟩ := id i1
  unfold F_X9_move F_X10_move
  rw [isUnit_eq, isRoad_eq, c8, c7]
  rcases rngN x1 (R.1 1 8) _ z8 (by omega) with ⟨k, hk, rfl, e1, e2⟩ | ⟨e1, e2⟩ <;> rw [e1, e2] <;> simp only [bS, i10, i00, ↓reduceIte]
  · rcases rngN x2 (R.1 1 7) _ z7 (by omega) with ⟨r, hr, rfl, f1, f2⟩ | ⟨f1, f2⟩ <;> rw [f1, f2] <;> simp only [bS, i10, i00, ↓reduceIte]
    · simp only [uat_0, uat_2, uat_3]
      simp (disch := omega) only [eIn_s, eG_tt, cl, nI_add, bS, Ladd_0, Ladd_1, Ladd_2, Ladd_3, Ladd_4, Ladd_5, Ladd_6, Ladd_7, Ladd_8, Ladd_10, Ladd_12, Ladd_14, Ladd_20, Ladd_23, Ladd_24, Ladd_110, Ladd_200, Ladd_230, Ladd_290, Ladd_294, Ladd_298, Ladd_498, Ladd_1128, Ladd_1248, Ladd_1278, Ladd_1764, Rad_0, Rad_1, Rad_2, Rad_3, Rad_4, Rad_5, Rad_6, Rad_7, Rad_8, Rad_10, Rad_12, Rad_14, Rad_20, Rad_23, Rad_24, Rad_110, Rad_200, Rad_230, Rad_290, Rad_294, Rad_298, Rad_498, Rad_1128, Rad_1248, Rad_1278, Rad_1764, Mul_2, Mul_3, Mul_4, Mul_5, Mul_6, Mul_7, Mul_10, Mul_20, Mul_23, Mul_24, Mul_142]
      rcases onroad_both h.1 hk with ⟨q1, q2⟩ | ⟨q1, q2⟩
      · rw [q1, if_pos q2]
        simp only [bS, i10, i00, ↓reduceIte]
        obtain ⟨v, C2, hv, p1, p2, p3⟩ := quiet_st h.1 (nI k)
        rw [p1, p2]
        rcases hv with rfl | rfl <;> simp only [bS, i10, i00, ↓reduceIte]
        · have h2 := p3.R h
          obtain ⟨wSc, -, wRo, wUn, -⟩ := id h2.1
          obtain ⟨c0, c1, c2, c3, c4, c5, c6, c7, c8, c9, c10, c11, c12, c13⟩ := id wSc
          rcases leads_both h2.1 hk hr with ⟨g1, g2⟩ | ⟨g1, g2⟩ <;> rw [g1, g2] <;> simp only [bS, i10, i00, ↓reduceIte]
          · exact stf3 h2
          · obtain ⟨u0, u1, u2, u3⟩ := wUn k hk
            obtain ⟨r0, r1, r2⟩ := wRo r hr
            obtain ⟨t, t1, t2, t3⟩ := i2 r hr
            unfold F_X10_move_132
            simp only [uat_4, roa_0, roa_1, roa_2]
            simp (disch := omega) only [eIn_s, eG_tt, cl, nI_add, bS, Ladd_0, Ladd_1, Ladd_2, Ladd_3, Ladd_4, Ladd_5, Ladd_6, Ladd_7, Ladd_8, Ladd_10, Ladd_12, Ladd_14, Ladd_20, Ladd_23, Ladd_24, Ladd_110, Ladd_200, Ladd_230, Ladd_290, Ladd_294, Ladd_298, Ladd_498, Ladd_1128, Ladd_1248, Ladd_1278, Ladd_1764, Rad_0, Rad_1, Rad_2, Rad_3, Rad_4, Rad_5, Rad_6, Rad_7, Rad_8, Rad_10, Rad_12, Rad_14, Rad_20, Rad_23, Rad_24, Rad_110, Rad_200, Rad_230, Rad_290, Rad_294, Rad_298, Rad_498, Rad_1128, Rad_1248, Rad_1278, Rad_1764, Mul_2, Mul_3, Mul_4, Mul_5, Mul_6, Mul_7, Mul_10, Mul_20, Mul_23, Mul_24, Mul_142]
            by_cases ee : R.1 1 (110 + 3 * r) = R.1 1 (230 + 5 * k)
            · rw [if_pos (by simp (disch := omega) only [eIq_ne, eIq_eq, upd_ne, upd_eq]; exact ee)]
              exact move_go h2 hk hr (by rw [if_pos ee]; simp (disch := omega) only [eIq_ne, eIq_eq, upd_ne, upd_eq])
            · rw [if_neg (by simp (disch := omega) only [eIq_ne, eIq_eq, upd_ne, upd_eq]; exact ee)]
              exact move_go h2 hk hr (by rw [if_neg ee]; simp (disch := omega) only [eIq_ne, eIq_eq, upd_ne, upd_eq])
        · exact stf5 (p3.R h)
      · rw [q1, if_neg q2]
        simp only [bS, i10, i00, ↓reduceIte]
        exact stf5 h
    · exact stf1 h
  · exact stf1 h
/-! the first still hour of a road -/
theorem lt_pred (x : Int32) {n : Nat} (h1 : 1 ≤ n) (h2 : n < 2147483648) : nI n - 1 < x ↔ ¬ x < nI n := by
  rw [Int32.lt_iff_toInt_lt, Int32.lt_iff_toInt_lt, nI_m1 h2, nI_toInt h2]
  omega
theorem seen77_0 (rec : Int32 → Int32 → Int32 → Int32 → Int32 → Option Int32) (v1 v2 v3 v5 v6 : Int32) (M : eMem) : F_X10_isSeen_77 rec v1 v2 v3 0 v5 v6 0 M = rec v1 v2 v3 0 (v5 + 1) := rfl
theorem seen77_1 (rec : Int32 → Int32 → Int32 → Int32 → Int32 → Option Int32) (v1 v2 v3 v5 : Int32) {j : Nat} (hj : j < 30) (M : eMem) : F_X10_isSeen_77 rec v1 v2 v3 0 v5 (nI (1128 + 4 * j)) 1 M = if 5 < M.1 1 (1130 + 4 * j) then rec v1 v2 v3 0 (v5 + 1) else (F_X10_in (M.1 1 (1128 + 4 * j)) v2 (v2 + v3 - 1)).bind fun q2 => if q2 = 0 then rec v1 v2 v3 0 (v5 + 1) else rec v1 v2 v3 1 (v5 + 1) := by
  unfold F_X10_isSeen_77 F_X10_isSeen_121
  simp only [bS, i10, i00, ↓reduceIte]
  simp (disch := omega) only [eIn_s, eG_tt, cl, nI_add, bS, Ladd_0, Ladd_1, Ladd_2, Ladd_3, Ladd_4, Ladd_5, Ladd_6, Ladd_7, Ladd_8, Ladd_10, Ladd_12, Ladd_14, Ladd_20, Ladd_23, Ladd_24, Ladd_110, Ladd_200, Ladd_230, Ladd_290, Ladd_294, Ladd_298, Ladd_498, Ladd_1128, Ladd_1248, Ladd_1278, Ladd_1764, Rad_0, Rad_1, Rad_2, Rad_3, Rad_4, Rad_5, Rad_6, Rad_7, Rad_8, Rad_10, Rad_12, Rad_14, Rad_20, Rad_23, Rad_24, Rad_110, Rad_200, Rad_230, Rad_290, Rad_294, Rad_298, Rad_498, Rad_1128, Rad_1248, Rad_1278, Rad_1764, Mul_2, Mul_3, Mul_4, Mul_5, Mul_6, Mul_7, Mul_10, Mul_20, Mul_23, Mul_24, Mul_142]
  rw [show 1128 + 4 * j + 2 = 1130 + 4 * j by omega]
theorem seen77_v (rec : Int32 → Int32 → Int32 → Int32 → Int32 → Option Int32) (v1 v2 v3 v5 v6 s : Int32) (M : eMem) : F_X10_isSeen_77 rec v1 v2 v3 1 v5 v6 s M = rec v1 v2 v3 1 (v5 + 1) := rfl
theorem low39_0 (rec : Int32 → Int32 → Int32 → Int32 → Int32 → Option Int32) (v1 v2 v3 v4 : Int32) {j : Nat} (hj : j < 30) (M : eMem) : F_X2_hasLow_39 rec v1 v2 v3 v4 (nI j) 0 M = rec v1 v2 v3 v4 (nI j + 1) := by
  unfold F_X2_hasLow_39 F_X2_hasLow_70 F_X2_hasLow_71
  simp (disch := omega) only [eIn_s, eG_t, cl]
  simp only [↓reduceIte, ite_self]
theorem low39_1 (rec : Int32 → Int32 → Int32 → Int32 → Int32 → Option Int32) (v1 v2 v3 v4 : Int32) {j : Nat} (hj : j < 30) (M : eMem) : F_X2_hasLow_39 rec v1 v2 v3 v4 (nI j) 1 M = if M.1 24 j < v3 then rec v1 v2 v3 v4 (nI j + 1) else if M.1 24 j < v3 + v4 then (if 5 < M.1 26 j then rec v1 v2 v3 v4 (nI j + 1) else some 1) else rec v1 v2 v3 v4 (nI j + 1) := by
  unfold F_X2_hasLow_39 F_X2_hasLow_70 F_X2_hasLow_71
  simp (disch := omega) only [eIn_s, eG_t, cl]
  simp only [i10, ↓reduceIte]
theorem seen_end (R : eMem) (a b c : Int32) {n : Nat} (h9 : R.1 1 12 = nI n) (hn : n ≤ 30) {r : Nat} (hr : r < 40) (hrd : True) : ∀ m j, j + m = n → ∀ f, m < f → F_X10_isSeen_6 f R (nI r) b c 1 (nI j) = some 1 := by
  intro m
  induction m with
  | zero =>
    intro j hj f hf
    obtain ⟨f, rfl⟩ : ∃ x, f = x + 1 := ⟨f - 1, by omega⟩
    rw [F_X10_isSeen_6, h9, if_neg (nI_nlt (by omega) (by omega))]
    rfl
  | succ m ih =>
    intro j hj f hf
    obtain ⟨f, rfl⟩ : ∃ x, f = x + 1 := ⟨f - 1, by omega⟩
    have h := ih (j + 1) (by omega) f (by omega)
    rw [F_X10_isSeen_6, h9, if_pos (nI_lt (by omega) (by omega))]
    simp only [roa_0, roa_1]
    unfold F_X10_isSeen_72
    simp only [seen77_v]
    simp (disch := omega) only [eIn_s, eG_tt, cl, nI_add, bS, Ladd_0, Ladd_1, Ladd_2, Ladd_3, Ladd_4, Ladd_5, Ladd_6, Ladd_7, Ladd_8, Ladd_10, Ladd_12, Ladd_14, Ladd_20, Ladd_23, Ladd_24, Ladd_110, Ladd_200, Ladd_230, Ladd_290, Ladd_294, Ladd_298, Ladd_498, Ladd_1128, Ladd_1248, Ladd_1278, Ladd_1764, Rad_0, Rad_1, Rad_2, Rad_3, Rad_4, Rad_5, Rad_6, Rad_7, Rad_8, Rad_10, Rad_12, Rad_14, Rad_20, Rad_23, Rad_24, Rad_110, Rad_200, Rad_230, Rad_290, Rad_294, Rad_298, Rad_498, Rad_1128, Rad_1248, Rad_1278, Rad_1764, Mul_2, Mul_3, Mul_4, Mul_5, Mul_6, Mul_7, Mul_10, Mul_20, Mul_23, Mul_24, Mul_142]
    simp only [h, ite_self]
theorem seen_both {C R : eMem} (hW : RelW C.1 (R.1 1)) {r t g : Nat} (hr : r < nR (R.1 1)) (ht : t ≤ 3000) (hg1 : 1 ≤ g) (hg2 : g ≤ 30) : ∀ m j, j + m = nF (R.1 1) → ∀ f1 f2, m < f1 → m < f2 →
    (F_X2_hasLow_3 f1 C (C.1 4 r) (C.1 5 r) (nI t) (nI g) (nI j) = some 0 ∧ F_X10_isSeen_6 f2 R (nI r) (nI t) (nI g) 0 (nI j) = some 0) ∨ (F_X2_hasLow_3 f1 C (C.1 4 r) (C.1 5 r) (nI t) (nI g) (nI j) = some 1 ∧ F_X10_isSeen_6 f2 R (nI r) (nI t) (nI g) 0 (nI j) = some 1) := by
  obtain ⟨wSc, -, wRo, -, -, -, -, -, wFl, -, -, -, -, -, i1, -⟩ := id hW
  obtain ⟨-, -, -, ⟨z7, y7⟩, -, -, -, -, ⟨z12, y12⟩, -⟩ := id i1
  have c12 := wSc.2.2.2.2.2.2.2.2.2.2.2.2.1
  obtain ⟨r0, r1, -⟩ := wRo r hr
  intro m
  induction m with
  | zero =>
    intro j hj f1 f2 h1 h2
    obtain ⟨f1, rfl⟩ : ∃ x, f1 = x + 1 := ⟨f1 - 1, by omega⟩
    obtain ⟨f2, rfl⟩ : ∃ x, f2 = x + 1 := ⟨f2 - 1, by omega⟩
    rw [F_X10_isSeen_6, F_X2_hasLow_3, c12, z12, if_neg (nI_nlt (by omega) (by omega)), if_neg (nI_nlt (by omega) (by omega))]
    exact Or.inl ⟨rfl, rfl⟩
  | succ m ih =>
    intro j hj f1 f2 h1 h2
    obtain ⟨f1, rfl⟩ : ∃ x, f1 = x + 1 := ⟨f1 - 1, by omega⟩
    obtain ⟨f2, rfl⟩ : ∃ x, f2 = x + 1 := ⟨f2 - 1, by omega⟩
    obtain ⟨a0, a1, a2, -⟩ := wFl j (by omega)
    have h := ih (j + 1) (by omega) f1 f2 (by omega) (by omega)
    have he := seen_end R 0 (nI t) (nI g) z12 y12 (r := r) (by omega) trivial m (j + 1) (by omega) f2 (by omega)
    rw [F_X10_isSeen_6, F_X2_hasLow_3, c12, z12, if_pos (nI_lt (by omega) (by omega)), if_pos (nI_lt (by omega) (by omega))]
    simp only [roa_0, roa_1]
    unfold F_X10_isSeen_72 F_X2_hasLow_34
    simp (disch := omega) only [eIn_s, eG_tt, cl, nI_add, bS, Ladd_0, Ladd_1, Ladd_2, Ladd_3, Ladd_4, Ladd_5, Ladd_6, Ladd_7, Ladd_8, Ladd_10, Ladd_12, Ladd_14, Ladd_20, Ladd_23, Ladd_24, Ladd_110, Ladd_200, Ladd_230, Ladd_290, Ladd_294, Ladd_298, Ladd_498, Ladd_1128, Ladd_1248, Ladd_1278, Ladd_1764, Rad_0, Rad_1, Rad_2, Rad_3, Rad_4, Rad_5, Rad_6, Rad_7, Rad_8, Rad_10, Rad_12, Rad_14, Rad_20, Rad_23, Rad_24, Rad_110, Rad_200, Rad_230, Rad_290, Rad_294, Rad_298, Rad_498, Rad_1128, Rad_1248, Rad_1278, Rad_1764, Mul_2, Mul_3, Mul_4, Mul_5, Mul_6, Mul_7, Mul_10, Mul_20, Mul_23, Mul_24, Mul_142]
    rw [seen77_0, seen77_1 _ _ _ _ _ (by omega), low39_0 _ _ _ _ _ (by omega), low39_1 _ _ _ _ _ (by omega)]
    simp only [nI_add, Rad_1]
    rw [show 1128 + 4 * j + 1 = 1129 + 4 * j by omega]
    rw [r0, r1] at h ⊢
    rw [a0, a1, a2]
    have hin : F_X10_in (R.1 1 (1128 + 4 * j)) (nI t) (nI (t + g) - 1) = if R.1 1 (1128 + 4 * j) < nI t then some 0 else if R.1 1 (1128 + 4 * j) < nI (t + g) then some 1 else some 0 := by
      unfold F_X10_in
      by_cases q1 : R.1 1 (1128 + 4 * j) < nI t
      · rw [if_pos q1, if_pos q1]
      · rw [if_neg q1, if_neg q1]
        by_cases q2 : R.1 1 (1128 + 4 * j) < nI (t + g)
        · rw [if_pos q2, if_neg (fun q => (lt_pred _ (by omega) (by omega)).mp q q2)]
        · rw [if_neg q2, if_pos ((lt_pred _ (by omega) (by omega)).mpr q2)]
    have hgo : ∀ A B : Option Int32, (A = if 5 < R.1 1 (1130 + 4 * j) then F_X10_isSeen_6 f2 R (nI r) (nI t) (nI g) 0 (nI (j + 1)) else (F_X10_in (R.1 1 (1128 + 4 * j)) (nI t) (nI (t + g) - 1)).bind fun q2 => if q2 = 0 then F_X10_isSeen_6 f2 R (nI r) (nI t) (nI g) 0 (nI (j + 1)) else F_X10_isSeen_6 f2 R (nI r) (nI t) (nI g) 1 (nI (j + 1))) →
        (B = if R.1 1 (1128 + 4 * j) < nI t then F_X2_hasLow_3 f1 C (R.1 1 (110 + 3 * r)) (R.1 1 (111 + 3 * r)) (nI t) (nI g) (nI (j + 1)) else if R.1 1 (1128 + 4 * j) < nI (t + g) then (if 5 < R.1 1 (1130 + 4 * j) then F_X2_hasLow_3 f1 C (R.1 1 (110 + 3 * r)) (R.1 1 (111 + 3 * r)) (nI t) (nI g) (nI (j + 1)) else some 1) else F_X2_hasLow_3 f1 C (R.1 1 (110 + 3 * r)) (R.1 1 (111 + 3 * r)) (nI t) (nI g) (nI (j + 1))) → (B = some 0 ∧ A = some 0) ∨ (B = some 1 ∧ A = some 1) := by
      intro A B hA hB
      rw [hin] at hA
      rw [hA, hB]
      by_cases q5 : 5 < R.1 1 (1130 + 4 * j)
      · simp only [if_pos q5, ite_self]; exact h
      · by_cases q1 : R.1 1 (1128 + 4 * j) < nI t
        · simp only [q5, q1, Option.bind_some, ↓reduceIte]; exact h
        · by_cases q2 : R.1 1 (1128 + 4 * j) < nI (t + g)
          · simp [q5, q1, q2, he]
          · simp only [q5, q1, q2, Option.bind_some, ↓reduceIte]; exact h
    by_cases p1 : R.1 1 (1129 + 4 * j) = R.1 1 (110 + 3 * r)
    · rw [if_pos p1, if_pos p1]
      exact hgo _ _ rfl rfl
    · rw [if_neg p1, if_neg p1]
      by_cases p2 : R.1 1 (1129 + 4 * j) = R.1 1 (111 + 3 * r)
      · rw [if_pos p2, if_pos p2]
        exact hgo _ _ rfl rfl
      · rw [if_neg p2, if_neg p2]
        exact h
