/-! sheet, status -/
theorem zero20 (K : Int32 → Int32 → eMem → Option (Int32 × eMem)) (v2 v3 : Int32) {k : Nat} (hk : k < 4) : ∀ m j, j + m = 20 → ∀ f, m < f → ∀ M : eMem, ∃ M2 : eMem, F_X10_sheet_77 K f (nI k) v2 v3 (nI j) M = K v2 v3 M2 ∧ (∀ p, p ≠ 6 → M2.1 p = M.1 p) ∧ ∀ i, M2.1 6 i = if 20 * k + j ≤ i ∧ i < 20 * k + 20 then 0 else M.1 6 i := by
  intro m
  induction m with
  | zero =>
    intro j hj f hf M
    obtain ⟨f, rfl⟩ : ∃ x, f = x + 1 := ⟨f - 1, by omega⟩
    rw [F_X10_sheet_77, if_neg (fun q => by have := (lt_lit (n := 20) rfl (by omega)).mp q; omega)]
    exact ⟨M, rfl, fun _ _ => rfl, fun i => by rw [if_neg (by omega)]⟩
  | succ m ih =>
    intro j hj f hf M
    obtain ⟨f, rfl⟩ : ∃ x, f = x + 1 := ⟨f - 1, by omega⟩
    rw [F_X10_sheet_77, if_pos ((lt_lit (n := 20) rfl (by omega)).mpr (by omega))]
    simp (disch := omega) only [eIn_s, eG_tt, cl, nI_add, bS, Ladd_0, Ladd_1, Ladd_2, Ladd_3, Ladd_4, Ladd_5, Ladd_6, Ladd_7, Ladd_8, Ladd_10, Ladd_12, Ladd_14, Ladd_20, Ladd_23, Ladd_24, Ladd_110, Ladd_200, Ladd_230, Ladd_290, Ladd_294, Ladd_298, Ladd_498, Ladd_1128, Ladd_1248, Ladd_1278, Ladd_1764, Rad_0, Rad_1, Rad_2, Rad_3, Rad_4, Rad_5, Rad_6, Rad_7, Rad_8, Rad_10, Rad_12, Rad_14, Rad_20, Rad_23, Rad_24, Rad_110, Rad_200, Rad_230, Rad_290, Rad_294, Rad_298, Rad_498, Rad_1128, Rad_1248, Rad_1278, Rad_1764, Mul_2, Mul_3, Mul_4, Mul_5, Mul_6, Mul_7, Mul_10, Mul_20, Mul_23, Mul_24, Mul_142]
    obtain ⟨M2, e1, e2, e4⟩ := ih (j + 1) (by omega) f (by omega) (eI M 6 (20 * k + j) 0)
    refine ⟨M2, e1, fun p hp => by rw [e2 p hp]; simp (disch := omega) only [eIq_ne, eIq_eq, upd_ne, upd_eq], fun i => ?_⟩
    rw [e4 i]
    simp (disch := omega) only [eIq_ne, eIq_eq, upd_ne, upd_eq]
    rw [upd_at]
    by_cases q : i = 20 * k + j
    · subst q; rw [if_pos rfl, ite_self, if_pos (by omega)]
    · rw [if_neg q]
      by_cases q2 : 20 * k + (j + 1) ≤ i ∧ i < 20 * k + 20
      · rw [if_pos q2, if_pos (by omega)]
      · rw [if_neg q2, if_neg (by omega)]
theorem sheet_go {C R : eMem} (h : Rel C R) {k : Nat} (hk : k < 4) (x2 x3 : Int32) (hx : x2 = 0 ∨ x2 = 8 ∨ x2 = 32) : Step (F_X9_sheet_38 (nI k) x2 x3 C) (F_X10_sheet_29 (nI k) x2 x3 R) := by
  unfold F_X9_sheet_38 F_X10_sheet_29
  by_cases q0 : x3 < 0
  · rw [if_pos q0, if_pos q0]; exact stf7 h
  · rw [if_neg q0, if_neg q0]
    by_cases q1 : (20 : Int32) < x3
    · rw [if_pos q1, if_pos q1]; exact stf1 h
    · rw [if_neg q1, if_neg q1]
      obtain ⟨n, hn, rfl⟩ := nI_of q0
      have hn20 : n ≤ 20 := by
        by_cases c : n ≤ 20
        · exact c
        · exact absurd ((gt_lit (n := 20) rfl hn).mpr (by omega)) q1
      rw [eIn_s hk (by omega), cl (show k < 2147483648 by omega)]
      simp only [eG_tt]
      have hgo : ∀ l : Nat, l ≤ 20 → nI l = (if x2 = 0 then 0 else nI n) → Step (F_X9_sheet_89 (nI k) (nI l) (nI k) (eI C 148 k x2)) (F_X10_sheet_73 (nI k) x2 (nI n) (nI l) (nI k) (eI R 4 k x2)) := by
        intro l hl hl2
        unfold F_X9_sheet_89 F_X10_sheet_73
        rw [eIn_s hk (by omega), cl (show k < 2147483648 by omega)]
        simp only [eG_tt]
        obtain ⟨M2, e1, e2, e4⟩ := zero20 (fun v2 v3 M => if v2 = 0 then some (0, M) else some (v3, M)) x2 (nI n) hk 20 0 rfl eFuel (by unfold eFuel; omega) (eI (eI R 4 k x2) 5 k (nI l))
        rw [show nI 0 = 0 from rfl] at e1
        rw [e1]
        have hfl : ∀ q, (eFl32 (eI (eI C 148 k x2) 149 k (nI l)) (151 + k) 20 0).1 q = if q = 151 + k then eFill 20 0 ((eI (eI C 148 k x2) 149 k (nI l)).1 (151 + k)) else (eI (eI C 148 k x2) 149 k (nI l)).1 q := fun q => rfl
        have hrel : Rel (eFl32 (eI (eI C 148 k x2) 149 k (nI l)) (151 + k) 20 0) M2 := by
          refine h.sheet (fun p hp => by rw [hfl, if_neg (by omega)]; simp (disch := omega) only [eIq_ne, eIq_eq, upd_ne, upd_eq]) (fun p hp => by rw [e2 p (by omega)]; simp (disch := omega) only [eIq_ne, eIq_eq, upd_ne, upd_eq]) (fun g hg => ?_)
          obtain ⟨t4, t5, t3, t2, t6, t8⟩ := h.2.2.2.1 g hg
          rw [hfl, hfl, hfl, if_neg (by omega), if_neg (by omega), e2 4 (by decide), e2 5 (by decide)]
          by_cases e : g = k
          · subst e
            simp (disch := omega) only [eIq_ne, eIq_eq, upd_ne, upd_eq]
            refine ⟨trivial, trivial, hx, ⟨l, hl, rfl⟩, fun i hi => ?_, fun q i hi => ?_⟩
            · rw [if_pos trivial, eFill, if_pos hi, e4 _, if_pos (by omega)]
            · rw [e4 _, if_pos (by omega)]; decide
          · simp (disch := omega) only [eIq_ne, eIq_eq, upd_ne, upd_eq]
            refine ⟨t4, t5, t3, t2, fun i hi => ?_, fun q i hi => ?_⟩
            · rw [if_neg (by omega), e4 _, if_neg (by omega)]; simp (disch := omega) only [eIq_ne, eIq_eq, upd_ne, upd_eq]; exact t6 i hi
            · rw [e4 _, if_neg (by omega)]; simp (disch := omega) only [eIq_ne, eIq_eq, upd_ne, upd_eq]; exact t8 q i hi
        have ha : (eFl32 (eI (eI C 148 k x2) 149 k (nI l)) (151 + k) 20 0).1 149 k = nI l := by
          rw [hfl, if_neg (by omega)]; simp (disch := omega) only [eIq_ne, eIq_eq, upd_ne, upd_eq]
        rw [ha]
        by_cases e : x2 = 0
        · rw [if_pos e] at hl2; rw [if_pos e]; exact stepI hl2 hrel
        · rw [if_neg e] at hl2; rw [if_neg e]; exact stepI hl2 hrel
      by_cases e : x2 = 0
      · rw [if_pos e, if_pos e]; exact hgo 0 (by omega) (by rw [if_pos e]; rfl)
      · rw [if_neg e, if_neg e]; exact hgo n hn20 (by rw [if_neg e])
theorem st_sheet {C R : eMem} (h : Rel C R) (x1 x2 x3 : Int32) : Step (F_X9_sheet x1 x2 x3 C) (F_X10_sheet x1 x2 x3 R) := by
  unfold F_X9_sheet F_X10_sheet
  rw [isSheet_eq]
  rcases rng x1 4 3 4 rfl rfl with ⟨k, hk, rfl, f1, f2⟩ | ⟨f1, f2⟩ <;> rw [f1, f2]
  · simp only [bS, i10, ↓reduceIte]
    by_cases a0 : x2 = 0
    · rw [if_pos a0, if_pos a0]; exact sheet_go h hk x2 x3 (Or.inl a0)
    · rw [if_neg a0, if_neg a0]
      by_cases a8 : x2 = 8
      · rw [if_pos a8, if_pos a8]; exact sheet_go h hk x2 x3 (Or.inr (Or.inl a8))
      · rw [if_neg a8, if_neg a8]
        by_cases a32 : x2 = 32
        · rw [if_pos a32, if_pos a32]; exact sheet_go h hk x2 x3 (Or.inr (Or.inr a32))
        · rw [if_neg a32, if_neg a32]; exact stf1 h
  · simp only [bS, i10, i00, ↓reduceIte]
    exact stf1 h
theorem stat_all {C R : eMem} (h : Rel C R) : ∀ m j, j + m = 7 → ∀ f1 f2, m < f1 → m < f2 → ∀ v, ∃ u, F_X9_status_42 f1 v 7 (nI j) C = some (u, C) ∧ F_X10_status_20 f2 (-1) v (nI (j + 1)) R = some (u, R) := by
  intro m
  induction m with
  | zero =>
    intro j hj f1 f2 h1 h2 v
    obtain ⟨f1, rfl⟩ : ∃ x, f1 = x + 1 := ⟨f1 - 1, by omega⟩
    obtain ⟨f2, rfl⟩ : ∃ x, f2 = x + 1 := ⟨f2 - 1, by omega⟩
    have e : j = 7 := by omega
    subst e
    rw [F_X9_status_42, F_X10_status_20, if_neg (by decide), if_neg (by decide)]
    exact ⟨v, rfl, rfl⟩
  | succ m ih =>
    intro j hj f1 f2 h1 h2 v
    obtain ⟨f1, rfl⟩ : ∃ x, f1 = x + 1 := ⟨f1 - 1, by omega⟩
    obtain ⟨f2, rfl⟩ : ∃ x, f2 = x + 1 := ⟨f2 - 1, by omega⟩
    rw [F_X9_status_42, F_X10_status_20, if_pos ((lt_lit (n := 7) rfl (by omega)).mpr (by omega)), if_pos ((lt_lit (n := 8) rfl (by omega)).mpr (by omega)), if_pos rfl]
    unfold F_X10_status_39
    rw [eIn_s (show j < 7 by omega) (by omega), eIn_s (show j + 1 < 8 by omega) (by omega), cl (show j < 2147483648 by omega), cl (show j + 1 < 2147483648 by omega), h.2.2.2.2.1 j (by omega), Rad_1, Rad_1]
    simp only [eG_tt]
    exact ih (j + 1) (by omega) f1 f2 (by omega) (by omega) _
theorem stat_one {R : eMem} {k : Nat} (hk : k < 7) : ∀ m j, j + m = 8 → 1 ≤ j → ∀ f, m < f → ∀ v, F_X10_status_20 f (nI k) v (nI j) R = some (if j ≤ k + 1 then v + R.1 7 (k + 1) else v, R) := by
  have hne : ¬ nI k = -1 := fun e => by have := nI_pos (n := k) (by omega); rw [e] at this; exact this (by decide)
  intro m
  induction m with
  | zero =>
    intro j hj hj1 f hf v
    obtain ⟨f, rfl⟩ : ∃ x, f = x + 1 := ⟨f - 1, by omega⟩
    have e : j = 8 := by omega
    subst e
    rw [F_X10_status_20, if_neg (by decide), if_neg (by omega)]
  | succ m ih =>
    intro j hj hj1 f hf v
    obtain ⟨f, rfl⟩ : ∃ x, f = x + 1 := ⟨f - 1, by omega⟩
    rw [F_X10_status_20, if_pos ((lt_lit (n := 8) rfl (by omega)).mpr (by omega)), if_neg hne, show nI j - 1 = nI (j - 1) from nI_sub (b := 1) hj1, Rad_1]
    by_cases e : nI k = nI (j - 1)
    · rw [if_pos e]
      have e2 : k + 1 = j := by have := (eqN (by omega) (by omega)).mp e; omega
      unfold F_X10_status_39
      rw [eIn_s (show j < 8 by omega) (by omega), cl (show j < 2147483648 by omega), eG_tt, Rad_1]
      refine (ih (j + 1) (by omega) (by omega) f (by omega) (v + R.1 7 j)).trans ?_
      rw [if_neg (by omega), if_pos (by omega), e2]
    · rw [if_neg e, show v + 0 = v from Int32.add_zero v, ih (j + 1) (by omega) (by omega) f (by omega) v]
      by_cases e2 : j ≤ k + 1
      · have : j ≠ k + 1 := fun q => e (by rw [q]; rfl)
        rw [if_pos (by omega), if_pos e2]
      · rw [if_neg (by omega), if_neg e2]
theorem st_status {C R : eMem} (h : Rel C R) (x1 : Int32) : Step (F_X9_status x1 C) (F_X10_status x1 R) := by
  unfold F_X9_status F_X10_status
  rcases rng x1 7 6 7 rfl rfl with ⟨k, hk, rfl, f1, f2⟩ | ⟨f1, f2⟩ <;> rw [f1]
  · simp only [bS, i10, ↓reduceIte]
    have hin : F_X10_in (nI k) (-1) 6 = some 1 := by
      unfold F_X10_in
      rw [if_neg (fun q => by rw [Int32.lt_iff_toInt_lt, nI_toInt (by omega), show (-1 : Int32).toInt = -1 from rfl] at q; omega), if_neg (fun q => by have := (gt_lit (n := 6) rfl (by omega)).mp q; omega)]
    rw [hin]
    simp only [bS, i10, ↓reduceIte]
    have hs := stat_one (R := R) hk 7 1 rfl (by omega) eFuel (by unfold eFuel; omega) 0
    rw [show nI 1 = 1 from rfl] at hs
    rw [hs, if_pos (by omega), eIn_s hk (by omega), cl (by omega), eG_tt, h.2.2.2.2.1 k hk]
    exact stepI (Int32.zero_add _).symm h
  · simp only [bS, ↓reduceIte]
    by_cases e : x1 = -1
    · subst e
      rw [if_pos rfl, show F_X10_in (-1) (-1) 6 = some 1 by decide]
      simp only [bS, i10, ↓reduceIte]
      obtain ⟨u, u1, u2⟩ := stat_all h 7 0 rfl eFuel eFuel (by unfold eFuel; omega) (by unfold eFuel; omega) 0
      rw [show nI 0 = 0 from rfl] at u1
      rw [show nI (0 + 1) = 1 from rfl] at u2
      rw [u1, u2]
      exact stepI rfl h
    · rw [if_neg e]
      have hin : F_X10_in x1 (-1) 6 = some 0 := by
        unfold F_X10_in at f2 ⊢
        by_cases q : x1 < 0
        · have q2 : x1 < -1 := by
            rw [Int32.lt_iff_toInt_lt] at q ⊢
            rw [show (0 : Int32).toInt = 0 from rfl] at q
            rw [show (-1 : Int32).toInt = -1 from rfl]
            have : x1.toInt ≠ -1 := fun w => e (by rw [← Int32.toInt_inj, w]; rfl)
            omega
          rw [if_pos q2]
        · rw [if_neg q] at f2
          by_cases q6 : (6 : Int32) < x1
          · rw [if_pos q6, ite_self]
          · rw [if_neg q6] at f2; cases f2
      rw [hin]
      simp only [bS, ↓reduceIte]
      exact stf1 h
