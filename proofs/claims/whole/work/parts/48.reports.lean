/-! reports come -/
theorem room_lt {n v : Nat} (hn : n ≤ 90) (hv : v ≤ 1000) : (90 : Int32) - nI n < nI v ↔ 90 < n + v := by
  rw [show (90 : Int32) = nI 90 from rfl, nI_sub hn, Int32.lt_iff_toInt_lt, nI_toInt (by omega), nI_toInt (by omega)]
  omega
theorem room_one {n : Nat} (hn : n ≤ 90) : (90 : Int32) - nI n < 1 ↔ n = 90 := by
  rw [show (1 : Int32) = nI 1 from rfl, room_lt hn (by omega)]
  omega
theorem nP_mono {s s2 : Nat → Int32} {n : Nat} (h : s2 10 = nI n) (hn : n < 2147483648) : nP s2 = n := nP_of h hn
theorem comes_both {C R : eMem} (h : Rel C R) {n : Nat} (hn : nP (R.1 1) = n) (hn9 : n < 90) {k st g : Nat} {b kn x6 : Int32} (hk : k ≤ 5) (hst : st ≤ 3) (hb : b = 0 ∨ b = 1) (hg : g ≤ hr (R.1 1)) (hx : k = 2 ∨ k = 3 → ∃ x, x < nS (R.1 1) ∧ x6 = nI x ∧ ¬ R.1 1 (298 + 10 * x) = 3) :
    ∃ C2 R2, F_X1_add (nI k) (nI st) b (nI g) kn x6 C = some C2 ∧ F_X10_comes (nI k) (nI st) b (nI g) kn x6 R = some (nI n, R2) ∧ Rel C2 R2 ∧ C2.1 29 7 = nI (n + 1) ∧ (∀ p, p ≠ 1 → R2.1 p = R.1 p) ∧ nP (R2.1 1) = n + 1 ∧ nS (R2.1 1) = nS (R.1 1) ∧ hr (R2.1 1) = hr (R.1 1) := by
  obtain ⟨wSc, wGr, wRo, wUn, wPl, wHe, wSh, wRe, wFl, wLi, wBo, wTx, wTc, wz, i1, i2, i3, i4, i5, i6⟩ := id h.1; obtain ⟨c0, c1, c2, c3, c4, c5, c6, c7, c8, c9, c10, c11, c12, c13⟩ := id wSc; obtain ⟨⟨z0, y0⟩, ⟨f5, g5, y5, z5⟩, ⟨t6, y6, z6⟩, ⟨z7, y7⟩, ⟨z8, y8⟩, ⟨z9, y9⟩, ⟨z10, y10⟩, ⟨z11, y11⟩, ⟨z12, y12⟩, ⟨z13, y13⟩⟩ := id i1
  rw [hn] at z10 y10
  unfold F_X1_add F_X10_comes
  rw [c10, z10, isIn_y (n := 90) rfl (by omega), if_neg (fun q => by have := (eq_lit (n := 90) rfl (by omega)).mp q; omega)]
  simp only [bS, i10, i00, ↓reduceIte]
  simp (disch := omega) only [eIn_s, eG_tt, cl, nI_add, bS, Ladd_0, Ladd_1, Ladd_2, Ladd_3, Ladd_4, Ladd_5, Ladd_6, Ladd_7, Ladd_8, Ladd_10, Ladd_12, Ladd_14, Ladd_20, Ladd_23, Ladd_24, Ladd_110, Ladd_200, Ladd_230, Ladd_290, Ladd_294, Ladd_298, Ladd_498, Ladd_1128, Ladd_1248, Ladd_1278, Ladd_1764, Rad_0, Rad_1, Rad_2, Rad_3, Rad_4, Rad_5, Rad_6, Rad_7, Rad_8, Rad_10, Rad_12, Rad_14, Rad_20, Rad_23, Rad_24, Rad_110, Rad_200, Rad_230, Rad_290, Rad_294, Rad_298, Rad_498, Rad_1128, Rad_1248, Rad_1278, Rad_1764, Mul_2, Mul_3, Mul_4, Mul_5, Mul_6, Mul_7, Mul_10, Mul_20, Mul_23, Mul_24, Mul_142]
  have hif : (if b = 0 then F_X10_comes_67 (nI g) kn x6 (nI (498 + 7 * n)) 0 (nI (498 + 7 * n + 2)) (eI (eI R 1 (498 + 7 * n + 0) (nI k)) 1 (498 + 7 * n + 1) (nI st)) else F_X10_comes_67 (nI g) kn x6 (nI (498 + 7 * n)) 1 (nI (498 + 7 * n + 2)) (eI (eI R 1 (498 + 7 * n + 0) (nI k)) 1 (498 + 7 * n + 1) (nI st))) = F_X10_comes_67 (nI g) kn x6 (nI (498 + 7 * n)) b (nI (498 + 7 * n + 2)) (eI (eI R 1 (498 + 7 * n + 0) (nI k)) 1 (498 + 7 * n + 1) (nI st)) := by
    rcases hb with rfl | rfl
    · rw [if_pos rfl]
    · rw [if_neg (by decide)]
  rw [hif]
  unfold F_X10_comes_67
  simp (disch := omega) only [eIn_s, eG_tt, cl, nI_add, bS, Ladd_0, Ladd_1, Ladd_2, Ladd_3, Ladd_4, Ladd_5, Ladd_6, Ladd_7, Ladd_8, Ladd_10, Ladd_12, Ladd_14, Ladd_20, Ladd_23, Ladd_24, Ladd_110, Ladd_200, Ladd_230, Ladd_290, Ladd_294, Ladd_298, Ladd_498, Ladd_1128, Ladd_1248, Ladd_1278, Ladd_1764, Rad_0, Rad_1, Rad_2, Rad_3, Rad_4, Rad_5, Rad_6, Rad_7, Rad_8, Rad_10, Rad_12, Rad_14, Rad_20, Rad_23, Rad_24, Rad_110, Rad_200, Rad_230, Rad_290, Rad_294, Rad_298, Rad_498, Rad_1128, Rad_1248, Rad_1278, Rad_1764, Mul_2, Mul_3, Mul_4, Mul_5, Mul_6, Mul_7, Mul_10, Mul_20, Mul_23, Mul_24, Mul_142]
  rw [show 498 + 7 * n + 0 = 498 + 7 * n by omega, show 498 + 7 * n + 1 = 499 + 7 * n by omega, show 498 + 7 * n + 2 = 500 + 7 * n by omega, show 498 + 7 * n + 3 = 501 + 7 * n by omega, show 498 + 7 * n + 4 = 502 + 7 * n by omega, show 498 + 7 * n + 5 = 503 + 7 * n by omega, show 498 + 7 * n + 6 = 504 + 7 * n by omega]
  simp (disch := omega) only [eIq_ne, eIq_eq, upd_ne, upd_eq]
  rw [z10, Rad_1, nI_pred]
  have hb0 : vp_nar .boolean b = b := by rcases hb with rfl | rfl <;> rfl
  have hb1 : vp_nar .boolean (0 : Int32) = 0 := rfl
  rw [hb0, hb1]
  refine ⟨_, _, rfl, rfl, ?_, by simp (disch := omega) only [eIq_ne, eIq_eq, upd_ne, upd_eq], fun p hp => by simp (disch := omega) only [eIq_ne, eIq_eq, upd_ne, upd_eq], nP_of (by simp (disch := omega) only [eIq_ne, eIq_eq, upd_ne, upd_eq]) (by omega), by unfold nS; simp (disch := omega) only [eIq_ne, eIq_eq, upd_ne, upd_eq], by unfold hr; simp (disch := omega) only [eIq_ne, eIq_eq, upd_ne, upd_eq]⟩
  refine h.now (by simp (disch := omega) only [eIq_ne, eIq_eq, upd_ne, upd_eq]) (fun p hp => by simp (disch := omega) only [eIq_ne, eIq_eq, upd_ne, upd_eq]) (by simp (disch := omega) only [eIq_ne, eIq_eq, upd_ne, upd_eq]) (by simp (disch := omega) only [eIq_ne, eIq_eq, upd_ne, upd_eq]) (fun p p1 p2 => by simp (disch := omega) only [eIq_ne, eIq_eq, upd_ne, upd_eq]) (h.1.re (fun p p1 p2 p3 p4 p5 p6 p7 p8 => by simp (disch := omega) only [eIq_ne, eIq_eq, upd_ne, upd_eq]) (fun j j1 j2 => by simp (disch := omega) only [eIq_ne, eIq_eq, upd_ne, upd_eq]) (by refine ⟨?_, ?_, ?_, ?_, ?_, ?_, ?_, ?_, ?_, ?_, ?_, ?_, ?_, ?_⟩ <;> (simp (disch := omega) only [eIq_ne, eIq_eq, upd_ne, upd_eq] <;> first | assumption | (simp only [*]; done))) (wRe_mk (n := n + 1) (by simp (disch := omega) only [eIq_ne, eIq_eq, upd_ne, upd_eq]) (by omega) (fun i hi => ?_)) ?_ (iSc_mk (d := n + 1) (by simp (disch := omega) only [eIq_ne, eIq_eq, upd_ne, upd_eq]; exact z0) y0 (by simp (disch := omega) only [eIq_ne, eIq_eq, upd_ne, upd_eq]; exact z5) g5 y5 (by simp (disch := omega) only [eIq_ne, eIq_eq, upd_ne, upd_eq]; exact z6) y6 (by simp (disch := omega) only [eIq_ne, eIq_eq, upd_ne, upd_eq]; exact z7) y7 (by simp (disch := omega) only [eIq_ne, eIq_eq, upd_ne, upd_eq]; exact z8) y8 (by simp (disch := omega) only [eIq_ne, eIq_eq, upd_ne, upd_eq]; exact z9) y9 (by simp (disch := omega) only [eIq_ne, eIq_eq, upd_ne, upd_eq]) (by omega) (by simp (disch := omega) only [eIq_ne, eIq_eq, upd_ne, upd_eq]; exact z11) y11 (by simp (disch := omega) only [eIq_ne, eIq_eq, upd_ne, upd_eq]; exact z12) y12 (by simp (disch := omega) only [eIq_ne, eIq_eq, upd_ne, upd_eq]; exact z13) y13) (iRe_mk (n := n + 1) (a := hr (R.1 1)) (b := nS (R.1 1)) (by simp (disch := omega) only [eIq_ne, eIq_eq, upd_ne, upd_eq]) (by omega) (by simp (disch := omega) only [eIq_ne, eIq_eq, upd_ne, upd_eq]; exact z0) (by omega) (by simp (disch := omega) only [eIq_ne, eIq_eq, upd_ne, upd_eq]; exact z9) (by omega) (fun i hi => ?_)))
  · by_cases e : i = n
    · subst e; refine ⟨?_, ?_, ?_, ?_, ?_, ?_, ?_⟩ <;> simp (disch := omega) only [eIq_ne, eIq_eq, upd_ne, upd_eq]
    · simp (disch := omega) only [eIq_ne, eIq_eq, upd_ne, upd_eq]; exact wRe i (by omega)
  · refine ⟨fun i hi => ?_, fun i hi => ?_, fun i hi => ?_, fun i hi => ?_, fun i hi => ?_, fun i hi => ?_, fun i hi => ?_⟩
    · simp (disch := omega) only [eIq_ne, eIq_eq, upd_ne, upd_eq]; exact wz.1 i hi
    · simp (disch := omega) only [eIq_ne, eIq_eq, upd_ne, upd_eq]; exact wz.2.1 i hi
    · simp (disch := omega) only [eIq_ne, eIq_eq, upd_ne, upd_eq]
      by_cases e : i = n
      · subst e; simp (disch := omega) only [eIq_ne, eIq_eq, upd_ne, upd_eq]; exact hb
      · simp (disch := omega) only [eIq_ne, eIq_eq, upd_ne, upd_eq]; exact wz.2.2.1 i hi
    · simp (disch := omega) only [eIq_ne, eIq_eq, upd_ne, upd_eq]
      by_cases e : i = n
      · subst e; simp (disch := omega) only [eIq_ne, eIq_eq, upd_ne, upd_eq]; exact Or.inl trivial
      · simp (disch := omega) only [eIq_ne, eIq_eq, upd_ne, upd_eq]; exact wz.2.2.2.1 i hi
    · simp (disch := omega) only [eIq_ne, eIq_eq, upd_ne, upd_eq]; exact wz.2.2.2.2.1 i hi
    · simp (disch := omega) only [eIq_ne, eIq_eq, upd_ne, upd_eq]; exact wz.2.2.2.2.2.1 i hi
    · simp (disch := omega) only [eIq_ne, eIq_eq, upd_ne, upd_eq]; exact wz.2.2.2.2.2.2 i hi
  · by_cases e : i = n
    · subst e
      simp (disch := omega) only [eIq_ne, eIq_eq, upd_ne, upd_eq]
      refine ⟨⟨k, hk, rfl⟩, ⟨st, hst, rfl⟩, hb, ⟨g, hg, rfl⟩, fun q => ?_, Or.inl trivial⟩
      have q' : k = 2 ∨ k = 3 := by
        rcases q with q | q
        · exact Or.inl ((eq_lit (n := 2) rfl (by omega)).mp q)
        · exact Or.inr ((eq_lit (n := 3) rfl (by omega)).mp q)
      obtain ⟨y, y1, y2, y3⟩ := hx q'
      exact ⟨y, y1, y2, by simp (disch := omega) only [eIq_ne, eIq_eq, upd_ne, upd_eq]; exact y3⟩
    · obtain ⟨b1, b2, b3, b4, b5, b6⟩ := i5 i (by omega)
      simp (disch := omega) only [eIq_ne, eIq_eq, upd_ne, upd_eq]
      refine ⟨b1, b2, b3, b4, fun q => ?_, b6⟩
      obtain ⟨y, y1, y2, y3⟩ := b5 q
      exact ⟨y, y1, y2, by simp (disch := omega) only [eIq_ne, eIq_eq, upd_ne, upd_eq]; exact y3⟩
theorem st_prisoner {C R : eMem} (h : Rel C R) (x1 x2 : Int32) (hx : x2 = 0 ∨ x2 = 1) : Step (F_X9_prisoner x1 x2 C) (F_X10_prisoner x1 x2 R) := by
  obtain ⟨wSc, wGr, wRo, wUn, wPl, wHe, wSh, wRe, wFl, wLi, wBo, wTx, wTc, wz, i1, i2, i3, i4, i5, i6⟩ := id h.1; obtain ⟨c0, c1, c2, c3, c4, c5, c6, c7, c8, c9, c10, c11, c12, c13⟩ := id wSc; obtain ⟨⟨z0, y0⟩, ⟨f5, g5, y5, z5⟩, ⟨t6, y6, z6⟩, ⟨z7, y7⟩, ⟨z8, y8⟩, ⟨z9, y9⟩, ⟨z10, y10⟩, ⟨z11, y11⟩, ⟨z12, y12⟩, ⟨z13, y13⟩⟩ := id i1
  unfold F_X9_prisoner F_X10_prisoner
  rw [isStory_eq]
  rcases rng x1 4 3 4 rfl rfl with ⟨k, hk, rfl, e1, e2⟩ | ⟨e1, e2⟩ <;> rw [e1, e2]
  · simp only [bS, i10, ↓reduceIte]
    unfold F_X1_room
    rw [c10, z10]
    simp only [bS]
    by_cases hf : nP (R.1 1) = 90
    · rw [if_pos ((room_one y10).mpr hf), hf, if_pos (by decide)]
      exact stf2 h
    · rw [if_neg (fun q => hf ((room_one y10).mp q)), if_neg (fun q => hf ((eq_lit (n := 90) rfl (by omega)).mp q))]
      unfold F_X8_reportStory
      rw [c0, z0]
      obtain ⟨C2, R2, p1, p2, p3, p4, -⟩ := comes_both h rfl (by omega) (k := 4) (st := k) (g := hr (R.1 1)) (b := x2) (kn := nI (hr (R.1 1))) (x6 := -1) (by omega) (by omega) hx (Nat.le_refl _) (fun q => by omega)
      rw [show nI 4 = 4 from rfl] at p1 p2
      rw [p1, p2]
      simp only [bS]
      rw [p4, nI_pred]
      exact stepI rfl p3
  · simp only [bS, i10, i00, ↓reduceIte]
    exact stf1 h
theorem st_tell {C R : eMem} (h : Rel C R) (x1 : Int32) : Step (F_X9_tell x1 C) (F_X10_tell x1 R) := by
  obtain ⟨wSc, wGr, wRo, wUn, wPl, wHe, wSh, wRe, wFl, wLi, wBo, wTx, wTc, wz, i1, i2, i3, i4, i5, i6⟩ := id h.1; obtain ⟨c0, c1, c2, c3, c4, c5, c6, c7, c8, c9, c10, c11, c12, c13⟩ := id wSc; obtain ⟨⟨z0, y0⟩, ⟨f5, g5, y5, z5⟩, ⟨t6, y6, z6⟩, ⟨z7, y7⟩, ⟨z8, y8⟩, ⟨z9, y9⟩, ⟨z10, y10⟩, ⟨z11, y11⟩, ⟨z12, y12⟩, ⟨z13, y13⟩⟩ := id i1
  unfold F_X9_tell F_X10_tell
  rw [has_eq, isShow_eq, c9]
  rcases rngN x1 (R.1 1 9) _ z9 (by omega) with ⟨k, hk, rfl, e1, e2⟩ | ⟨e1, e2⟩ <;> rw [e1, e2]
  · simp only [bS, i10, ↓reduceIte]
    rw [show_0 k R (by omega), show_4 k R (by omega), eIn_s (n := 20) (by omega) (by omega), eG_tt, cl (by omega), (wSh k hk).1]
    simp only [bS]
    by_cases h4 : R.1 1 (298 + 10 * k) = 4
    · rw [if_pos h4, if_pos h4]
      obtain ⟨v, C2, hv, p1, p2, p3⟩ := shown_both h.1 hk
      rw [p1, p2]
      have h2 := p3.R h
      rcases hv with rfl | rfl
      · simp only [bS, i10, i00, ↓reduceIte]; exact stf5 h2
      · simp only [bS, i10, ↓reduceIte, eG_tt]
        obtain ⟨wSc, wGr, wRo, wUn, wPl, wHe, wSh, wRe, wFl, wLi, wBo, wTx, wTc, wz, i1, i2, i3, i4, i5, i6⟩ := id h2.1
        obtain ⟨c0, c1, c2, c3, c4, c5, c6, c7, c8, c9, c10, c11, c12, c13⟩ := id wSc
        obtain ⟨s0, s1, s2, s3, s4, s5, s6, s7, s8, s9⟩ := wSh k hk
        obtain ⟨x0, ⟨st, hst, x1⟩, x3, ⟨g, hg, x4⟩, x5, x7, x8⟩ := i4 k hk
        rw [s4, x4]
        rcases Nat.eq_zero_or_pos g with g0 | g0
        · subst g0
          rw [if_pos (by decide), if_pos (by decide)]
          exact stf4 h2
        · rw [if_neg (fun e => by have := (lt_lit (n := 1) rfl (by omega)).mp e; omega), if_neg (fun e => by have := (eq_lit (n := 0) rfl (by omega)).mp e; omega)]
          unfold F_X1_room
          rw [c10, z10]
          simp only [bS]
          by_cases hf : nP (R.1 1) = 90
          · rw [if_pos ((room_one y10).mpr hf), hf, if_pos (by decide)]
            exact stf2 h2
          · rw [if_neg (fun q => hf ((room_one y10).mp q)), if_neg (fun q => hf ((eq_lit (n := 90) rfl (by omega)).mp q))]
            rw [show nI g - 1 = nI (g - 1) from nI_sub (b := 1) g0, set_4 k _ R (by omega)]
            simp only [bS]
            rw [show_1 k _ (by omega)]
            unfold F_X8_reportShow
            simp only [bS]
            simp (disch := omega) only [eIn_s, eG_tt, cl, nI_add, bS, Ladd_0, Ladd_1, Ladd_2, Ladd_3, Ladd_4, Ladd_5, Ladd_6, Ladd_7, Ladd_8, Ladd_10, Ladd_12, Ladd_14, Ladd_20, Ladd_23, Ladd_24, Ladd_110, Ladd_200, Ladd_230, Ladd_290, Ladd_294, Ladd_298, Ladd_498, Ladd_1128, Ladd_1248, Ladd_1278, Ladd_1764, Rad_0, Rad_1, Rad_2, Rad_3, Rad_4, Rad_5, Rad_6, Rad_7, Rad_8, Rad_10, Rad_12, Rad_14, Rad_20, Rad_23, Rad_24, Rad_110, Rad_200, Rad_230, Rad_290, Rad_294, Rad_298, Rad_498, Rad_1128, Rad_1248, Rad_1278, Rad_1764, Mul_2, Mul_3, Mul_4, Mul_5, Mul_6, Mul_7, Mul_10, Mul_20, Mul_23, Mul_24, Mul_142]
            simp (disch := omega) only [eIq_ne, eIq_eq, upd_ne, upd_eq]
            have hr2 : Rel (eI C2 17 k (nI (g - 1))) (eI R 1 (302 + 10 * k) (nI (g - 1))) := by
              refine h2.now (by simp (disch := omega) only [eIq_ne, eIq_eq, upd_ne, upd_eq]) (fun p hp => by simp (disch := omega) only [eIq_ne, eIq_eq, upd_ne, upd_eq]) (by simp (disch := omega) only [eIq_ne, eIq_eq, upd_ne, upd_eq]) (by simp (disch := omega) only [eIq_ne, eIq_eq, upd_ne, upd_eq]) (fun p p1 p2 => by simp (disch := omega) only [eIq_ne, eIq_eq, upd_ne, upd_eq]) (h2.1.sh (fun p p1 p2 p3 p4 p5 p6 p7 p8 p9 p10 p11 p12 => by simp (disch := omega) only [eIq_ne, eIq_eq, upd_ne, upd_eq]) (fun j j1 j2 j3 => by simp (disch := omega) only [eIq_ne, eIq_eq, upd_ne, upd_eq]) (by refine ⟨?_, ?_, ?_, ?_, ?_, ?_, ?_, ?_, ?_, ?_, ?_, ?_, ?_, ?_⟩ <;> (simp (disch := omega) only [eIq_ne, eIq_eq, upd_ne, upd_eq] <;> first | assumption | (simp only [*]; done))) (wSh_mk (n := nS (R.1 1)) (by simp (disch := omega) only [eIq_ne, eIq_eq, upd_ne, upd_eq]; exact z9) (by omega) (fun i hi => ?_)) (wZ_cg wz (fun i hi => by simp (disch := omega) only [eIq_ne, eIq_eq, upd_ne, upd_eq]) (fun i hi => by simp (disch := omega) only [eIq_ne, eIq_eq, upd_ne, upd_eq]) (fun i hi => by simp (disch := omega) only [eIq_ne, eIq_eq, upd_ne, upd_eq]) (fun i hi => by simp (disch := omega) only [eIq_ne, eIq_eq, upd_ne, upd_eq]) (fun i hi => by simp (disch := omega) only [eIq_ne, eIq_eq, upd_ne, upd_eq]) (fun i hi => by simp (disch := omega) only [eIq_ne, eIq_eq, upd_ne, upd_eq]) (fun i hi => by simp (disch := omega) only [eIq_ne, eIq_eq, upd_ne, upd_eq])) (iSc_mk  (by simp (disch := omega) only [eIq_ne, eIq_eq, upd_ne, upd_eq]; exact z0) y0 (by simp (disch := omega) only [eIq_ne, eIq_eq, upd_ne, upd_eq]; exact z5) g5 y5 (by simp (disch := omega) only [eIq_ne, eIq_eq, upd_ne, upd_eq]; exact z6) y6 (by simp (disch := omega) only [eIq_ne, eIq_eq, upd_ne, upd_eq]; exact z7) y7 (by simp (disch := omega) only [eIq_ne, eIq_eq, upd_ne, upd_eq]; exact z8) y8 (by simp (disch := omega) only [eIq_ne, eIq_eq, upd_ne, upd_eq]; exact z9) y9 (by simp (disch := omega) only [eIq_ne, eIq_eq, upd_ne, upd_eq]; exact z10) y10 (by simp (disch := omega) only [eIq_ne, eIq_eq, upd_ne, upd_eq]; exact z11) y11 (by simp (disch := omega) only [eIq_ne, eIq_eq, upd_ne, upd_eq]; exact z12) y12 (by simp (disch := omega) only [eIq_ne, eIq_eq, upd_ne, upd_eq]; exact z13) y13) (iSh_mk (n := nS (R.1 1)) (by simp (disch := omega) only [eIq_ne, eIq_eq, upd_ne, upd_eq]; exact z9) (by omega) (fun i hi => ?_)) (nS_mono (n := nS (R.1 1)) (by simp (disch := omega) only [eIq_ne, eIq_eq, upd_ne, upd_eq]; exact z9) (by omega) (Nat.le_refl _)) (fun x hx => by simp (disch := omega) only [eIq_ne, eIq_eq, upd_ne, upd_eq]))
              · by_cases e : i = k
                · subst e; refine ⟨?_, ?_, ?_, ?_, ?_, ?_, ?_, ?_, ?_, ?_⟩ <;> simp (disch := omega) only [eIq_ne, eIq_eq, upd_ne, upd_eq] <;> assumption
                · simp (disch := omega) only [eIq_ne, eIq_eq, upd_ne, upd_eq]; exact wSh i hi
              · by_cases e : i = k
                · subst e; simp (disch := omega) only [eIq_ne, eIq_eq, upd_ne, upd_eq]; exact ⟨x0, ⟨st, hst, x1⟩, x3, ⟨g - 1, by omega, rfl⟩, x5, x7, x8⟩
                · simp (disch := omega) only [eIq_ne, eIq_eq, upd_ne, upd_eq]; exact i4 i hi
            have hh : hr ((eI R 1 (302 + 10 * k) (nI (g - 1))).1 1) = hr (R.1 1) := by unfold hr; simp (disch := omega) only [eIq_ne, eIq_eq, upd_ne, upd_eq]
            have hS : nS ((eI R 1 (302 + 10 * k) (nI (g - 1))).1 1) = nS (R.1 1) := by unfold nS; simp (disch := omega) only [eIq_ne, eIq_eq, upd_ne, upd_eq]
            have hP : nP ((eI R 1 (302 + 10 * k) (nI (g - 1))).1 1) = nP (R.1 1) := by unfold nP; simp (disch := omega) only [eIq_ne, eIq_eq, upd_ne, upd_eq]
            obtain ⟨C3, R3, p1, p2, p3, p4, -⟩ := comes_both hr2 hP (by omega) (k := 2) (st := st) (g := hr (R.1 1)) (b := 1) (kn := nI (hr (R.1 1))) (x6 := nI k) (by omega) (by omega) (Or.inr rfl) (by omega) (fun q => ⟨k, by omega, rfl, by simp (disch := omega) only [eIq_ne, eIq_eq, upd_ne, upd_eq]; rw [h4]; decide⟩)
            rw [show nI 2 = 2 from rfl] at p1 p2
            rw [s1, x1, c0, z0, p1, p2]
            simp only [bS]
            rw [p4, nI_pred]
            exact stepI rfl p3
    · rw [if_neg h4, if_neg h4]
      exact stf3 h
  · simp only [bS, i10, i00, ↓reduceIte]
    exact stf1 h
theorem st_fade {C R : eMem} (h : Rel C R) (x1 : Int32) : Step (F_X9_fade x1 C) (F_X10_fade x1 R) := by
  obtain ⟨wSc, wGr, wRo, wUn, wPl, wHe, wSh, wRe, wFl, wLi, wBo, wTx, wTc, wz, i1, i2, i3, i4, i5, i6⟩ := id h.1; obtain ⟨c0, c1, c2, c3, c4, c5, c6, c7, c8, c9, c10, c11, c12, c13⟩ := id wSc; obtain ⟨⟨z0, y0⟩, ⟨f5, g5, y5, z5⟩, ⟨t6, y6, z6⟩, ⟨z7, y7⟩, ⟨z8, y8⟩, ⟨z9, y9⟩, ⟨z10, y10⟩, ⟨z11, y11⟩, ⟨z12, y12⟩, ⟨z13, y13⟩⟩ := id i1
  unfold F_X9_fade F_X10_fade
  simp only [btw]
  rcases inL x1 1 30 1 30 rfl rfl with ⟨k, k1, hk, rfl, e⟩ | e <;> rw [e] <;> simp only [bS, i10, i00, ↓reduceIte]
  · refine stepI c5 ?_
    refine h.now (by simp (disch := omega) only [eIq_ne, eIq_eq, upd_ne, upd_eq]) (fun p hp => by simp (disch := omega) only [eIq_ne, eIq_eq, upd_ne, upd_eq]) (by simp (disch := omega) only [eIq_ne, eIq_eq, upd_ne, upd_eq]) (by simp (disch := omega) only [eIq_ne, eIq_eq, upd_ne, upd_eq]) (fun p p1 p2 => by simp (disch := omega) only [eIq_ne, eIq_eq, upd_ne, upd_eq]) (h.1.scal (fun p p1 p2 => by simp (disch := omega) only [eIq_ne, eIq_eq, upd_ne, upd_eq]) (fun j hj => by simp (disch := omega) only [eIq_ne, eIq_eq, upd_ne, upd_eq]) (by refine ⟨?_, ?_, ?_, ?_, ?_, ?_, ?_, ?_, ?_, ?_, ?_, ?_, ?_, ?_⟩ <;> (simp (disch := omega) only [eIq_ne, eIq_eq, upd_ne, upd_eq] <;> first | assumption | (simp only [*]; done))) ?_)
    exact (iSc_mk (h := hr (R.1 1)) (f := k) (t := t6) (a := nR (R.1 1)) (b := nU (R.1 1)) (c := nS (R.1 1)) (d := nP (R.1 1)) (e := nT (R.1 1)) (g := nF (R.1 1)) (i := nL (R.1 1)) (by simp (disch := omega) only [eIq_ne, eIq_eq, upd_ne, upd_eq]; exact z0) y0 (by simp (disch := omega) only [eIq_ne, eIq_eq, upd_ne, upd_eq]) k1 hk (by simp (disch := omega) only [eIq_ne, eIq_eq, upd_ne, upd_eq]; exact z6) y6 (by simp (disch := omega) only [eIq_ne, eIq_eq, upd_ne, upd_eq]; exact z7) y7 (by simp (disch := omega) only [eIq_ne, eIq_eq, upd_ne, upd_eq]; exact z8) y8 (by simp (disch := omega) only [eIq_ne, eIq_eq, upd_ne, upd_eq]; exact z9) y9 (by simp (disch := omega) only [eIq_ne, eIq_eq, upd_ne, upd_eq]; exact z10) y10 (by simp (disch := omega) only [eIq_ne, eIq_eq, upd_ne, upd_eq]; exact z11) y11 (by simp (disch := omega) only [eIq_ne, eIq_eq, upd_ne, upd_eq]; exact z12) y12 (by simp (disch := omega) only [eIq_ne, eIq_eq, upd_ne, upd_eq]; exact z13) y13)
  · exact stf1 h
