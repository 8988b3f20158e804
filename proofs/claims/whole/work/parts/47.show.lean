/-! show -/
theorem zr_loop (K : Int32 → Int32 → Int32 → Int32 → eMem → Option (Int32 × eMem)) (v1 v2 v3 : Int32) {n : Nat} (hn : n < 20) : ∀ m j, j + m = 10 → ∀ f, m < f → ∀ M : eMem, ∃ M2 : eMem, F_X10_show__101 K f v1 v2 v3 (nI n) (nI j) M = K v1 v2 v3 (nI n) M2 ∧ (∀ p, p ≠ 1 → M2.1 p = M.1 p) ∧ M2.2 = M.2 ∧ ∀ i, M2.1 1 i = if 298 + 10 * n + j ≤ i ∧ i < 308 + 10 * n then 0 else M.1 1 i := by
  intro m
  induction m with
  | zero =>
    intro j hj f hf M
    obtain ⟨f, rfl⟩ : ∃ x, f = x + 1 := ⟨f - 1, by omega⟩
    rw [F_X10_show__101, if_neg (fun q => by have := (lt_lit (n := 10) rfl (by omega)).mp q; omega)]
    exact ⟨M, rfl, fun _ _ => rfl, rfl, fun i => by rw [if_neg (by omega)]⟩
  | succ m ih =>
    intro j hj f hf M
    obtain ⟨f, rfl⟩ : ∃ x, f = x + 1 := ⟨f - 1, by omega⟩
    rw [F_X10_show__101, if_pos ((lt_lit (n := 10) rfl (by omega)).mpr (by omega))]
    unfold F_X10_setShow
    simp (disch := omega) only [eIn_s, eG_tt, cl, nI_add, bS, Ladd_0, Ladd_1, Ladd_2, Ladd_3, Ladd_4, Ladd_5, Ladd_6, Ladd_7, Ladd_8, Ladd_10, Ladd_12, Ladd_14, Ladd_20, Ladd_23, Ladd_24, Ladd_110, Ladd_200, Ladd_230, Ladd_290, Ladd_294, Ladd_298, Ladd_498, Ladd_1128, Ladd_1248, Ladd_1278, Ladd_1764, Rad_0, Rad_1, Rad_2, Rad_3, Rad_4, Rad_5, Rad_6, Rad_7, Rad_8, Rad_10, Rad_12, Rad_14, Rad_20, Rad_23, Rad_24, Rad_110, Rad_200, Rad_230, Rad_290, Rad_294, Rad_298, Rad_498, Rad_1128, Rad_1248, Rad_1278, Rad_1764, Mul_2, Mul_3, Mul_4, Mul_5, Mul_6, Mul_7, Mul_10, Mul_20, Mul_23, Mul_24, Mul_142]
    obtain ⟨M2, e1, e2, e3, e4⟩ := ih (j + 1) (by omega) f (by omega) (eI M 1 (298 + 10 * n + j) 0)
    refine ⟨M2, e1, fun p hp => by rw [e2 p hp]; simp (disch := omega) only [eIq_ne, eIq_eq, upd_ne, upd_eq], e3, fun i => ?_⟩
    rw [e4 i]
    simp (disch := omega) only [eIq_ne, eIq_eq, upd_ne, upd_eq]
    rw [upd_at]
    by_cases q : i = 298 + 10 * n + j
    · subst q; rw [if_pos rfl, ite_self, if_pos (by omega)]
    · rw [if_neg q]
      by_cases q2 : 298 + 10 * n + j ≤ i ∧ i < 308 + 10 * n
      · rw [if_pos q2, if_pos (by omega)]
      · rw [if_neg q2, if_neg (by omega)]
theorem in_lt {q : Nat} (m : Nat) (M : Int32) (hm : M.toInt = m) (hq : q < 2147483648) : F_X10_in (nI q) 0 M = if M < nI q then some 0 else some 1 := by
  unfold F_X10_in
  rw [if_neg (nI_pos hq)]
/-- are the numbers of a show in order? -/
theorem num_both {R : eMem} (k p q : Nat) (hk : k < 7) (hp : p < 2147483648) (hq : q < 2147483648) (hu : F_X10_isUnit (nI p) R = some 0 ∨ (F_X10_isUnit (nI p) R = some 1 ∧ p < 12)) : F_X10_areNumbers (nI k) (nI p) (nI q) R = if (eKA.getD 2 []).getD k 0 < nI p then some 0 else if (eKA.getD 3 []).getD k 0 < nI q then some 0 else if k = 3 ∧ nI q < nI p then some 0 else if k = 6 ∧ F_X10_isUnit (nI p) R = some 0 then some 0 else some 1 := by
  unfold F_X10_areNumbers
  rcases (show k = 0 ∨ k = 1 ∨ k = 2 ∨ k = 3 ∨ k = 4 ∨ k = 5 ∨ k = 6 by omega) with rfl | rfl | rfl | rfl | rfl | rfl | rfl
  · simp only [show (nI 0 = 3) = False by decide, show (nI 0 = 4) = False by decide, show (nI 0 = 5) = False by decide, show (nI 0 = 6) = False by decide, show (eKA.getD 2 []).getD 0 0 = 9 from rfl, show (eKA.getD 3 []).getD 0 0 = 9 from rfl, show ((0 : Nat) = 3) = False by decide, show ((0 : Nat) = 6) = False by decide, ↓reduceIte, false_and, true_and]
    rw [in_lt 9 9 rfl hp, in_lt 9 9 rfl hq]
    by_cases e1 : (9 : Int32) < nI p <;> by_cases e2 : (9 : Int32) < nI q <;> simp [e1, e2]
  · simp only [show (nI 1 = 3) = False by decide, show (nI 1 = 4) = False by decide, show (nI 1 = 5) = False by decide, show (nI 1 = 6) = False by decide, show (eKA.getD 2 []).getD 1 0 = 9 from rfl, show (eKA.getD 3 []).getD 1 0 = 9 from rfl, show ((1 : Nat) = 3) = False by decide, show ((1 : Nat) = 6) = False by decide, ↓reduceIte, false_and, true_and]
    rw [in_lt 9 9 rfl hp, in_lt 9 9 rfl hq]
    by_cases e1 : (9 : Int32) < nI p <;> by_cases e2 : (9 : Int32) < nI q <;> simp [e1, e2]
  · simp only [show (nI 2 = 3) = False by decide, show (nI 2 = 4) = False by decide, show (nI 2 = 5) = False by decide, show (nI 2 = 6) = False by decide, show (eKA.getD 2 []).getD 2 0 = 9 from rfl, show (eKA.getD 3 []).getD 2 0 = 9 from rfl, show ((2 : Nat) = 3) = False by decide, show ((2 : Nat) = 6) = False by decide, ↓reduceIte, false_and, true_and]
    rw [in_lt 9 9 rfl hp, in_lt 9 9 rfl hq]
    by_cases e1 : (9 : Int32) < nI p <;> by_cases e2 : (9 : Int32) < nI q <;> simp [e1, e2]
  · simp only [show (nI 3 = 3) = True by decide, show (nI 3 = 4) = False by decide, show (nI 3 = 5) = False by decide, show (nI 3 = 6) = False by decide, show (eKA.getD 2 []).getD 3 0 = 23 from rfl, show (eKA.getD 3 []).getD 3 0 = 23 from rfl, show ((3 : Nat) = 3) = True by decide, show ((3 : Nat) = 6) = False by decide, ↓reduceIte, false_and, true_and]
    rw [in_lt 23 23 rfl hp, in_lt 23 23 rfl hq]
    by_cases e : nI q < nI p
    · simp only [if_pos e, ite_self]
    · by_cases e1 : (23 : Int32) < nI p <;> by_cases e2 : (23 : Int32) < nI q <;> simp [e, e1, e2]
  · simp only [show (nI 4 = 3) = False by decide, show (nI 4 = 4) = True by decide, show (nI 4 = 5) = False by decide, show (nI 4 = 6) = False by decide, show (eKA.getD 2 []).getD 4 0 = 4 from rfl, show (eKA.getD 3 []).getD 4 0 = 9 from rfl, show ((4 : Nat) = 3) = False by decide, show ((4 : Nat) = 6) = False by decide, ↓reduceIte, false_and, true_and]
    rw [in_lt 4 4 rfl hp, in_lt 9 9 rfl hq]
    by_cases e1 : (4 : Int32) < nI p <;> by_cases e2 : (9 : Int32) < nI q <;> simp [e1, e2]
  · simp only [show (nI 5 = 3) = False by decide, show (nI 5 = 4) = False by decide, show (nI 5 = 5) = True by decide, show (nI 5 = 6) = False by decide, show (eKA.getD 2 []).getD 5 0 = 4 from rfl, show (eKA.getD 3 []).getD 5 0 = 99 from rfl, show ((5 : Nat) = 3) = False by decide, show ((5 : Nat) = 6) = False by decide, ↓reduceIte, false_and, true_and]
    rw [in_lt 4 4 rfl hp, in_lt 99 99 rfl hq]
    by_cases e1 : (4 : Int32) < nI p <;> by_cases e2 : (99 : Int32) < nI q <;> simp [e1, e2]
  · simp only [show (nI 6 = 3) = False by decide, show (nI 6 = 4) = False by decide, show (nI 6 = 5) = False by decide, show (nI 6 = 6) = True by decide, show (eKA.getD 2 []).getD 6 0 = 11 from rfl, show (eKA.getD 3 []).getD 6 0 = 9 from rfl, show ((6 : Nat) = 3) = False by decide, show ((6 : Nat) = 6) = True by decide, ↓reduceIte, false_and, true_and]
    rw [in_lt 9 9 rfl hq]
    by_cases e2 : (9 : Int32) < nI q
    · rcases hu with hu | ⟨hu, -⟩ <;> simp [hu, e2]
    · rcases hu with hu | ⟨hu, hl⟩
      · simp [hu]
      · have e1 : ¬ (11 : Int32) < nI p := fun e => by have := (gt_lit (n := 11) rfl hp).mp e; omega
        simp [hu, e1, e2]
theorem add_show {C R : eMem} (h : Rel C R) {n : Nat} (hn : nS (R.1 1) = n) (k st ce p q : Nat) (hn2 : n < 20) (hk : k < 7) (hst : st < 4) (hp : p ≤ 23) (hp2 : p ≤ 11 ∨ k = 3) (hq : q ≤ 99) {K : Int32 → Int32 → Int32 → Int32 → eMem → Option (Int32 × eMem)} {v2 v3 : Int32}
    (hK : K = fun v1 v2 v3 v4 M => (F_X10_setShow v4 0 v1 M).bind fun q11 => (F_X10_setShow v4 1 (v2 / 100) q11).bind fun q12 => (F_X10_setShow v4 2 (v2 - v2 / 100 * 100) q12).bind fun q13 => (F_X10_setShow v4 3 (v3 / 100) q13).bind fun q14 => (F_X10_setShow v4 4 (v3 - v3 / 100 * 100) q14).bind fun q15 => some (v4, q15))
    (e1 : v2 / 100 = nI st) (e2 : v2 - v2 / 100 * 100 = nI ce) (e3 : v3 / 100 = nI p) (e4 : v3 - v3 / 100 * 100 = nI q) :
    Step ((F_X5_add (nI k) (nI st) (nI ce) (nI p) (nI q) C).bind fun q8 => some (q8.1, q8.2)) (F_X10_show__101 K eFuel (nI k) v2 v3 (nI n) 0 (eI R 1 9 (nI n + 1))) := by
  obtain ⟨wSc, wGr, wRo, wUn, wPl, wHe, wSh, wRe, wFl, wLi, wBo, wTx, wTc, wz, i1, i2, i3, i4, i5, i6⟩ := id h.1; obtain ⟨c0, c1, c2, c3, c4, c5, c6, c7, c8, c9, c10, c11, c12, c13⟩ := id wSc; obtain ⟨⟨z0, y0⟩, ⟨f5, g5, y5, z5⟩, ⟨t6, y6, z6⟩, ⟨z7, y7⟩, ⟨z8, y8⟩, ⟨z9, y9⟩, ⟨z10, y10⟩, ⟨z11, y11⟩, ⟨z12, y12⟩, ⟨z13, y13⟩⟩ := id i1
  rw [hn] at z9 y9
  rw [e1] at e2
  rw [e3] at e4
  obtain ⟨M2, p1, p2, p3, p4⟩ := zr_loop K (nI k) v2 v3 hn2 10 0 (by omega) eFuel (by unfold eFuel; omega) (eI R 1 9 (nI n + 1))
  rw [show nI 0 = 0 from rfl] at p1
  rw [p1, hK]
  simp only [e1, e2, e3, e4]
  simp (disch := omega) only [set_0, set_1, set_2, set_3, set_4, bS]
  unfold F_X5_add
  rw [c9, z9, isIn_y (n := 20) rfl (by omega)]
  simp only [bS, i10, i00, ↓reduceIte]
  simp (disch := omega) only [eIn_s, eG_tt, cl, nI_add, bS, Ladd_0, Ladd_1, Ladd_2, Ladd_3, Ladd_4, Ladd_5, Ladd_6, Ladd_7, Ladd_8, Ladd_10, Ladd_12, Ladd_14, Ladd_20, Ladd_23, Ladd_24, Ladd_110, Ladd_200, Ladd_230, Ladd_290, Ladd_294, Ladd_298, Ladd_498, Ladd_1128, Ladd_1248, Ladd_1278, Ladd_1764, Rad_0, Rad_1, Rad_2, Rad_3, Rad_4, Rad_5, Rad_6, Rad_7, Rad_8, Rad_10, Rad_12, Rad_14, Rad_20, Rad_23, Rad_24, Rad_110, Rad_200, Rad_230, Rad_290, Rad_294, Rad_298, Rad_498, Rad_1128, Rad_1248, Rad_1278, Rad_1764, Mul_2, Mul_3, Mul_4, Mul_5, Mul_6, Mul_7, Mul_10, Mul_20, Mul_23, Mul_24, Mul_142]
  have hM : ∀ i, (i < 298 + 10 * n ∨ 308 + 10 * n ≤ i) → M2.1 1 i = upd (R.1 1) 9 (nI (n + 1)) i := fun i hi => by
    rw [p4 i, if_neg (by omega)]
    simp (disch := omega) only [eIq_ne, eIq_eq, upd_ne, upd_eq]
    rw [Rad_1]
  have hZ : ∀ i, 298 + 10 * n ≤ i → i < 308 + 10 * n → M2.1 1 i = 0 := fun i h1 h2 => by rw [p4 i, if_pos (by omega)]
  have hP : ∀ p, p ≠ 1 → M2.1 p = R.1 p := fun p hp => by rw [p2 p hp]; simp (disch := omega) only [eIq_ne, eIq_eq, upd_ne, upd_eq]
  have h9 : M2.1 1 9 = nI (n + 1) := by rw [hM 9 (by omega)]; simp (disch := omega) only [eIq_ne, eIq_eq, upd_ne, upd_eq]
  have hL : ∀ i, i ≠ 9 → (i < 298 + 10 * n ∨ 308 + 10 * n ≤ i) → M2.1 1 i = R.1 1 i := fun i h1 h2 => by rw [hM i h2]; simp (disch := omega) only [eIq_ne, eIq_eq, upd_ne, upd_eq]
  have hb : vp_nar .boolean (0 : Int32) = 0 := rfl
  rw [hb]
  refine stepI rfl ?_
  refine h.now (by simp (disch := omega) only [eIq_ne, eIq_eq, upd_ne, upd_eq]) (fun p hp => by simp (disch := omega) only [eIq_ne, eIq_eq, upd_ne, upd_eq]) (by simp (disch := omega) only [eIq_ne, eIq_eq, upd_ne, upd_eq]; rw [hP 0 (by decide)]) (by simp (disch := omega) only [eIq_ne, eIq_eq, upd_ne, upd_eq]; rw [hP 0 (by decide)]) (fun p p1 p2 => by simp (disch := omega) only [eIq_ne, eIq_eq, upd_ne, upd_eq]; exact hP p (by omega)) (h.1.sh (fun p p1 p2 p3 p4 p5 p6 p7 p8 p9 p10 p11 p12 => by simp (disch := omega) only [eIq_ne, eIq_eq, upd_ne, upd_eq]) (fun j j1 j2 j3 => by simp (disch := omega) only [eIq_ne, eIq_eq, upd_ne, upd_eq]; exact hL j (by omega) (by omega)) ?_ (wSh_mk (n := n + 1) (by simp (disch := omega) only [eIq_ne, eIq_eq, upd_ne, upd_eq]; exact h9) (by omega) (fun i hi => ?_)) ?_ ?_ (iSh_mk (n := n + 1) (by simp (disch := omega) only [eIq_ne, eIq_eq, upd_ne, upd_eq]; exact h9) (by omega) (fun i hi => ?_)) (nS_mono (n := n + 1) (by simp (disch := omega) only [eIq_ne, eIq_eq, upd_ne, upd_eq]; exact h9) (by omega) (by omega)) (fun x hx => by simp (disch := omega) only [eIq_ne, eIq_eq, upd_ne, upd_eq]; exact hL _ (by omega) (by omega)))
  · have q : ∀ i, i < 14 → i ≠ 9 → M2.1 1 i = R.1 1 i := fun i h1 h2 => hL i h2 (by omega)
    refine ⟨?_, ?_, ?_, ?_, ?_, ?_, ?_, ?_, ?_, ?_, ?_, ?_, ?_, ?_⟩ <;> simp (disch := omega) only [eIq_ne, eIq_eq, upd_ne, upd_eq] <;> first | (rw [q _ (by omega) (by omega)]; assumption) | (rw [h9])
  · by_cases e : i = n
    · subst e
      refine ⟨?_, ?_, ?_, ?_, ?_, ?_, ?_, ?_, ?_, ?_⟩ <;> simp (disch := omega) only [eIq_ne, eIq_eq, upd_ne, upd_eq] <;> (rw [hZ _ (by omega) (by omega)])
    · obtain ⟨s0, s1, s2, s3, s4, s5, s6, s7, s8, s9⟩ := wSh i (by omega)
      refine ⟨?_, ?_, ?_, ?_, ?_, ?_, ?_, ?_, ?_, ?_⟩ <;> simp (disch := omega) only [eIq_ne, eIq_eq, upd_ne, upd_eq] <;> (rw [hL _ (by omega) (by omega)]; assumption)
  · refine ⟨fun i hi => ?_, fun i hi => ?_, fun i hi => ?_, fun i hi => ?_, fun i hi => ?_, fun i hi => ?_, fun i hi => ?_⟩
    · simp (disch := omega) only [eIq_ne, eIq_eq, upd_ne, upd_eq]
      by_cases e : i = n
      · subst e; simp (disch := omega) only [eIq_ne, eIq_eq, upd_ne, upd_eq]; exact Or.inl trivial
      · simp (disch := omega) only [eIq_ne, eIq_eq, upd_ne, upd_eq]; exact wz.1 i hi
    · simp (disch := omega) only [eIq_ne, eIq_eq, upd_ne, upd_eq]
      by_cases e : i = n
      · subst e; simp (disch := omega) only [eIq_ne, eIq_eq, upd_ne, upd_eq]; exact Or.inl trivial
      · simp (disch := omega) only [eIq_ne, eIq_eq, upd_ne, upd_eq]; exact wz.2.1 i hi
    · simp (disch := omega) only [eIq_ne, eIq_eq, upd_ne, upd_eq]; exact wz.2.2.1 i hi
    · simp (disch := omega) only [eIq_ne, eIq_eq, upd_ne, upd_eq]; exact wz.2.2.2.1 i hi
    · simp (disch := omega) only [eIq_ne, eIq_eq, upd_ne, upd_eq]; exact wz.2.2.2.2.1 i hi
    · simp (disch := omega) only [eIq_ne, eIq_eq, upd_ne, upd_eq]; exact wz.2.2.2.2.2.1 i hi
    · simp (disch := omega) only [eIq_ne, eIq_eq, upd_ne, upd_eq]; exact wz.2.2.2.2.2.2 i hi
  · have q : ∀ i, i < 14 → i ≠ 9 → ∀ x, R.1 1 i = x → M2.1 1 i = x := fun i h1 h2 x hx => by rw [hL i h2 (by omega)]; exact hx
    exact iSc_mk (h := hr (R.1 1)) (f := f5) (t := t6) (a := nR (R.1 1)) (b := nU (R.1 1)) (c := n + 1) (d := nP (R.1 1)) (e := nT (R.1 1)) (g := nF (R.1 1)) (i := nL (R.1 1)) (by simp (disch := omega) only [eIq_ne, eIq_eq, upd_ne, upd_eq]; exact q _ (by omega) (by omega) _ z0) y0 (by simp (disch := omega) only [eIq_ne, eIq_eq, upd_ne, upd_eq]; exact q _ (by omega) (by omega) _ z5) g5 y5 (by simp (disch := omega) only [eIq_ne, eIq_eq, upd_ne, upd_eq]; exact q _ (by omega) (by omega) _ z6) y6 (by simp (disch := omega) only [eIq_ne, eIq_eq, upd_ne, upd_eq]; exact q _ (by omega) (by omega) _ z7) y7 (by simp (disch := omega) only [eIq_ne, eIq_eq, upd_ne, upd_eq]; exact q _ (by omega) (by omega) _ z8) y8 (by simp (disch := omega) only [eIq_ne, eIq_eq, upd_ne, upd_eq]; exact h9) (by omega) (by simp (disch := omega) only [eIq_ne, eIq_eq, upd_ne, upd_eq]; exact q _ (by omega) (by omega) _ z10) y10 (by simp (disch := omega) only [eIq_ne, eIq_eq, upd_ne, upd_eq]; exact q _ (by omega) (by omega) _ z11) y11 (by simp (disch := omega) only [eIq_ne, eIq_eq, upd_ne, upd_eq]; exact q _ (by omega) (by omega) _ z12) y12 (by simp (disch := omega) only [eIq_ne, eIq_eq, upd_ne, upd_eq]; exact q _ (by omega) (by omega) _ z13) y13
  · by_cases e : i = n
    · subst e
      simp (disch := omega) only [eIq_ne, eIq_eq, upd_ne, upd_eq]
      rw [hZ _ (by omega) (by omega), hZ _ (by omega) (by omega), hZ _ (by omega) (by omega)]
      exact ⟨⟨k, by omega, rfl⟩, ⟨st, by omega, rfl⟩, ⟨p, hp, rfl, hp2.imp id (fun e => by rw [e]; rfl)⟩, ⟨q, hq, rfl⟩, Or.inl rfl, Or.inl rfl, ⟨0, by omega, rfl⟩⟩
    · simp (disch := omega) only [eIq_ne, eIq_eq, upd_ne, upd_eq]
      rw [hL _ (by omega) (by omega), hL _ (by omega) (by omega), hL _ (by omega) (by omega), hL _ (by omega) (by omega), hL _ (by omega) (by omega), hL _ (by omega) (by omega), hL _ (by omega) (by omega)]
      exact i4 i (by omega)
theorem tb2 (k : Nat) (hk : k < 7) : ∃ m, m ≤ 23 ∧ (m ≤ 11 ∨ k = 3) ∧ (eKA.getD 2 []).getD k 0 = nI m := by
  rcases (show k = 0 ∨ k = 1 ∨ k = 2 ∨ k = 3 ∨ k = 4 ∨ k = 5 ∨ k = 6 by omega) with rfl | rfl | rfl | rfl | rfl | rfl | rfl
  · exact ⟨9, by omega, Or.inl (by omega), rfl⟩
  · exact ⟨9, by omega, Or.inl (by omega), rfl⟩
  · exact ⟨9, by omega, Or.inl (by omega), rfl⟩
  · exact ⟨23, by omega, Or.inr rfl, rfl⟩
  · exact ⟨4, by omega, Or.inl (by omega), rfl⟩
  · exact ⟨4, by omega, Or.inl (by omega), rfl⟩
  · exact ⟨11, by omega, Or.inl (by omega), rfl⟩
theorem st_show {C R : eMem} (h : Rel C R) (x1 x2 x3 : Int32) : Step (F_X9_show x1 x2 x3 C) (F_X10_show_ x1 x2 x3 R) := by
  obtain ⟨wSc, wGr, wRo, wUn, wPl, wHe, wSh, wRe, wFl, wLi, wBo, wTx, wTc, wz, i1, i2, i3, i4, i5, i6⟩ := id h.1; obtain ⟨c0, c1, c2, c3, c4, c5, c6, c7, c8, c9, c10, c11, c12, c13⟩ := id wSc; obtain ⟨⟨z0, y0⟩, ⟨f5, g5, y5, z5⟩, ⟨t6, y6, z6⟩, ⟨z7, y7⟩, ⟨z8, y8⟩, ⟨z9, y9⟩, ⟨z10, y10⟩, ⟨z11, y11⟩, ⟨z12, y12⟩, ⟨z13, y13⟩⟩ := id i1
  unfold F_X9_show F_X10_show_
  rw [isStory_eq, isCell_eq]
  rcases rng x1 7 6 7 rfl rfl with ⟨k, hk, rfl, e1, e2⟩ | ⟨e1, e2⟩ <;> rw [e1, e2]
  · simp only [bS, i10, ↓reduceIte]
    by_cases hx2 : x2 < 0
    · rw [if_pos hx2, if_pos hx2]; exact stf1 h
    · rw [if_neg hx2, if_neg hx2]
      obtain ⟨a, ha, rfl⟩ := nI_of hx2
      obtain ⟨d1, d2⟩ := n100 a ha
      rcases rng (nI a / 100) 4 3 4 rfl rfl with ⟨st, hst, est, f1, f2⟩ | ⟨f1, f2⟩ <;> rw [f1, f2]
      · simp only [bS, i10, ↓reduceIte]
        rcases rng (nI a - nI a / 100 * 100) 96 95 96 rfl rfl with ⟨ce, hce, ece, g1, g2⟩ | ⟨g1, g2⟩ <;> rw [g1, g2]
        · simp only [bS, i10, ↓reduceIte]
          by_cases hx3 : x3 < 0
          · rw [if_pos hx3, if_pos hx3]; exact stf1 h
          · rw [if_neg hx3, if_neg hx3]
            obtain ⟨b, hb, rfl⟩ := nI_of hx3
            obtain ⟨b1, b2⟩ := n100 b hb
            have hu : F_X10_isUnit (nI (b / 100)) R = some 0 ∧ F_X9_isIn (nI (b / 100)) (R.1 1 8) = some 0 ∨ (F_X10_isUnit (nI (b / 100)) R = some 1 ∧ b / 100 < 12 ∧ F_X9_isIn (nI (b / 100)) (R.1 1 8) = some 1) := by
              rw [isUnit_eq]
              rcases rngN (nI (b / 100)) (R.1 1 8) _ z8 (by omega) with ⟨u, hu, eu, u1, u2⟩ | ⟨u1, u2⟩
              · have := (eqN (by omega) (by omega)).mp eu
                exact Or.inr ⟨u2, by omega, u1⟩
              · exact Or.inl ⟨u2, u1⟩
            rw [b2, b1, num_both k (b / 100) (b - b / 100 * 100) hk (by omega) (by omega) (by rcases hu with hu | hu; exact Or.inl hu.1; exact Or.inr ⟨hu.1, hu.2.1⟩)]
            rw [eIn_s (k := k) (n := 7) hk (by omega), eG_tt, eG_tt, cl (show k < 2147483648 by omega)]
            by_cases q1 : (eKA.getD 2 []).getD k 0 < nI (b / 100)
            · rw [if_pos q1, if_pos q1]; simp only [bS, i10, i00, ↓reduceIte]; exact stf1 h
            · rw [if_neg q1, if_neg q1]
              by_cases q2 : (eKA.getD 3 []).getD k 0 < nI (b - b / 100 * 100)
              · rw [if_pos q2, if_pos q2]; simp only [bS, i10, i00, ↓reduceIte]; exact stf1 h
              · rw [if_neg q2, if_neg q2]
                have hlit : ∀ g : Nat, g < 7 → ∀ m : Int32, m = nI g → (nI k = m ↔ k = g) := fun g hg m hm => by rw [hm]; exact eqN (by omega) (by omega)
                have hp99 : b / 100 ≤ 23 ∧ (b / 100 ≤ 11 ∨ k = 3) := by
                  obtain ⟨m, m1, m3, m2⟩ := tb2 k hk
                  rw [m2] at q1
                  by_cases hc : b / 100 ≤ m
                  · exact ⟨by omega, m3.imp (fun q => by omega) id⟩
                  · exact absurd (nI_lt (show m < b / 100 by omega) (by omega)) q1
                have hgo : Step (F_X9_show_151 (nI k) (nI a / 100) (nI a - nI a / 100 * 100) (nI (b / 100)) (nI (b - b / 100 * 100)) C)
                    (if R.1 1 9 = 20 then (F_X10_finding 2 R).bind fun q16 => some (q16.1, q16.2) else F_X10_show__101 (fun v1 v2 v3 v4 M => (F_X10_setShow v4 0 v1 M).bind fun q11 => (F_X10_setShow v4 1 (v2 / 100) q11).bind fun q12 => (F_X10_setShow v4 2 (v2 - v2 / 100 * 100) q12).bind fun q13 => (F_X10_setShow v4 3 (v3 / 100) q13).bind fun q14 => (F_X10_setShow v4 4 (v3 - v3 / 100 * 100) q14).bind fun q15 => some (v4, q15)) eFuel (nI k) (nI a) (nI b) (R.1 1 9) 0 (eI R 1 9 (R.1 1 9 + 1))) := by
                  unfold F_X9_show_151
                  rw [c9, z9]
                  by_cases hf : nS (R.1 1) = 20
                  · rw [hf, if_neg (by decide), if_pos (by decide)]
                    exact stf2 h
                  · rw [if_pos ((lt_lit (n := 20) rfl (by omega)).mpr (by omega)), if_neg (fun q => hf ((eq_lit (n := 20) rfl (by omega)).mp q)), ece, est]
                    exact add_show h rfl k st ce (b / 100) (b - b / 100 * 100) (by omega) hk hst hp99.1 hp99.2 (by omega) rfl est ece b1 b2
                by_cases k3 : k = 3
                · subst k3
                  rw [if_pos (by decide)]
                  by_cases q3 : nI (b - b / 100 * 100) < nI (b / 100)
                  · rw [if_pos q3, if_pos ⟨rfl, q3⟩]; simp only [bS, i10, i00, ↓reduceIte]; exact stf1 h
                  · rw [if_neg q3, if_neg (fun e => q3 e.2), if_neg (fun e => by omega)]
                    simp only [bS, i10, ↓reduceIte]
                    unfold F_X9_show_120
                    rw [if_neg (by decide)]
                    exact hgo
                · rw [if_neg (fun e => k3 ((hlit 3 (by omega) 3 rfl).mp e)), if_neg (fun e => k3 e.1)]
                  unfold F_X9_show_120
                  by_cases k6 : k = 6
                  · subst k6
                    rw [if_pos (by decide), c8]
                    rcases hu with ⟨u1, u2⟩ | ⟨u1, -, u2⟩
                    · rw [u2, if_pos ⟨rfl, u1⟩]; simp only [bS, i10, i00, ↓reduceIte]; exact stf1 h
                    · rw [u2, if_neg (fun e => by rw [u1] at e; exact absurd e.2 (by decide))]
                      simp only [bS, i10, ↓reduceIte]
                      exact hgo
                  · rw [if_neg (fun e => k6 ((hlit 6 (by omega) 6 rfl).mp e)), if_neg (fun e => k6 e.1)]
                    simp only [bS, i10, ↓reduceIte]
                    exact hgo
        · simp only [bS, i10, i00, ↓reduceIte]
          split <;> exact stf1 h
      · simp only [bS, i10, i00, ↓reduceIte]
        split <;> exact stf1 h
  · simp only [bS, i10, i00, ↓reduceIte]
    exact stf1 h
