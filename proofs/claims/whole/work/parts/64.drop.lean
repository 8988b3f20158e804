/-! wipe, drop -/
theorem st_wipe {C R : eMem} (h : Rel C R) : Step (F_X9_wipe C) (F_X10_wipe R) := by
  obtain ⟨n, n1, t1, t2, t3⟩ := h.2.2.1
  unfold F_X9_wipe F_X10_wipe
  refine stepI (t1.trans t2.symm) (h.tape (fun p p1 p2 => by simp (disch := omega) only [eIq_ne, eIq_eq, upd_ne, upd_eq]) (fun p p1 p2 => by simp (disch := omega) only [eIq_ne, eIq_eq, upd_ne, upd_eq]) (by simp (disch := omega) only [eIq_ne, eIq_eq, upd_ne, upd_eq]) ⟨0, by omega, by simp (disch := omega) only [eIq_ne, eIq_eq, upd_ne, upd_eq]; rfl, by simp (disch := omega) only [eIq_ne, eIq_eq, upd_ne, upd_eq]; rfl, fun i hi => by omega⟩)
theorem st_drop {C R : eMem} (h : Rel C R) (x1 : Int32) : Step (F_X9_drop x1 C) (F_X10_drop x1 R) := by
  obtain ⟨wSc, wGr, wRo, wUn, wPl, wHe, wSh, wRe, wFl, wLi, wBo, wTx, wTc, wz, i1, i2, i3, i4, i5, i6⟩ := id h.1; obtain ⟨c0, c1, c2, c3, c4, c5, c6, c7, c8, c9, c10, c11, c12, c13⟩ := id wSc; obtain ⟨⟨z0, y0⟩, ⟨f5, g5, y5, z5⟩, ⟨t6, y6, z6⟩, ⟨z7, y7⟩, ⟨z8, y8⟩, ⟨z9, y9⟩, ⟨z10, y10⟩, ⟨z11, y11⟩, ⟨z12, y12⟩, ⟨z13, y13⟩⟩ := id i1
  unfold F_X9_drop F_X10_drop
  rw [c11]
  rcases rngN x1 (R.1 1 11) _ z11 (by omega) with ⟨k, hk, rfl, e1, e2⟩ | ⟨e1, e2⟩ <;> rw [e1, e2]
  · simp only [bS, i10, ↓reduceIte]
    obtain ⟨w1, w2, w3, w4⟩ := wTx k hk
    have hz := wz.2.2.2.2.1 k (by omega)
    simp (disch := omega) only [eIn_s, eG_tt, cl, nI_add, bS, Ladd_0, Ladd_1, Ladd_2, Ladd_3, Ladd_4, Ladd_5, Ladd_6, Ladd_7, Ladd_8, Ladd_10, Ladd_12, Ladd_14, Ladd_20, Ladd_23, Ladd_24, Ladd_110, Ladd_200, Ladd_230, Ladd_290, Ladd_294, Ladd_298, Ladd_498, Ladd_1128, Ladd_1248, Ladd_1278, Ladd_1764, Rad_0, Rad_1, Rad_2, Rad_3, Rad_4, Rad_5, Rad_6, Rad_7, Rad_8, Rad_10, Rad_12, Rad_14, Rad_20, Rad_23, Rad_24, Rad_110, Rad_200, Rad_230, Rad_290, Rad_294, Rad_298, Rad_498, Rad_1128, Rad_1248, Rad_1278, Rad_1764, Mul_2, Mul_3, Mul_4, Mul_5, Mul_6, Mul_7, Mul_10, Mul_20, Mul_23, Mul_24, Mul_142]
    rw [show 1764 + 142 * k + 2 = 1766 + 142 * k by omega, w3, show vp_nar .boolean (1 : Int32) = 1 from rfl]
    rw [w3] at hz
    rcases hz with q | q <;> rw [q]
    · rw [if_pos rfl, if_neg (show ¬ (0 : Int32) = 1 by decide)]
      refine stepI rfl ?_
      refine h.now (by simp (disch := omega) only [eIq_ne, eIq_eq, upd_ne, upd_eq]) (fun p hp => by simp (disch := omega) only [eIq_ne, eIq_eq, upd_ne, upd_eq]) (by simp (disch := omega) only [eIq_ne, eIq_eq, upd_ne, upd_eq]) (by simp (disch := omega) only [eIq_ne, eIq_eq, upd_ne, upd_eq]) (fun p p1 p2 => by simp (disch := omega) only [eIq_ne, eIq_eq, upd_ne, upd_eq]) (h.1.tx (fun p p1 p2 p3 p4 p5 p6 p7 p8 p9 p10 p11 p12 p13 => by simp (disch := omega) only [eIq_ne, eIq_eq, upd_ne, upd_eq]) (fun j j1 j2 => by simp (disch := omega) only [eIq_ne, eIq_eq, upd_ne, upd_eq]) (by refine ⟨?_, ?_, ?_, ?_, ?_, ?_, ?_, ?_, ?_, ?_, ?_, ?_, ?_, ?_⟩ <;> (simp (disch := omega) only [eIq_ne, eIq_eq, upd_ne, upd_eq] <;> first | assumption | (simp only [*]; done))) (wTx_mk (n := nT (R.1 1)) (by simp (disch := omega) only [eIq_ne, eIq_eq, upd_ne, upd_eq]; exact z11) (by omega) (fun i hi => ?_)) ?_ ?_ (iSc_mk  (by simp (disch := omega) only [eIq_ne, eIq_eq, upd_ne, upd_eq]; exact z0) y0 (by simp (disch := omega) only [eIq_ne, eIq_eq, upd_ne, upd_eq]; exact z5) g5 y5 (by simp (disch := omega) only [eIq_ne, eIq_eq, upd_ne, upd_eq]; exact z6) y6 (by simp (disch := omega) only [eIq_ne, eIq_eq, upd_ne, upd_eq]; exact z7) y7 (by simp (disch := omega) only [eIq_ne, eIq_eq, upd_ne, upd_eq]; exact z8) y8 (by simp (disch := omega) only [eIq_ne, eIq_eq, upd_ne, upd_eq]; exact z9) y9 (by simp (disch := omega) only [eIq_ne, eIq_eq, upd_ne, upd_eq]; exact z10) y10 (by simp (disch := omega) only [eIq_ne, eIq_eq, upd_ne, upd_eq]; exact z11) y11 (by simp (disch := omega) only [eIq_ne, eIq_eq, upd_ne, upd_eq]; exact z12) y12 (by simp (disch := omega) only [eIq_ne, eIq_eq, upd_ne, upd_eq]; exact z13) y13))
      · by_cases e : i = k
        · subst e; refine ⟨?_, ?_, ?_, ?_⟩ <;> simp (disch := omega) only [eIq_ne, eIq_eq, upd_ne, upd_eq] <;> assumption
        · simp (disch := omega) only [eIq_ne, eIq_eq, upd_ne, upd_eq]; exact wTx i hi
      · intro t ht
        have ht' : t < nT (R.1 1) := by
          rw [nT_of (n := nT (R.1 1)) (by simp (disch := omega) only [eIq_ne, eIq_eq, upd_ne, upd_eq]; exact z11) (by omega)] at ht
          exact ht
        obtain ⟨n, n1, n2, n3⟩ := wTc t ht'
        refine ⟨n, n1, by simp (disch := omega) only [eIq_ne, eIq_eq, upd_ne, upd_eq]; exact n2, fun c hc => ?_⟩
        obtain ⟨a1, a2, m, m1, m2, m3, m4⟩ := n3 c hc
        refine ⟨by simp (disch := omega) only [eIq_ne, eIq_eq, upd_ne, upd_eq]; exact a1, by simp (disch := omega) only [eIq_ne, eIq_eq, upd_ne, upd_eq]; exact a2, m, m1, by simp (disch := omega) only [eIq_ne, eIq_eq, upd_ne, upd_eq]; exact m2, by simp (disch := omega) only [eIq_ne, eIq_eq, upd_ne, upd_eq]; exact m3, fun j hj => ?_⟩
        have hq := m4 j hj
        have hne : ∀ i, 1768 + 142 * t ≤ i → i < 1906 + 142 * t → (eI R 1 (1766 + 142 * k) 1).1 1 i = R.1 1 i := fun i h1 h2 => by simp (disch := omega) only [eIq_ne, eIq_eq, upd_ne, upd_eq]
        have hcc : c < 6 := by omega
        have hjj : j < 4 := by omega
        unfold wTe at hq ⊢
        rw [hne (1771 + 142 * t + 23 * c + 5 * j) (by omega) (by omega), hne (1772 + 142 * t + 23 * c + 5 * j) (by omega) (by omega), hne (1773 + 142 * t + 23 * c + 5 * j) (by omega) (by omega), hne (1774 + 142 * t + 23 * c + 5 * j) (by omega) (by omega), hne (1775 + 142 * t + 23 * c + 5 * j) (by omega) (by omega)]
        simp (disch := omega) only [eIq_ne, eIq_eq, upd_ne, upd_eq]
        exact hq
      · refine ⟨fun i hi => ?_, fun i hi => ?_, fun i hi => ?_, fun i hi => ?_, fun i hi => ?_, fun i hi => ?_, fun i hi => ?_⟩
        · simp (disch := omega) only [eIq_ne, eIq_eq, upd_ne, upd_eq]; exact wz.1 i hi
        · simp (disch := omega) only [eIq_ne, eIq_eq, upd_ne, upd_eq]; exact wz.2.1 i hi
        · simp (disch := omega) only [eIq_ne, eIq_eq, upd_ne, upd_eq]; exact wz.2.2.1 i hi
        · simp (disch := omega) only [eIq_ne, eIq_eq, upd_ne, upd_eq]; exact wz.2.2.2.1 i hi
        · simp (disch := omega) only [eIq_ne, eIq_eq, upd_ne, upd_eq]
          by_cases e : i = k
          · subst e; simp (disch := omega) only [eIq_ne, eIq_eq, upd_ne, upd_eq]; exact Or.inr trivial
          · simp (disch := omega) only [eIq_ne, eIq_eq, upd_ne, upd_eq]; exact wz.2.2.2.2.1 i hi
        · simp (disch := omega) only [eIq_ne, eIq_eq, upd_ne, upd_eq]; exact wz.2.2.2.2.2.1 i hi
        · simp (disch := omega) only [eIq_ne, eIq_eq, upd_ne, upd_eq]; exact wz.2.2.2.2.2.2 i hi
    · rw [if_neg (show ¬ (1 : Int32) = 0 by decide), if_pos rfl]
      exact stf5 h
  · simp only [bS, i10, i00, ↓reduceIte]
    exact stf1 h
