/-! WHAT A CALL MAY CHANGE: by kinds. -/
theorem eIq_ne {M : eMem} {p q i : Nat} {v : Int32} (h : q ≠ p) : (eI M p i v).1 q = M.1 q := by simp [eI, eC, h]
theorem eIq_eq {M : eMem} {p i : Nat} {v : Int32} : (eI M p i v).1 p = upd (M.1 p) i v := by simp [eI, eC]
theorem upd_ne {f : Nat → Int32} {i j : Nat} {v : Int32} (h : j ≠ i) : upd f i v j = f j := by simp [upd, h]
theorem upd_eq {f : Nat → Int32} {i : Nat} {v : Int32} : upd f i v i = v := by simp [upd]
theorem upd_at {f : Nat → Int32} {i j : Nat} {v : Int32} : upd f i v j = if j = i then v else f j := rfl
theorem Rel.now {C C2 R R2 : eMem} (h : Rel C R) (hc0 : C2.1 0 2 = C.1 0 2) (hc : ∀ p, 73 ≤ p → C2.1 p = C.1 p) (r2 : R2.1 0 2 = R.1 0 2) (r3 : R2.1 0 3 = R.1 0 3) (hr : ∀ p, 2 ≤ p → p ≤ 7 → R2.1 p = R.1 p) (hw : RelW C2.1 (R2.1 1)) : Rel C2 R2 := by
  obtain ⟨h1, ⟨h2, h3⟩, h4, h5, h6, h7⟩ := h
  have hk : (fun p => C2.1 (p + 72)) = (fun p => C2.1 (p + 72)) := rfl
  have hg : ∀ p, 1 ≤ p → C2.1 (p + 72) = C.1 (p + 72) := fun p hp => hc _ (by omega)
  have ha : Agr (fun p => C.1 (p + 72)) (fun p => C2.1 (p + 72)) := by
    simp only [Agr]
    simp [hc]
  refine ⟨hw, ⟨by rw [hc0, r2]; exact h2, ?_⟩, ?_, ?_, ?_, wZ_cg h7 ?_ ?_ ?_ ?_ ?_ ?_ ?_⟩
  · rw [r2]
    rcases h3 with h3 | ⟨h3, h3'⟩
    · exact Or.inl h3
    · exact Or.inr ⟨h3, h3'.agr ha (fun j _ => by rw [hr 2 (by decide) (by decide)])⟩
  · unfold rTape
    rw [hc 145 (by decide), hc 146 (by decide), r3, hr 3 (by decide) (by decide)]
    exact h4
  · intro k hk
    rw [hc 148 (by decide), hc 149 (by decide), hc (151 + k) (by omega), hr 4 (by decide) (by decide), hr 5 (by decide) (by decide), hr 6 (by decide) (by decide)]
    exact h5 k hk
  · intro k hk
    rw [hc 155 (by decide), hr 7 (by decide) (by decide)]
    exact h6 k hk
  all_goals (intro i _; rw [hc _ (by decide)])
theorem RelW.scal {V V2 : Nat → Nat → Int32} {s s2 : Nat → Int32} (h : RelW V s) (hV : ∀ p, p ≠ 2 → p ≠ 29 → V2 p = V p) (hs : ∀ j, (j < 1 ∨ 7 ≤ j) → s2 j = s j) (nSc : wSc V2 s2) (niSc : iSc s2) : RelW V2 s2 := by
  obtain ⟨wSc, wGr, wRo, wUn, wPl, wHe, wSh, wRe, wFl, wLi, wBo, wTx, wTc, wz, i1, i2, i3, i4, i5, i6⟩ := h
  obtain ⟨⟨z0, y0⟩, z5, z6, ⟨z7, y7⟩, ⟨z8, y8⟩, ⟨z9, y9⟩, ⟨z10, y10⟩, ⟨z11, y11⟩, ⟨z12, y12⟩, ⟨z13, y13⟩⟩ := id i1
  have e7 : nR s2 = nR s := by unfold nR; rw [hs 7 (by omega)]
  have e8 : nU s2 = nU s := by unfold nU; rw [hs 8 (by omega)]
  have e9 : nS s2 = nS s := by unfold nS; rw [hs 9 (by omega)]
  have e10 : nP s2 = nP s := by unfold nP; rw [hs 10 (by omega)]
  have e11 : nT s2 = nT s := by unfold nT; rw [hs 11 (by omega)]
  have e12 : nF s2 = nF s := by unfold nF; rw [hs 12 (by omega)]
  have e13 : nL s2 = nL s := by unfold nL; rw [hs 13 (by omega)]
  have e0 : hr s2 = hr s := by unfold hr; rw [hs 0 (by omega)]
  exact ⟨nSc,
    wGr_cg wGr (fun k _ => by rw [hV 3 (by decide) (by decide)]) (fun j h1 h2 => hs j (by omega)),
    wRo_cg wRo (fun k _ => by rw [hV 4 (by decide) (by decide)]) (fun k _ => by rw [hV 5 (by decide) (by decide)]) (fun k _ => by rw [hV 6 (by decide) (by decide)]) (fun j h1 h2 => hs j (by omega)) e7 y7,
    wUn_cg wUn (fun k _ => by rw [hV 7 (by decide) (by decide)]) (fun k _ => by rw [hV 8 (by decide) (by decide)]) (fun k _ => by rw [hV 9 (by decide) (by decide)]) (fun k _ => by rw [hV 10 (by decide) (by decide)]) (fun j h1 h2 => hs j (by omega)) e8 y8,
    wPl_cg wPl (fun k _ => by rw [hV 11 (by decide) (by decide)]) (fun j h1 h2 => hs j (by omega)),
    wHe_cg wHe (fun k _ => by rw [hV 37 (by decide) (by decide)]) (fun j h1 h2 => hs j (by omega)),
    wSh_cg wSh (fun k _ => by rw [hV 13 (by decide) (by decide)]) (fun k _ => by rw [hV 14 (by decide) (by decide)]) (fun k _ => by rw [hV 15 (by decide) (by decide)]) (fun k _ => by rw [hV 16 (by decide) (by decide)]) (fun k _ => by rw [hV 17 (by decide) (by decide)]) (fun k _ => by rw [hV 18 (by decide) (by decide)]) (fun k _ => by rw [hV 19 (by decide) (by decide)]) (fun k _ => by rw [hV 20 (by decide) (by decide)]) (fun k _ => by rw [hV 21 (by decide) (by decide)]) (fun k _ => by rw [hV 22 (by decide) (by decide)]) (fun j h1 h2 => hs j (by omega)) e9 y9,
    wRe_cg wRe (fun k _ => by rw [hV 30 (by decide) (by decide)]) (fun k _ => by rw [hV 31 (by decide) (by decide)]) (fun k _ => by rw [hV 32 (by decide) (by decide)]) (fun k _ => by rw [hV 33 (by decide) (by decide)]) (fun k _ => by rw [hV 34 (by decide) (by decide)]) (fun k _ => by rw [hV 35 (by decide) (by decide)]) (fun k _ => by rw [hV 36 (by decide) (by decide)]) (fun j h1 h2 => hs j (by omega)) e10 y10,
    wFl_cg wFl (fun k _ => by rw [hV 24 (by decide) (by decide)]) (fun k _ => by rw [hV 25 (by decide) (by decide)]) (fun k _ => by rw [hV 26 (by decide) (by decide)]) (fun k _ => by rw [hV 27 (by decide) (by decide)]) (fun j h1 h2 => hs j (by omega)) e12 y12,
    wLi_cg wLi (fun k _ => by rw [hV 28 (by decide) (by decide)]) (fun j h1 h2 => hs j (by omega)) e13 y13,
    wBo_cg wBo (fun k _ => by rw [hV 53 (by decide) (by decide)]) (fun j h1 h2 => hs j (by omega)),
    wTx_cg wTx (fun k _ => by rw [hV 41 (by decide) (by decide)]) (fun k _ => by rw [hV 42 (by decide) (by decide)]) (fun k _ => by rw [hV 43 (by decide) (by decide)]) (fun k _ => by rw [hV 44 (by decide) (by decide)]) (fun j h1 h2 => hs j (by omega)) e11 y11,
    wTc_cg wTc (fun p q1 q2 i _ => by rw [hV p (by omega) (by omega)]) (fun p q1 q2 i _ => by rw [hV p (by omega) (by omega)]) (fun j h1 h2 => hs j (by omega)) e11 y11,
    wZ_cg wz (fun k _ => by rw [hV 18 (by decide) (by decide)]) (fun k _ => by rw [hV 20 (by decide) (by decide)]) (fun k _ => by rw [hV 32 (by decide) (by decide)]) (fun k _ => by rw [hV 36 (by decide) (by decide)]) (fun k _ => by rw [hV 43 (by decide) (by decide)]) (fun k _ => by rw [hV 48 (by decide) (by decide)]) (fun k _ => by rw [hV 49 (by decide) (by decide)]),
    niSc,
    iRo_cg i2 e7 y7 (fun j h1 h2 => hs j (by omega)),
    iUn_cg i3 e8 y8 (by omega) y7 (fun j h1 h2 => hs j (by omega)) (fun k hk => ⟨hs _ (by omega), hs _ (by omega)⟩),
    iSh_cg i4 e9 y9 (fun j h1 h2 => hs j (by omega)),
    iRe_cg i5 e10 y10 (by omega) (by omega) (fun j h1 h2 => hs j (by omega)) (fun x hx => hs _ (by omega)),
    iFl_cg i6 e12 y12 (fun j h1 h2 => hs j (by omega))⟩
theorem RelW.gr {V V2 : Nat → Nat → Int32} {s s2 : Nat → Int32} (h : RelW V s) (hV : ∀ p, p ≠ 3 → V2 p = V p) (hs : ∀ j, (j < 14 ∨ 110 ≤ j) → s2 j = s j) (nGr : wGr V2 s2) : RelW V2 s2 := by
  obtain ⟨wSc, wGr, wRo, wUn, wPl, wHe, wSh, wRe, wFl, wLi, wBo, wTx, wTc, wz, i1, i2, i3, i4, i5, i6⟩ := h
  obtain ⟨⟨z0, y0⟩, z5, z6, ⟨z7, y7⟩, ⟨z8, y8⟩, ⟨z9, y9⟩, ⟨z10, y10⟩, ⟨z11, y11⟩, ⟨z12, y12⟩, ⟨z13, y13⟩⟩ := id i1
  have e7 : nR s2 = nR s := by unfold nR; rw [hs 7 (by omega)]
  have e8 : nU s2 = nU s := by unfold nU; rw [hs 8 (by omega)]
  have e9 : nS s2 = nS s := by unfold nS; rw [hs 9 (by omega)]
  have e10 : nP s2 = nP s := by unfold nP; rw [hs 10 (by omega)]
  have e11 : nT s2 = nT s := by unfold nT; rw [hs 11 (by omega)]
  have e12 : nF s2 = nF s := by unfold nF; rw [hs 12 (by omega)]
  have e13 : nL s2 = nL s := by unfold nL; rw [hs 13 (by omega)]
  have e0 : hr s2 = hr s := by unfold hr; rw [hs 0 (by omega)]
  exact ⟨wSc_cg wSc (by rw [hV 2 (by decide)]) (by rw [hV 2 (by decide)]) (by rw [hV 2 (by decide)]) (by rw [hV 2 (by decide)]) (by rw [hV 2 (by decide)]) (by rw [hV 29 (by decide)]) (by rw [hV 29 (by decide)]) (by rw [hV 2 (by decide)]) (by rw [hV 2 (by decide)]) (by rw [hV 12 (by decide)]) (by rw [hV 29 (by decide)]) (by rw [hV 40 (by decide)]) (by rw [hV 23 (by decide)]) (by rw [hV 23 (by decide)]) (fun j hj => hs j (by omega)),
    nGr,
    wRo_cg wRo (fun k _ => by rw [hV 4 (by decide)]) (fun k _ => by rw [hV 5 (by decide)]) (fun k _ => by rw [hV 6 (by decide)]) (fun j h1 h2 => hs j (by omega)) e7 y7,
    wUn_cg wUn (fun k _ => by rw [hV 7 (by decide)]) (fun k _ => by rw [hV 8 (by decide)]) (fun k _ => by rw [hV 9 (by decide)]) (fun k _ => by rw [hV 10 (by decide)]) (fun j h1 h2 => hs j (by omega)) e8 y8,
    wPl_cg wPl (fun k _ => by rw [hV 11 (by decide)]) (fun j h1 h2 => hs j (by omega)),
    wHe_cg wHe (fun k _ => by rw [hV 37 (by decide)]) (fun j h1 h2 => hs j (by omega)),
    wSh_cg wSh (fun k _ => by rw [hV 13 (by decide)]) (fun k _ => by rw [hV 14 (by decide)]) (fun k _ => by rw [hV 15 (by decide)]) (fun k _ => by rw [hV 16 (by decide)]) (fun k _ => by rw [hV 17 (by decide)]) (fun k _ => by rw [hV 18 (by decide)]) (fun k _ => by rw [hV 19 (by decide)]) (fun k _ => by rw [hV 20 (by decide)]) (fun k _ => by rw [hV 21 (by decide)]) (fun k _ => by rw [hV 22 (by decide)]) (fun j h1 h2 => hs j (by omega)) e9 y9,
    wRe_cg wRe (fun k _ => by rw [hV 30 (by decide)]) (fun k _ => by rw [hV 31 (by decide)]) (fun k _ => by rw [hV 32 (by decide)]) (fun k _ => by rw [hV 33 (by decide)]) (fun k _ => by rw [hV 34 (by decide)]) (fun k _ => by rw [hV 35 (by decide)]) (fun k _ => by rw [hV 36 (by decide)]) (fun j h1 h2 => hs j (by omega)) e10 y10,
    wFl_cg wFl (fun k _ => by rw [hV 24 (by decide)]) (fun k _ => by rw [hV 25 (by decide)]) (fun k _ => by rw [hV 26 (by decide)]) (fun k _ => by rw [hV 27 (by decide)]) (fun j h1 h2 => hs j (by omega)) e12 y12,
    wLi_cg wLi (fun k _ => by rw [hV 28 (by decide)]) (fun j h1 h2 => hs j (by omega)) e13 y13,
    wBo_cg wBo (fun k _ => by rw [hV 53 (by decide)]) (fun j h1 h2 => hs j (by omega)),
    wTx_cg wTx (fun k _ => by rw [hV 41 (by decide)]) (fun k _ => by rw [hV 42 (by decide)]) (fun k _ => by rw [hV 43 (by decide)]) (fun k _ => by rw [hV 44 (by decide)]) (fun j h1 h2 => hs j (by omega)) e11 y11,
    wTc_cg wTc (fun p q1 q2 i _ => by rw [hV p (by omega)]) (fun p q1 q2 i _ => by rw [hV p (by omega)]) (fun j h1 h2 => hs j (by omega)) e11 y11,
    wZ_cg wz (fun k _ => by rw [hV 18 (by decide)]) (fun k _ => by rw [hV 20 (by decide)]) (fun k _ => by rw [hV 32 (by decide)]) (fun k _ => by rw [hV 36 (by decide)]) (fun k _ => by rw [hV 43 (by decide)]) (fun k _ => by rw [hV 48 (by decide)]) (fun k _ => by rw [hV 49 (by decide)]),
    iSc_cg i1 (fun j hj => hs j (by omega)),
    iRo_cg i2 e7 y7 (fun j h1 h2 => hs j (by omega)),
    iUn_cg i3 e8 y8 (by omega) y7 (fun j h1 h2 => hs j (by omega)) (fun k hk => ⟨hs _ (by omega), hs _ (by omega)⟩),
    iSh_cg i4 e9 y9 (fun j h1 h2 => hs j (by omega)),
    iRe_cg i5 e10 y10 (by omega) (by omega) (fun j h1 h2 => hs j (by omega)) (fun x hx => hs _ (by omega)),
    iFl_cg i6 e12 y12 (fun j h1 h2 => hs j (by omega))⟩
theorem RelW.pl {V V2 : Nat → Nat → Int32} {s s2 : Nat → Int32} (h : RelW V s) (hV : ∀ p, p ≠ 11 → V2 p = V p) (hs : ∀ j, (j < 290 ∨ 294 ≤ j) → s2 j = s j) (nPl : wPl V2 s2) : RelW V2 s2 := by
  obtain ⟨wSc, wGr, wRo, wUn, wPl, wHe, wSh, wRe, wFl, wLi, wBo, wTx, wTc, wz, i1, i2, i3, i4, i5, i6⟩ := h
  obtain ⟨⟨z0, y0⟩, z5, z6, ⟨z7, y7⟩, ⟨z8, y8⟩, ⟨z9, y9⟩, ⟨z10, y10⟩, ⟨z11, y11⟩, ⟨z12, y12⟩, ⟨z13, y13⟩⟩ := id i1
  have e7 : nR s2 = nR s := by unfold nR; rw [hs 7 (by omega)]
  have e8 : nU s2 = nU s := by unfold nU; rw [hs 8 (by omega)]
  have e9 : nS s2 = nS s := by unfold nS; rw [hs 9 (by omega)]
  have e10 : nP s2 = nP s := by unfold nP; rw [hs 10 (by omega)]
  have e11 : nT s2 = nT s := by unfold nT; rw [hs 11 (by omega)]
  have e12 : nF s2 = nF s := by unfold nF; rw [hs 12 (by omega)]
  have e13 : nL s2 = nL s := by unfold nL; rw [hs 13 (by omega)]
  have e0 : hr s2 = hr s := by unfold hr; rw [hs 0 (by omega)]
  exact ⟨wSc_cg wSc (by rw [hV 2 (by decide)]) (by rw [hV 2 (by decide)]) (by rw [hV 2 (by decide)]) (by rw [hV 2 (by decide)]) (by rw [hV 2 (by decide)]) (by rw [hV 29 (by decide)]) (by rw [hV 29 (by decide)]) (by rw [hV 2 (by decide)]) (by rw [hV 2 (by decide)]) (by rw [hV 12 (by decide)]) (by rw [hV 29 (by decide)]) (by rw [hV 40 (by decide)]) (by rw [hV 23 (by decide)]) (by rw [hV 23 (by decide)]) (fun j hj => hs j (by omega)),
    wGr_cg wGr (fun k _ => by rw [hV 3 (by decide)]) (fun j h1 h2 => hs j (by omega)),
    wRo_cg wRo (fun k _ => by rw [hV 4 (by decide)]) (fun k _ => by rw [hV 5 (by decide)]) (fun k _ => by rw [hV 6 (by decide)]) (fun j h1 h2 => hs j (by omega)) e7 y7,
    wUn_cg wUn (fun k _ => by rw [hV 7 (by decide)]) (fun k _ => by rw [hV 8 (by decide)]) (fun k _ => by rw [hV 9 (by decide)]) (fun k _ => by rw [hV 10 (by decide)]) (fun j h1 h2 => hs j (by omega)) e8 y8,
    nPl,
    wHe_cg wHe (fun k _ => by rw [hV 37 (by decide)]) (fun j h1 h2 => hs j (by omega)),
    wSh_cg wSh (fun k _ => by rw [hV 13 (by decide)]) (fun k _ => by rw [hV 14 (by decide)]) (fun k _ => by rw [hV 15 (by decide)]) (fun k _ => by rw [hV 16 (by decide)]) (fun k _ => by rw [hV 17 (by decide)]) (fun k _ => by rw [hV 18 (by decide)]) (fun k _ => by rw [hV 19 (by decide)]) (fun k _ => by rw [hV 20 (by decide)]) (fun k _ => by rw [hV 21 (by decide)]) (fun k _ => by rw [hV 22 (by decide)]) (fun j h1 h2 => hs j (by omega)) e9 y9,
    wRe_cg wRe (fun k _ => by rw [hV 30 (by decide)]) (fun k _ => by rw [hV 31 (by decide)]) (fun k _ => by rw [hV 32 (by decide)]) (fun k _ => by rw [hV 33 (by decide)]) (fun k _ => by rw [hV 34 (by decide)]) (fun k _ => by rw [hV 35 (by decide)]) (fun k _ => by rw [hV 36 (by decide)]) (fun j h1 h2 => hs j (by omega)) e10 y10,
    wFl_cg wFl (fun k _ => by rw [hV 24 (by decide)]) (fun k _ => by rw [hV 25 (by decide)]) (fun k _ => by rw [hV 26 (by decide)]) (fun k _ => by rw [hV 27 (by decide)]) (fun j h1 h2 => hs j (by omega)) e12 y12,
    wLi_cg wLi (fun k _ => by rw [hV 28 (by decide)]) (fun j h1 h2 => hs j (by omega)) e13 y13,
    wBo_cg wBo (fun k _ => by rw [hV 53 (by decide)]) (fun j h1 h2 => hs j (by omega)),
    wTx_cg wTx (fun k _ => by rw [hV 41 (by decide)]) (fun k _ => by rw [hV 42 (by decide)]) (fun k _ => by rw [hV 43 (by decide)]) (fun k _ => by rw [hV 44 (by decide)]) (fun j h1 h2 => hs j (by omega)) e11 y11,
    wTc_cg wTc (fun p q1 q2 i _ => by rw [hV p (by omega)]) (fun p q1 q2 i _ => by rw [hV p (by omega)]) (fun j h1 h2 => hs j (by omega)) e11 y11,
    wZ_cg wz (fun k _ => by rw [hV 18 (by decide)]) (fun k _ => by rw [hV 20 (by decide)]) (fun k _ => by rw [hV 32 (by decide)]) (fun k _ => by rw [hV 36 (by decide)]) (fun k _ => by rw [hV 43 (by decide)]) (fun k _ => by rw [hV 48 (by decide)]) (fun k _ => by rw [hV 49 (by decide)]),
    iSc_cg i1 (fun j hj => hs j (by omega)),
    iRo_cg i2 e7 y7 (fun j h1 h2 => hs j (by omega)),
    iUn_cg i3 e8 y8 (by omega) y7 (fun j h1 h2 => hs j (by omega)) (fun k hk => ⟨hs _ (by omega), hs _ (by omega)⟩),
    iSh_cg i4 e9 y9 (fun j h1 h2 => hs j (by omega)),
    iRe_cg i5 e10 y10 (by omega) (by omega) (fun j h1 h2 => hs j (by omega)) (fun x hx => hs _ (by omega)),
    iFl_cg i6 e12 y12 (fun j h1 h2 => hs j (by omega))⟩
theorem RelW.he {V V2 : Nat → Nat → Int32} {s s2 : Nat → Int32} (h : RelW V s) (hV : ∀ p, p ≠ 37 → V2 p = V p) (hs : ∀ j, (j < 294 ∨ 298 ≤ j) → s2 j = s j) (nHe : wHe V2 s2) : RelW V2 s2 := by
  obtain ⟨wSc, wGr, wRo, wUn, wPl, wHe, wSh, wRe, wFl, wLi, wBo, wTx, wTc, wz, i1, i2, i3, i4, i5, i6⟩ := h
  obtain ⟨⟨z0, y0⟩, z5, z6, ⟨z7, y7⟩, ⟨z8, y8⟩, ⟨z9, y9⟩, ⟨z10, y10⟩, ⟨z11, y11⟩, ⟨z12, y12⟩, ⟨z13, y13⟩⟩ := id i1
  have e7 : nR s2 = nR s := by unfold nR; rw [hs 7 (by omega)]
  have e8 : nU s2 = nU s := by unfold nU; rw [hs 8 (by omega)]
  have e9 : nS s2 = nS s := by unfold nS; rw [hs 9 (by omega)]
  have e10 : nP s2 = nP s := by unfold nP; rw [hs 10 (by omega)]
  have e11 : nT s2 = nT s := by unfold nT; rw [hs 11 (by omega)]
  have e12 : nF s2 = nF s := by unfold nF; rw [hs 12 (by omega)]
  have e13 : nL s2 = nL s := by unfold nL; rw [hs 13 (by omega)]
  have e0 : hr s2 = hr s := by unfold hr; rw [hs 0 (by omega)]
  exact ⟨wSc_cg wSc (by rw [hV 2 (by decide)]) (by rw [hV 2 (by decide)]) (by rw [hV 2 (by decide)]) (by rw [hV 2 (by decide)]) (by rw [hV 2 (by decide)]) (by rw [hV 29 (by decide)]) (by rw [hV 29 (by decide)]) (by rw [hV 2 (by decide)]) (by rw [hV 2 (by decide)]) (by rw [hV 12 (by decide)]) (by rw [hV 29 (by decide)]) (by rw [hV 40 (by decide)]) (by rw [hV 23 (by decide)]) (by rw [hV 23 (by decide)]) (fun j hj => hs j (by omega)),
    wGr_cg wGr (fun k _ => by rw [hV 3 (by decide)]) (fun j h1 h2 => hs j (by omega)),
    wRo_cg wRo (fun k _ => by rw [hV 4 (by decide)]) (fun k _ => by rw [hV 5 (by decide)]) (fun k _ => by rw [hV 6 (by decide)]) (fun j h1 h2 => hs j (by omega)) e7 y7,
    wUn_cg wUn (fun k _ => by rw [hV 7 (by decide)]) (fun k _ => by rw [hV 8 (by decide)]) (fun k _ => by rw [hV 9 (by decide)]) (fun k _ => by rw [hV 10 (by decide)]) (fun j h1 h2 => hs j (by omega)) e8 y8,
    wPl_cg wPl (fun k _ => by rw [hV 11 (by decide)]) (fun j h1 h2 => hs j (by omega)),
    nHe,
    wSh_cg wSh (fun k _ => by rw [hV 13 (by decide)]) (fun k _ => by rw [hV 14 (by decide)]) (fun k _ => by rw [hV 15 (by decide)]) (fun k _ => by rw [hV 16 (by decide)]) (fun k _ => by rw [hV 17 (by decide)]) (fun k _ => by rw [hV 18 (by decide)]) (fun k _ => by rw [hV 19 (by decide)]) (fun k _ => by rw [hV 20 (by decide)]) (fun k _ => by rw [hV 21 (by decide)]) (fun k _ => by rw [hV 22 (by decide)]) (fun j h1 h2 => hs j (by omega)) e9 y9,
    wRe_cg wRe (fun k _ => by rw [hV 30 (by decide)]) (fun k _ => by rw [hV 31 (by decide)]) (fun k _ => by rw [hV 32 (by decide)]) (fun k _ => by rw [hV 33 (by decide)]) (fun k _ => by rw [hV 34 (by decide)]) (fun k _ => by rw [hV 35 (by decide)]) (fun k _ => by rw [hV 36 (by decide)]) (fun j h1 h2 => hs j (by omega)) e10 y10,
    wFl_cg wFl (fun k _ => by rw [hV 24 (by decide)]) (fun k _ => by rw [hV 25 (by decide)]) (fun k _ => by rw [hV 26 (by decide)]) (fun k _ => by rw [hV 27 (by decide)]) (fun j h1 h2 => hs j (by omega)) e12 y12,
    wLi_cg wLi (fun k _ => by rw [hV 28 (by decide)]) (fun j h1 h2 => hs j (by omega)) e13 y13,
    wBo_cg wBo (fun k _ => by rw [hV 53 (by decide)]) (fun j h1 h2 => hs j (by omega)),
    wTx_cg wTx (fun k _ => by rw [hV 41 (by decide)]) (fun k _ => by rw [hV 42 (by decide)]) (fun k _ => by rw [hV 43 (by decide)]) (fun k _ => by rw [hV 44 (by decide)]) (fun j h1 h2 => hs j (by omega)) e11 y11,
    wTc_cg wTc (fun p q1 q2 i _ => by rw [hV p (by omega)]) (fun p q1 q2 i _ => by rw [hV p (by omega)]) (fun j h1 h2 => hs j (by omega)) e11 y11,
    wZ_cg wz (fun k _ => by rw [hV 18 (by decide)]) (fun k _ => by rw [hV 20 (by decide)]) (fun k _ => by rw [hV 32 (by decide)]) (fun k _ => by rw [hV 36 (by decide)]) (fun k _ => by rw [hV 43 (by decide)]) (fun k _ => by rw [hV 48 (by decide)]) (fun k _ => by rw [hV 49 (by decide)]),
    iSc_cg i1 (fun j hj => hs j (by omega)),
    iRo_cg i2 e7 y7 (fun j h1 h2 => hs j (by omega)),
    iUn_cg i3 e8 y8 (by omega) y7 (fun j h1 h2 => hs j (by omega)) (fun k hk => ⟨hs _ (by omega), hs _ (by omega)⟩),
    iSh_cg i4 e9 y9 (fun j h1 h2 => hs j (by omega)),
    iRe_cg i5 e10 y10 (by omega) (by omega) (fun j h1 h2 => hs j (by omega)) (fun x hx => hs _ (by omega)),
    iFl_cg i6 e12 y12 (fun j h1 h2 => hs j (by omega))⟩
theorem RelW.ro {V V2 : Nat → Nat → Int32} {s s2 : Nat → Int32} (h : RelW V s) (hV : ∀ p, p ≠ 2 → p ≠ 4 → p ≠ 5 → p ≠ 6 → V2 p = V p) (hs : ∀ j, (j < 7 ∨ 8 ≤ j) → (j < 110 ∨ 230 ≤ j) → s2 j = s j) (nSc : wSc V2 s2) (nRo : wRo V2 s2) (niSc : iSc s2) (niRo : iRo s2) (niUn : iUn s2) : RelW V2 s2 := by
  obtain ⟨wSc, wGr, wRo, wUn, wPl, wHe, wSh, wRe, wFl, wLi, wBo, wTx, wTc, wz, i1, i2, i3, i4, i5, i6⟩ := h
  obtain ⟨⟨z0, y0⟩, z5, z6, ⟨z7, y7⟩, ⟨z8, y8⟩, ⟨z9, y9⟩, ⟨z10, y10⟩, ⟨z11, y11⟩, ⟨z12, y12⟩, ⟨z13, y13⟩⟩ := id i1
  have e8 : nU s2 = nU s := by unfold nU; rw [hs 8 (by omega) (by omega)]
  have e9 : nS s2 = nS s := by unfold nS; rw [hs 9 (by omega) (by omega)]
  have e10 : nP s2 = nP s := by unfold nP; rw [hs 10 (by omega) (by omega)]
  have e11 : nT s2 = nT s := by unfold nT; rw [hs 11 (by omega) (by omega)]
  have e12 : nF s2 = nF s := by unfold nF; rw [hs 12 (by omega) (by omega)]
  have e13 : nL s2 = nL s := by unfold nL; rw [hs 13 (by omega) (by omega)]
  have e0 : hr s2 = hr s := by unfold hr; rw [hs 0 (by omega) (by omega)]
  exact ⟨nSc,
    wGr_cg wGr (fun k _ => by rw [hV 3 (by decide) (by decide) (by decide) (by decide)]) (fun j h1 h2 => hs j (by omega) (by omega)),
    nRo,
    wUn_cg wUn (fun k _ => by rw [hV 7 (by decide) (by decide) (by decide) (by decide)]) (fun k _ => by rw [hV 8 (by decide) (by decide) (by decide) (by decide)]) (fun k _ => by rw [hV 9 (by decide) (by decide) (by decide) (by decide)]) (fun k _ => by rw [hV 10 (by decide) (by decide) (by decide) (by decide)]) (fun j h1 h2 => hs j (by omega) (by omega)) e8 y8,
    wPl_cg wPl (fun k _ => by rw [hV 11 (by decide) (by decide) (by decide) (by decide)]) (fun j h1 h2 => hs j (by omega) (by omega)),
    wHe_cg wHe (fun k _ => by rw [hV 37 (by decide) (by decide) (by decide) (by decide)]) (fun j h1 h2 => hs j (by omega) (by omega)),
    wSh_cg wSh (fun k _ => by rw [hV 13 (by decide) (by decide) (by decide) (by decide)]) (fun k _ => by rw [hV 14 (by decide) (by decide) (by decide) (by decide)]) (fun k _ => by rw [hV 15 (by decide) (by decide) (by decide) (by decide)]) (fun k _ => by rw [hV 16 (by decide) (by decide) (by decide) (by decide)]) (fun k _ => by rw [hV 17 (by decide) (by decide) (by decide) (by decide)]) (fun k _ => by rw [hV 18 (by decide) (by decide) (by decide) (by decide)]) (fun k _ => by rw [hV 19 (by decide) (by decide) (by decide) (by decide)]) (fun k _ => by rw [hV 20 (by decide) (by decide) (by decide) (by decide)]) (fun k _ => by rw [hV 21 (by decide) (by decide) (by decide) (by decide)]) (fun k _ => by rw [hV 22 (by decide) (by decide) (by decide) (by decide)]) (fun j h1 h2 => hs j (by omega) (by omega)) e9 y9,
    wRe_cg wRe (fun k _ => by rw [hV 30 (by decide) (by decide) (by decide) (by decide)]) (fun k _ => by rw [hV 31 (by decide) (by decide) (by decide) (by decide)]) (fun k _ => by rw [hV 32 (by decide) (by decide) (by decide) (by decide)]) (fun k _ => by rw [hV 33 (by decide) (by decide) (by decide) (by decide)]) (fun k _ => by rw [hV 34 (by decide) (by decide) (by decide) (by decide)]) (fun k _ => by rw [hV 35 (by decide) (by decide) (by decide) (by decide)]) (fun k _ => by rw [hV 36 (by decide) (by decide) (by decide) (by decide)]) (fun j h1 h2 => hs j (by omega) (by omega)) e10 y10,
    wFl_cg wFl (fun k _ => by rw [hV 24 (by decide) (by decide) (by decide) (by decide)]) (fun k _ => by rw [hV 25 (by decide) (by decide) (by decide) (by decide)]) (fun k _ => by rw [hV 26 (by decide) (by decide) (by decide) (by decide)]) (fun k _ => by rw [hV 27 (by decide) (by decide) (by decide) (by decide)]) (fun j h1 h2 => hs j (by omega) (by omega)) e12 y12,
    wLi_cg wLi (fun k _ => by rw [hV 28 (by decide) (by decide) (by decide) (by decide)]) (fun j h1 h2 => hs j (by omega) (by omega)) e13 y13,
    wBo_cg wBo (fun k _ => by rw [hV 53 (by decide) (by decide) (by decide) (by decide)]) (fun j h1 h2 => hs j (by omega) (by omega)),
    wTx_cg wTx (fun k _ => by rw [hV 41 (by decide) (by decide) (by decide) (by decide)]) (fun k _ => by rw [hV 42 (by decide) (by decide) (by decide) (by decide)]) (fun k _ => by rw [hV 43 (by decide) (by decide) (by decide) (by decide)]) (fun k _ => by rw [hV 44 (by decide) (by decide) (by decide) (by decide)]) (fun j h1 h2 => hs j (by omega) (by omega)) e11 y11,
    wTc_cg wTc (fun p q1 q2 i _ => by rw [hV p (by omega) (by omega) (by omega) (by omega)]) (fun p q1 q2 i _ => by rw [hV p (by omega) (by omega) (by omega) (by omega)]) (fun j h1 h2 => hs j (by omega) (by omega)) e11 y11,
    wZ_cg wz (fun k _ => by rw [hV 18 (by decide) (by decide) (by decide) (by decide)]) (fun k _ => by rw [hV 20 (by decide) (by decide) (by decide) (by decide)]) (fun k _ => by rw [hV 32 (by decide) (by decide) (by decide) (by decide)]) (fun k _ => by rw [hV 36 (by decide) (by decide) (by decide) (by decide)]) (fun k _ => by rw [hV 43 (by decide) (by decide) (by decide) (by decide)]) (fun k _ => by rw [hV 48 (by decide) (by decide) (by decide) (by decide)]) (fun k _ => by rw [hV 49 (by decide) (by decide) (by decide) (by decide)]),
    niSc,
    niRo,
    niUn,
    iSh_cg i4 e9 y9 (fun j h1 h2 => hs j (by omega) (by omega)),
    iRe_cg i5 e10 y10 (by omega) (by omega) (fun j h1 h2 => hs j (by omega) (by omega)) (fun x hx => hs _ (by omega) (by omega)),
    iFl_cg i6 e12 y12 (fun j h1 h2 => hs j (by omega) (by omega))⟩
theorem RelW.un {V V2 : Nat → Nat → Int32} {s s2 : Nat → Int32} (h : RelW V s) (hV : ∀ p, p ≠ 2 → p ≠ 7 → p ≠ 8 → p ≠ 9 → p ≠ 10 → V2 p = V p) (hs : ∀ j, (j < 8 ∨ 9 ≤ j) → (j < 230 ∨ 290 ≤ j) → s2 j = s j) (nSc : wSc V2 s2) (nUn : wUn V2 s2) (niSc : iSc s2) (niUn : iUn s2) : RelW V2 s2 := by
  obtain ⟨wSc, wGr, wRo, wUn, wPl, wHe, wSh, wRe, wFl, wLi, wBo, wTx, wTc, wz, i1, i2, i3, i4, i5, i6⟩ := h
  obtain ⟨⟨z0, y0⟩, z5, z6, ⟨z7, y7⟩, ⟨z8, y8⟩, ⟨z9, y9⟩, ⟨z10, y10⟩, ⟨z11, y11⟩, ⟨z12, y12⟩, ⟨z13, y13⟩⟩ := id i1
  have e7 : nR s2 = nR s := by unfold nR; rw [hs 7 (by omega) (by omega)]
  have e9 : nS s2 = nS s := by unfold nS; rw [hs 9 (by omega) (by omega)]
  have e10 : nP s2 = nP s := by unfold nP; rw [hs 10 (by omega) (by omega)]
  have e11 : nT s2 = nT s := by unfold nT; rw [hs 11 (by omega) (by omega)]
  have e12 : nF s2 = nF s := by unfold nF; rw [hs 12 (by omega) (by omega)]
  have e13 : nL s2 = nL s := by unfold nL; rw [hs 13 (by omega) (by omega)]
  have e0 : hr s2 = hr s := by unfold hr; rw [hs 0 (by omega) (by omega)]
  exact ⟨nSc,
    wGr_cg wGr (fun k _ => by rw [hV 3 (by decide) (by decide) (by decide) (by decide) (by decide)]) (fun j h1 h2 => hs j (by omega) (by omega)),
    wRo_cg wRo (fun k _ => by rw [hV 4 (by decide) (by decide) (by decide) (by decide) (by decide)]) (fun k _ => by rw [hV 5 (by decide) (by decide) (by decide) (by decide) (by decide)]) (fun k _ => by rw [hV 6 (by decide) (by decide) (by decide) (by decide) (by decide)]) (fun j h1 h2 => hs j (by omega) (by omega)) e7 y7,
    nUn,
    wPl_cg wPl (fun k _ => by rw [hV 11 (by decide) (by decide) (by decide) (by decide) (by decide)]) (fun j h1 h2 => hs j (by omega) (by omega)),
    wHe_cg wHe (fun k _ => by rw [hV 37 (by decide) (by decide) (by decide) (by decide) (by decide)]) (fun j h1 h2 => hs j (by omega) (by omega)),
    wSh_cg wSh (fun k _ => by rw [hV 13 (by decide) (by decide) (by decide) (by decide) (by decide)]) (fun k _ => by rw [hV 14 (by decide) (by decide) (by decide) (by decide) (by decide)]) (fun k _ => by rw [hV 15 (by decide) (by decide) (by decide) (by decide) (by decide)]) (fun k _ => by rw [hV 16 (by decide) (by decide) (by decide) (by decide) (by decide)]) (fun k _ => by rw [hV 17 (by decide) (by decide) (by decide) (by decide) (by decide)]) (fun k _ => by rw [hV 18 (by decide) (by decide) (by decide) (by decide) (by decide)]) (fun k _ => by rw [hV 19 (by decide) (by decide) (by decide) (by decide) (by decide)]) (fun k _ => by rw [hV 20 (by decide) (by decide) (by decide) (by decide) (by decide)]) (fun k _ => by rw [hV 21 (by decide) (by decide) (by decide) (by decide) (by decide)]) (fun k _ => by rw [hV 22 (by decide) (by decide) (by decide) (by decide) (by decide)]) (fun j h1 h2 => hs j (by omega) (by omega)) e9 y9,
    wRe_cg wRe (fun k _ => by rw [hV 30 (by decide) (by decide) (by decide) (by decide) (by decide)]) (fun k _ => by rw [hV 31 (by decide) (by decide) (by decide) (by decide) (by decide)]) (fun k _ => by rw [hV 32 (by decide) (by decide) (by decide) (by decide) (by decide)]) (fun k _ => by rw [hV 33 (by decide) (by decide) (by decide) (by decide) (by decide)]) (fun k _ => by rw [hV 34 (by decide) (by decide) (by decide) (by decide) (by decide)]) (fun k _ => by rw [hV 35 (by decide) (by decide) (by decide) (by decide) (by decide)]) (fun k _ => by rw [hV 36 (by decide) (by decide) (by decide) (by decide) (by decide)]) (fun j h1 h2 => hs j (by omega) (by omega)) e10 y10,
    wFl_cg wFl (fun k _ => by rw [hV 24 (by decide) (by decide) (by decide) (by decide) (by decide)]) (fun k _ => by rw [hV 25 (by decide) (by decide) (by decide) (by decide) (by decide)]) (fun k _ => by rw [hV 26 (by decide) (by decide) (by decide) (by decide) (by decide)]) (fun k _ => by rw [hV 27 (by decide) (by decide) (by decide) (by decide) (by decide)]) (fun j h1 h2 => hs j (by omega) (by omega)) e12 y12,
    wLi_cg wLi (fun k _ => by rw [hV 28 (by decide) (by decide) (by decide) (by decide) (by decide)]) (fun j h1 h2 => hs j (by omega) (by omega)) e13 y13,
    wBo_cg wBo (fun k _ => by rw [hV 53 (by decide) (by decide) (by decide) (by decide) (by decide)]) (fun j h1 h2 => hs j (by omega) (by omega)),
    wTx_cg wTx (fun k _ => by rw [hV 41 (by decide) (by decide) (by decide) (by decide) (by decide)]) (fun k _ => by rw [hV 42 (by decide) (by decide) (by decide) (by decide) (by decide)]) (fun k _ => by rw [hV 43 (by decide) (by decide) (by decide) (by decide) (by decide)]) (fun k _ => by rw [hV 44 (by decide) (by decide) (by decide) (by decide) (by decide)]) (fun j h1 h2 => hs j (by omega) (by omega)) e11 y11,
    wTc_cg wTc (fun p q1 q2 i _ => by rw [hV p (by omega) (by omega) (by omega) (by omega) (by omega)]) (fun p q1 q2 i _ => by rw [hV p (by omega) (by omega) (by omega) (by omega) (by omega)]) (fun j h1 h2 => hs j (by omega) (by omega)) e11 y11,
    wZ_cg wz (fun k _ => by rw [hV 18 (by decide) (by decide) (by decide) (by decide) (by decide)]) (fun k _ => by rw [hV 20 (by decide) (by decide) (by decide) (by decide) (by decide)]) (fun k _ => by rw [hV 32 (by decide) (by decide) (by decide) (by decide) (by decide)]) (fun k _ => by rw [hV 36 (by decide) (by decide) (by decide) (by decide) (by decide)]) (fun k _ => by rw [hV 43 (by decide) (by decide) (by decide) (by decide) (by decide)]) (fun k _ => by rw [hV 48 (by decide) (by decide) (by decide) (by decide) (by decide)]) (fun k _ => by rw [hV 49 (by decide) (by decide) (by decide) (by decide) (by decide)]),
    niSc,
    iRo_cg i2 e7 y7 (fun j h1 h2 => hs j (by omega) (by omega)),
    niUn,
    iSh_cg i4 e9 y9 (fun j h1 h2 => hs j (by omega) (by omega)),
    iRe_cg i5 e10 y10 (by omega) (by omega) (fun j h1 h2 => hs j (by omega) (by omega)) (fun x hx => hs _ (by omega) (by omega)),
    iFl_cg i6 e12 y12 (fun j h1 h2 => hs j (by omega) (by omega))⟩
theorem RelW.sh {V V2 : Nat → Nat → Int32} {s s2 : Nat → Int32} (h : RelW V s) (hV : ∀ p, p ≠ 2 → p ≠ 12 → p ≠ 13 → p ≠ 14 → p ≠ 15 → p ≠ 16 → p ≠ 17 → p ≠ 18 → p ≠ 19 → p ≠ 20 → p ≠ 21 → p ≠ 22 → V2 p = V p) (hs : ∀ j, (j < 3 ∨ 4 ≤ j) → (j < 9 ∨ 10 ≤ j) → (j < 298 ∨ 498 ≤ j) → s2 j = s j) (nSc : wSc V2 s2) (nSh : wSh V2 s2) (nz : wZ V2) (niSc : iSc s2) (niSh : iSh s2) (hmono : nS s ≤ nS s2) (hkd : ∀ x, x < nS s → s2 (298 + 10 * x) = s (298 + 10 * x)) : RelW V2 s2 := by
  obtain ⟨wSc, wGr, wRo, wUn, wPl, wHe, wSh, wRe, wFl, wLi, wBo, wTx, wTc, wz, i1, i2, i3, i4, i5, i6⟩ := h
  obtain ⟨⟨z0, y0⟩, z5, z6, ⟨z7, y7⟩, ⟨z8, y8⟩, ⟨z9, y9⟩, ⟨z10, y10⟩, ⟨z11, y11⟩, ⟨z12, y12⟩, ⟨z13, y13⟩⟩ := id i1
  have e7 : nR s2 = nR s := by unfold nR; rw [hs 7 (by omega) (by omega) (by omega)]
  have e8 : nU s2 = nU s := by unfold nU; rw [hs 8 (by omega) (by omega) (by omega)]
  have e10 : nP s2 = nP s := by unfold nP; rw [hs 10 (by omega) (by omega) (by omega)]
  have e11 : nT s2 = nT s := by unfold nT; rw [hs 11 (by omega) (by omega) (by omega)]
  have e12 : nF s2 = nF s := by unfold nF; rw [hs 12 (by omega) (by omega) (by omega)]
  have e13 : nL s2 = nL s := by unfold nL; rw [hs 13 (by omega) (by omega) (by omega)]
  have e0 : hr s2 = hr s := by unfold hr; rw [hs 0 (by omega) (by omega) (by omega)]
  exact ⟨nSc,
    wGr_cg wGr (fun k _ => by rw [hV 3 (by decide) (by decide) (by decide) (by decide) (by decide) (by decide) (by decide) (by decide) (by decide) (by decide) (by decide) (by decide)]) (fun j h1 h2 => hs j (by omega) (by omega) (by omega)),
    wRo_cg wRo (fun k _ => by rw [hV 4 (by decide) (by decide) (by decide) (by decide) (by decide) (by decide) (by decide) (by decide) (by decide) (by decide) (by decide) (by decide)]) (fun k _ => by rw [hV 5 (by decide) (by decide) (by decide) (by decide) (by decide) (by decide) (by decide) (by decide) (by decide) (by decide) (by decide) (by decide)]) (fun k _ => by rw [hV 6 (by decide) (by decide) (by decide) (by decide) (by decide) (by decide) (by decide) (by decide) (by decide) (by decide) (by decide) (by decide)]) (fun j h1 h2 => hs j (by omega) (by omega) (by omega)) e7 y7,
    wUn_cg wUn (fun k _ => by rw [hV 7 (by decide) (by decide) (by decide) (by decide) (by decide) (by decide) (by decide) (by decide) (by decide) (by decide) (by decide) (by decide)]) (fun k _ => by rw [hV 8 (by decide) (by decide) (by decide) (by decide) (by decide) (by decide) (by decide) (by decide) (by decide) (by decide) (by decide) (by decide)]) (fun k _ => by rw [hV 9 (by decide) (by decide) (by decide) (by decide) (by decide) (by decide) (by decide) (by decide) (by decide) (by decide) (by decide) (by decide)]) (fun k _ => by rw [hV 10 (by decide) (by decide) (by decide) (by decide) (by decide) (by decide) (by decide) (by decide) (by decide) (by decide) (by decide) (by decide)]) (fun j h1 h2 => hs j (by omega) (by omega) (by omega)) e8 y8,
    wPl_cg wPl (fun k _ => by rw [hV 11 (by decide) (by decide) (by decide) (by decide) (by decide) (by decide) (by decide) (by decide) (by decide) (by decide) (by decide) (by decide)]) (fun j h1 h2 => hs j (by omega) (by omega) (by omega)),
    wHe_cg wHe (fun k _ => by rw [hV 37 (by decide) (by decide) (by decide) (by decide) (by decide) (by decide) (by decide) (by decide) (by decide) (by decide) (by decide) (by decide)]) (fun j h1 h2 => hs j (by omega) (by omega) (by omega)),
    nSh,
    wRe_cg wRe (fun k _ => by rw [hV 30 (by decide) (by decide) (by decide) (by decide) (by decide) (by decide) (by decide) (by decide) (by decide) (by decide) (by decide) (by decide)]) (fun k _ => by rw [hV 31 (by decide) (by decide) (by decide) (by decide) (by decide) (by decide) (by decide) (by decide) (by decide) (by decide) (by decide) (by decide)]) (fun k _ => by rw [hV 32 (by decide) (by decide) (by decide) (by decide) (by decide) (by decide) (by decide) (by decide) (by decide) (by decide) (by decide) (by decide)]) (fun k _ => by rw [hV 33 (by decide) (by decide) (by decide) (by decide) (by decide) (by decide) (by decide) (by decide) (by decide) (by decide) (by decide) (by decide)]) (fun k _ => by rw [hV 34 (by decide) (by decide) (by decide) (by decide) (by decide) (by decide) (by decide) (by decide) (by decide) (by decide) (by decide) (by decide)]) (fun k _ => by rw [hV 35 (by decide) (by decide) (by decide) (by decide) (by decide) (by decide) (by decide) (by decide) (by decide) (by decide) (by decide) (by decide)]) (fun k _ => by rw [hV 36 (by decide) (by decide) (by decide) (by decide) (by decide) (by decide) (by decide) (by decide) (by decide) (by decide) (by decide) (by decide)]) (fun j h1 h2 => hs j (by omega) (by omega) (by omega)) e10 y10,
    wFl_cg wFl (fun k _ => by rw [hV 24 (by decide) (by decide) (by decide) (by decide) (by decide) (by decide) (by decide) (by decide) (by decide) (by decide) (by decide) (by decide)]) (fun k _ => by rw [hV 25 (by decide) (by decide) (by decide) (by decide) (by decide) (by decide) (by decide) (by decide) (by decide) (by decide) (by decide) (by decide)]) (fun k _ => by rw [hV 26 (by decide) (by decide) (by decide) (by decide) (by decide) (by decide) (by decide) (by decide) (by decide) (by decide) (by decide) (by decide)]) (fun k _ => by rw [hV 27 (by decide) (by decide) (by decide) (by decide) (by decide) (by decide) (by decide) (by decide) (by decide) (by decide) (by decide) (by decide)]) (fun j h1 h2 => hs j (by omega) (by omega) (by omega)) e12 y12,
    wLi_cg wLi (fun k _ => by rw [hV 28 (by decide) (by decide) (by decide) (by decide) (by decide) (by decide) (by decide) (by decide) (by decide) (by decide) (by decide) (by decide)]) (fun j h1 h2 => hs j (by omega) (by omega) (by omega)) e13 y13,
    wBo_cg wBo (fun k _ => by rw [hV 53 (by decide) (by decide) (by decide) (by decide) (by decide) (by decide) (by decide) (by decide) (by decide) (by decide) (by decide) (by decide)]) (fun j h1 h2 => hs j (by omega) (by omega) (by omega)),
    wTx_cg wTx (fun k _ => by rw [hV 41 (by decide) (by decide) (by decide) (by decide) (by decide) (by decide) (by decide) (by decide) (by decide) (by decide) (by decide) (by decide)]) (fun k _ => by rw [hV 42 (by decide) (by decide) (by decide) (by decide) (by decide) (by decide) (by decide) (by decide) (by decide) (by decide) (by decide) (by decide)]) (fun k _ => by rw [hV 43 (by decide) (by decide) (by decide) (by decide) (by decide) (by decide) (by decide) (by decide) (by decide) (by decide) (by decide) (by decide)]) (fun k _ => by rw [hV 44 (by decide) (by decide) (by decide) (by decide) (by decide) (by decide) (by decide) (by decide) (by decide) (by decide) (by decide) (by decide)]) (fun j h1 h2 => hs j (by omega) (by omega) (by omega)) e11 y11,
    wTc_cg wTc (fun p q1 q2 i _ => by rw [hV p (by omega) (by omega) (by omega) (by omega) (by omega) (by omega) (by omega) (by omega) (by omega) (by omega) (by omega) (by omega)]) (fun p q1 q2 i _ => by rw [hV p (by omega) (by omega) (by omega) (by omega) (by omega) (by omega) (by omega) (by omega) (by omega) (by omega) (by omega) (by omega)]) (fun j h1 h2 => hs j (by omega) (by omega) (by omega)) e11 y11,
    nz,
    niSc,
    iRo_cg i2 e7 y7 (fun j h1 h2 => hs j (by omega) (by omega) (by omega)),
    iUn_cg i3 e8 y8 (by omega) y7 (fun j h1 h2 => hs j (by omega) (by omega) (by omega)) (fun k hk => ⟨hs _ (by omega) (by omega) (by omega), hs _ (by omega) (by omega) (by omega)⟩),
    niSh,
    iRe_cg i5 e10 y10 (by omega) (by omega) (fun j h1 h2 => hs j (by omega) (by omega) (by omega)) hkd,
    iFl_cg i6 e12 y12 (fun j h1 h2 => hs j (by omega) (by omega) (by omega))⟩
theorem RelW.re {V V2 : Nat → Nat → Int32} {s s2 : Nat → Int32} (h : RelW V s) (hV : ∀ p, p ≠ 29 → p ≠ 30 → p ≠ 31 → p ≠ 32 → p ≠ 33 → p ≠ 34 → p ≠ 35 → p ≠ 36 → V2 p = V p) (hs : ∀ j, (j < 10 ∨ 11 ≤ j) → (j < 498 ∨ 1128 ≤ j) → s2 j = s j) (nSc : wSc V2 s2) (nRe : wRe V2 s2) (nz : wZ V2) (niSc : iSc s2) (niRe : iRe s2) : RelW V2 s2 := by
  obtain ⟨wSc, wGr, wRo, wUn, wPl, wHe, wSh, wRe, wFl, wLi, wBo, wTx, wTc, wz, i1, i2, i3, i4, i5, i6⟩ := h
  obtain ⟨⟨z0, y0⟩, z5, z6, ⟨z7, y7⟩, ⟨z8, y8⟩, ⟨z9, y9⟩, ⟨z10, y10⟩, ⟨z11, y11⟩, ⟨z12, y12⟩, ⟨z13, y13⟩⟩ := id i1
  have e7 : nR s2 = nR s := by unfold nR; rw [hs 7 (by omega) (by omega)]
  have e8 : nU s2 = nU s := by unfold nU; rw [hs 8 (by omega) (by omega)]
  have e9 : nS s2 = nS s := by unfold nS; rw [hs 9 (by omega) (by omega)]
  have e11 : nT s2 = nT s := by unfold nT; rw [hs 11 (by omega) (by omega)]
  have e12 : nF s2 = nF s := by unfold nF; rw [hs 12 (by omega) (by omega)]
  have e13 : nL s2 = nL s := by unfold nL; rw [hs 13 (by omega) (by omega)]
  have e0 : hr s2 = hr s := by unfold hr; rw [hs 0 (by omega) (by omega)]
  exact ⟨nSc,
    wGr_cg wGr (fun k _ => by rw [hV 3 (by decide) (by decide) (by decide) (by decide) (by decide) (by decide) (by decide) (by decide)]) (fun j h1 h2 => hs j (by omega) (by omega)),
    wRo_cg wRo (fun k _ => by rw [hV 4 (by decide) (by decide) (by decide) (by decide) (by decide) (by decide) (by decide) (by decide)]) (fun k _ => by rw [hV 5 (by decide) (by decide) (by decide) (by decide) (by decide) (by decide) (by decide) (by decide)]) (fun k _ => by rw [hV 6 (by decide) (by decide) (by decide) (by decide) (by decide) (by decide) (by decide) (by decide)]) (fun j h1 h2 => hs j (by omega) (by omega)) e7 y7,
    wUn_cg wUn (fun k _ => by rw [hV 7 (by decide) (by decide) (by decide) (by decide) (by decide) (by decide) (by decide) (by decide)]) (fun k _ => by rw [hV 8 (by decide) (by decide) (by decide) (by decide) (by decide) (by decide) (by decide) (by decide)]) (fun k _ => by rw [hV 9 (by decide) (by decide) (by decide) (by decide) (by decide) (by decide) (by decide) (by decide)]) (fun k _ => by rw [hV 10 (by decide) (by decide) (by decide) (by decide) (by decide) (by decide) (by decide) (by decide)]) (fun j h1 h2 => hs j (by omega) (by omega)) e8 y8,
    wPl_cg wPl (fun k _ => by rw [hV 11 (by decide) (by decide) (by decide) (by decide) (by decide) (by decide) (by decide) (by decide)]) (fun j h1 h2 => hs j (by omega) (by omega)),
    wHe_cg wHe (fun k _ => by rw [hV 37 (by decide) (by decide) (by decide) (by decide) (by decide) (by decide) (by decide) (by decide)]) (fun j h1 h2 => hs j (by omega) (by omega)),
    wSh_cg wSh (fun k _ => by rw [hV 13 (by decide) (by decide) (by decide) (by decide) (by decide) (by decide) (by decide) (by decide)]) (fun k _ => by rw [hV 14 (by decide) (by decide) (by decide) (by decide) (by decide) (by decide) (by decide) (by decide)]) (fun k _ => by rw [hV 15 (by decide) (by decide) (by decide) (by decide) (by decide) (by decide) (by decide) (by decide)]) (fun k _ => by rw [hV 16 (by decide) (by decide) (by decide) (by decide) (by decide) (by decide) (by decide) (by decide)]) (fun k _ => by rw [hV 17 (by decide) (by decide) (by decide) (by decide) (by decide) (by decide) (by decide) (by decide)]) (fun k _ => by rw [hV 18 (by decide) (by decide) (by decide) (by decide) (by decide) (by decide) (by decide) (by decide)]) (fun k _ => by rw [hV 19 (by decide) (by decide) (by decide) (by decide) (by decide) (by decide) (by decide) (by decide)]) (fun k _ => by rw [hV 20 (by decide) (by decide) (by decide) (by decide) (by decide) (by decide) (by decide) (by decide)]) (fun k _ => by rw [hV 21 (by decide) (by decide) (by decide) (by decide) (by decide) (by decide) (by decide) (by decide)]) (fun k _ => by rw [hV 22 (by decide) (by decide) (by decide) (by decide) (by decide) (by decide) (by decide) (by decide)]) (fun j h1 h2 => hs j (by omega) (by omega)) e9 y9,
    nRe,
    wFl_cg wFl (fun k _ => by rw [hV 24 (by decide) (by decide) (by decide) (by decide) (by decide) (by decide) (by decide) (by decide)]) (fun k _ => by rw [hV 25 (by decide) (by decide) (by decide) (by decide) (by decide) (by decide) (by decide) (by decide)]) (fun k _ => by rw [hV 26 (by decide) (by decide) (by decide) (by decide) (by decide) (by decide) (by decide) (by decide)]) (fun k _ => by rw [hV 27 (by decide) (by decide) (by decide) (by decide) (by decide) (by decide) (by decide) (by decide)]) (fun j h1 h2 => hs j (by omega) (by omega)) e12 y12,
    wLi_cg wLi (fun k _ => by rw [hV 28 (by decide) (by decide) (by decide) (by decide) (by decide) (by decide) (by decide) (by decide)]) (fun j h1 h2 => hs j (by omega) (by omega)) e13 y13,
    wBo_cg wBo (fun k _ => by rw [hV 53 (by decide) (by decide) (by decide) (by decide) (by decide) (by decide) (by decide) (by decide)]) (fun j h1 h2 => hs j (by omega) (by omega)),
    wTx_cg wTx (fun k _ => by rw [hV 41 (by decide) (by decide) (by decide) (by decide) (by decide) (by decide) (by decide) (by decide)]) (fun k _ => by rw [hV 42 (by decide) (by decide) (by decide) (by decide) (by decide) (by decide) (by decide) (by decide)]) (fun k _ => by rw [hV 43 (by decide) (by decide) (by decide) (by decide) (by decide) (by decide) (by decide) (by decide)]) (fun k _ => by rw [hV 44 (by decide) (by decide) (by decide) (by decide) (by decide) (by decide) (by decide) (by decide)]) (fun j h1 h2 => hs j (by omega) (by omega)) e11 y11,
    wTc_cg wTc (fun p q1 q2 i _ => by rw [hV p (by omega) (by omega) (by omega) (by omega) (by omega) (by omega) (by omega) (by omega)]) (fun p q1 q2 i _ => by rw [hV p (by omega) (by omega) (by omega) (by omega) (by omega) (by omega) (by omega) (by omega)]) (fun j h1 h2 => hs j (by omega) (by omega)) e11 y11,
    nz,
    niSc,
    iRo_cg i2 e7 y7 (fun j h1 h2 => hs j (by omega) (by omega)),
    iUn_cg i3 e8 y8 (by omega) y7 (fun j h1 h2 => hs j (by omega) (by omega)) (fun k hk => ⟨hs _ (by omega) (by omega), hs _ (by omega) (by omega)⟩),
    iSh_cg i4 e9 y9 (fun j h1 h2 => hs j (by omega) (by omega)),
    niRe,
    iFl_cg i6 e12 y12 (fun j h1 h2 => hs j (by omega) (by omega))⟩
theorem RelW.fl {V V2 : Nat → Nat → Int32} {s s2 : Nat → Int32} (h : RelW V s) (hV : ∀ p, p ≠ 23 → p ≠ 24 → p ≠ 25 → p ≠ 26 → p ≠ 27 → V2 p = V p) (hs : ∀ j, (j < 12 ∨ 13 ≤ j) → (j < 1128 ∨ 1248 ≤ j) → s2 j = s j) (nSc : wSc V2 s2) (nFl : wFl V2 s2) (niSc : iSc s2) (niFl : iFl s2) : RelW V2 s2 := by
  obtain ⟨wSc, wGr, wRo, wUn, wPl, wHe, wSh, wRe, wFl, wLi, wBo, wTx, wTc, wz, i1, i2, i3, i4, i5, i6⟩ := h
  obtain ⟨⟨z0, y0⟩, z5, z6, ⟨z7, y7⟩, ⟨z8, y8⟩, ⟨z9, y9⟩, ⟨z10, y10⟩, ⟨z11, y11⟩, ⟨z12, y12⟩, ⟨z13, y13⟩⟩ := id i1
  have e7 : nR s2 = nR s := by unfold nR; rw [hs 7 (by omega) (by omega)]
  have e8 : nU s2 = nU s := by unfold nU; rw [hs 8 (by omega) (by omega)]
  have e9 : nS s2 = nS s := by unfold nS; rw [hs 9 (by omega) (by omega)]
  have e10 : nP s2 = nP s := by unfold nP; rw [hs 10 (by omega) (by omega)]
  have e11 : nT s2 = nT s := by unfold nT; rw [hs 11 (by omega) (by omega)]
  have e13 : nL s2 = nL s := by unfold nL; rw [hs 13 (by omega) (by omega)]
  have e0 : hr s2 = hr s := by unfold hr; rw [hs 0 (by omega) (by omega)]
  exact ⟨nSc,
    wGr_cg wGr (fun k _ => by rw [hV 3 (by decide) (by decide) (by decide) (by decide) (by decide)]) (fun j h1 h2 => hs j (by omega) (by omega)),
    wRo_cg wRo (fun k _ => by rw [hV 4 (by decide) (by decide) (by decide) (by decide) (by decide)]) (fun k _ => by rw [hV 5 (by decide) (by decide) (by decide) (by decide) (by decide)]) (fun k _ => by rw [hV 6 (by decide) (by decide) (by decide) (by decide) (by decide)]) (fun j h1 h2 => hs j (by omega) (by omega)) e7 y7,
    wUn_cg wUn (fun k _ => by rw [hV 7 (by decide) (by decide) (by decide) (by decide) (by decide)]) (fun k _ => by rw [hV 8 (by decide) (by decide) (by decide) (by decide) (by decide)]) (fun k _ => by rw [hV 9 (by decide) (by decide) (by decide) (by decide) (by decide)]) (fun k _ => by rw [hV 10 (by decide) (by decide) (by decide) (by decide) (by decide)]) (fun j h1 h2 => hs j (by omega) (by omega)) e8 y8,
    wPl_cg wPl (fun k _ => by rw [hV 11 (by decide) (by decide) (by decide) (by decide) (by decide)]) (fun j h1 h2 => hs j (by omega) (by omega)),
    wHe_cg wHe (fun k _ => by rw [hV 37 (by decide) (by decide) (by decide) (by decide) (by decide)]) (fun j h1 h2 => hs j (by omega) (by omega)),
    wSh_cg wSh (fun k _ => by rw [hV 13 (by decide) (by decide) (by decide) (by decide) (by decide)]) (fun k _ => by rw [hV 14 (by decide) (by decide) (by decide) (by decide) (by decide)]) (fun k _ => by rw [hV 15 (by decide) (by decide) (by decide) (by decide) (by decide)]) (fun k _ => by rw [hV 16 (by decide) (by decide) (by decide) (by decide) (by decide)]) (fun k _ => by rw [hV 17 (by decide) (by decide) (by decide) (by decide) (by decide)]) (fun k _ => by rw [hV 18 (by decide) (by decide) (by decide) (by decide) (by decide)]) (fun k _ => by rw [hV 19 (by decide) (by decide) (by decide) (by decide) (by decide)]) (fun k _ => by rw [hV 20 (by decide) (by decide) (by decide) (by decide) (by decide)]) (fun k _ => by rw [hV 21 (by decide) (by decide) (by decide) (by decide) (by decide)]) (fun k _ => by rw [hV 22 (by decide) (by decide) (by decide) (by decide) (by decide)]) (fun j h1 h2 => hs j (by omega) (by omega)) e9 y9,
    wRe_cg wRe (fun k _ => by rw [hV 30 (by decide) (by decide) (by decide) (by decide) (by decide)]) (fun k _ => by rw [hV 31 (by decide) (by decide) (by decide) (by decide) (by decide)]) (fun k _ => by rw [hV 32 (by decide) (by decide) (by decide) (by decide) (by decide)]) (fun k _ => by rw [hV 33 (by decide) (by decide) (by decide) (by decide) (by decide)]) (fun k _ => by rw [hV 34 (by decide) (by decide) (by decide) (by decide) (by decide)]) (fun k _ => by rw [hV 35 (by decide) (by decide) (by decide) (by decide) (by decide)]) (fun k _ => by rw [hV 36 (by decide) (by decide) (by decide) (by decide) (by decide)]) (fun j h1 h2 => hs j (by omega) (by omega)) e10 y10,
    nFl,
    wLi_cg wLi (fun k _ => by rw [hV 28 (by decide) (by decide) (by decide) (by decide) (by decide)]) (fun j h1 h2 => hs j (by omega) (by omega)) e13 y13,
    wBo_cg wBo (fun k _ => by rw [hV 53 (by decide) (by decide) (by decide) (by decide) (by decide)]) (fun j h1 h2 => hs j (by omega) (by omega)),
    wTx_cg wTx (fun k _ => by rw [hV 41 (by decide) (by decide) (by decide) (by decide) (by decide)]) (fun k _ => by rw [hV 42 (by decide) (by decide) (by decide) (by decide) (by decide)]) (fun k _ => by rw [hV 43 (by decide) (by decide) (by decide) (by decide) (by decide)]) (fun k _ => by rw [hV 44 (by decide) (by decide) (by decide) (by decide) (by decide)]) (fun j h1 h2 => hs j (by omega) (by omega)) e11 y11,
    wTc_cg wTc (fun p q1 q2 i _ => by rw [hV p (by omega) (by omega) (by omega) (by omega) (by omega)]) (fun p q1 q2 i _ => by rw [hV p (by omega) (by omega) (by omega) (by omega) (by omega)]) (fun j h1 h2 => hs j (by omega) (by omega)) e11 y11,
    wZ_cg wz (fun k _ => by rw [hV 18 (by decide) (by decide) (by decide) (by decide) (by decide)]) (fun k _ => by rw [hV 20 (by decide) (by decide) (by decide) (by decide) (by decide)]) (fun k _ => by rw [hV 32 (by decide) (by decide) (by decide) (by decide) (by decide)]) (fun k _ => by rw [hV 36 (by decide) (by decide) (by decide) (by decide) (by decide)]) (fun k _ => by rw [hV 43 (by decide) (by decide) (by decide) (by decide) (by decide)]) (fun k _ => by rw [hV 48 (by decide) (by decide) (by decide) (by decide) (by decide)]) (fun k _ => by rw [hV 49 (by decide) (by decide) (by decide) (by decide) (by decide)]),
    niSc,
    iRo_cg i2 e7 y7 (fun j h1 h2 => hs j (by omega) (by omega)),
    iUn_cg i3 e8 y8 (by omega) y7 (fun j h1 h2 => hs j (by omega) (by omega)) (fun k hk => ⟨hs _ (by omega) (by omega), hs _ (by omega) (by omega)⟩),
    iSh_cg i4 e9 y9 (fun j h1 h2 => hs j (by omega) (by omega)),
    iRe_cg i5 e10 y10 (by omega) (by omega) (fun j h1 h2 => hs j (by omega) (by omega)) (fun x hx => hs _ (by omega) (by omega)),
    niFl⟩
theorem RelW.li {V V2 : Nat → Nat → Int32} {s s2 : Nat → Int32} (h : RelW V s) (hV : ∀ p, p ≠ 23 → p ≠ 28 → V2 p = V p) (hs : ∀ j, (j < 13 ∨ 14 ≤ j) → (j < 1248 ∨ 1278 ≤ j) → s2 j = s j) (nSc : wSc V2 s2) (nLi : wLi V2 s2) (niSc : iSc s2) : RelW V2 s2 := by
  obtain ⟨wSc, wGr, wRo, wUn, wPl, wHe, wSh, wRe, wFl, wLi, wBo, wTx, wTc, wz, i1, i2, i3, i4, i5, i6⟩ := h
  obtain ⟨⟨z0, y0⟩, z5, z6, ⟨z7, y7⟩, ⟨z8, y8⟩, ⟨z9, y9⟩, ⟨z10, y10⟩, ⟨z11, y11⟩, ⟨z12, y12⟩, ⟨z13, y13⟩⟩ := id i1
  have e7 : nR s2 = nR s := by unfold nR; rw [hs 7 (by omega) (by omega)]
  have e8 : nU s2 = nU s := by unfold nU; rw [hs 8 (by omega) (by omega)]
  have e9 : nS s2 = nS s := by unfold nS; rw [hs 9 (by omega) (by omega)]
  have e10 : nP s2 = nP s := by unfold nP; rw [hs 10 (by omega) (by omega)]
  have e11 : nT s2 = nT s := by unfold nT; rw [hs 11 (by omega) (by omega)]
  have e12 : nF s2 = nF s := by unfold nF; rw [hs 12 (by omega) (by omega)]
  have e0 : hr s2 = hr s := by unfold hr; rw [hs 0 (by omega) (by omega)]
  exact ⟨nSc,
    wGr_cg wGr (fun k _ => by rw [hV 3 (by decide) (by decide)]) (fun j h1 h2 => hs j (by omega) (by omega)),
    wRo_cg wRo (fun k _ => by rw [hV 4 (by decide) (by decide)]) (fun k _ => by rw [hV 5 (by decide) (by decide)]) (fun k _ => by rw [hV 6 (by decide) (by decide)]) (fun j h1 h2 => hs j (by omega) (by omega)) e7 y7,
    wUn_cg wUn (fun k _ => by rw [hV 7 (by decide) (by decide)]) (fun k _ => by rw [hV 8 (by decide) (by decide)]) (fun k _ => by rw [hV 9 (by decide) (by decide)]) (fun k _ => by rw [hV 10 (by decide) (by decide)]) (fun j h1 h2 => hs j (by omega) (by omega)) e8 y8,
    wPl_cg wPl (fun k _ => by rw [hV 11 (by decide) (by decide)]) (fun j h1 h2 => hs j (by omega) (by omega)),
    wHe_cg wHe (fun k _ => by rw [hV 37 (by decide) (by decide)]) (fun j h1 h2 => hs j (by omega) (by omega)),
    wSh_cg wSh (fun k _ => by rw [hV 13 (by decide) (by decide)]) (fun k _ => by rw [hV 14 (by decide) (by decide)]) (fun k _ => by rw [hV 15 (by decide) (by decide)]) (fun k _ => by rw [hV 16 (by decide) (by decide)]) (fun k _ => by rw [hV 17 (by decide) (by decide)]) (fun k _ => by rw [hV 18 (by decide) (by decide)]) (fun k _ => by rw [hV 19 (by decide) (by decide)]) (fun k _ => by rw [hV 20 (by decide) (by decide)]) (fun k _ => by rw [hV 21 (by decide) (by decide)]) (fun k _ => by rw [hV 22 (by decide) (by decide)]) (fun j h1 h2 => hs j (by omega) (by omega)) e9 y9,
    wRe_cg wRe (fun k _ => by rw [hV 30 (by decide) (by decide)]) (fun k _ => by rw [hV 31 (by decide) (by decide)]) (fun k _ => by rw [hV 32 (by decide) (by decide)]) (fun k _ => by rw [hV 33 (by decide) (by decide)]) (fun k _ => by rw [hV 34 (by decide) (by decide)]) (fun k _ => by rw [hV 35 (by decide) (by decide)]) (fun k _ => by rw [hV 36 (by decide) (by decide)]) (fun j h1 h2 => hs j (by omega) (by omega)) e10 y10,
    wFl_cg wFl (fun k _ => by rw [hV 24 (by decide) (by decide)]) (fun k _ => by rw [hV 25 (by decide) (by decide)]) (fun k _ => by rw [hV 26 (by decide) (by decide)]) (fun k _ => by rw [hV 27 (by decide) (by decide)]) (fun j h1 h2 => hs j (by omega) (by omega)) e12 y12,
    nLi,
    wBo_cg wBo (fun k _ => by rw [hV 53 (by decide) (by decide)]) (fun j h1 h2 => hs j (by omega) (by omega)),
    wTx_cg wTx (fun k _ => by rw [hV 41 (by decide) (by decide)]) (fun k _ => by rw [hV 42 (by decide) (by decide)]) (fun k _ => by rw [hV 43 (by decide) (by decide)]) (fun k _ => by rw [hV 44 (by decide) (by decide)]) (fun j h1 h2 => hs j (by omega) (by omega)) e11 y11,
    wTc_cg wTc (fun p q1 q2 i _ => by rw [hV p (by omega) (by omega)]) (fun p q1 q2 i _ => by rw [hV p (by omega) (by omega)]) (fun j h1 h2 => hs j (by omega) (by omega)) e11 y11,
    wZ_cg wz (fun k _ => by rw [hV 18 (by decide) (by decide)]) (fun k _ => by rw [hV 20 (by decide) (by decide)]) (fun k _ => by rw [hV 32 (by decide) (by decide)]) (fun k _ => by rw [hV 36 (by decide) (by decide)]) (fun k _ => by rw [hV 43 (by decide) (by decide)]) (fun k _ => by rw [hV 48 (by decide) (by decide)]) (fun k _ => by rw [hV 49 (by decide) (by decide)]),
    niSc,
    iRo_cg i2 e7 y7 (fun j h1 h2 => hs j (by omega) (by omega)),
    iUn_cg i3 e8 y8 (by omega) y7 (fun j h1 h2 => hs j (by omega) (by omega)) (fun k hk => ⟨hs _ (by omega) (by omega), hs _ (by omega) (by omega)⟩),
    iSh_cg i4 e9 y9 (fun j h1 h2 => hs j (by omega) (by omega)),
    iRe_cg i5 e10 y10 (by omega) (by omega) (fun j h1 h2 => hs j (by omega) (by omega)) (fun x hx => hs _ (by omega) (by omega)),
    iFl_cg i6 e12 y12 (fun j h1 h2 => hs j (by omega) (by omega))⟩
theorem RelW.bo {V V2 : Nat → Nat → Int32} {s s2 : Nat → Int32} (h : RelW V s) (hV : ∀ p, p ≠ 53 → V2 p = V p) (hs : ∀ j, (j < 1278 ∨ 1764 ≤ j) → s2 j = s j) (nBo : wBo V2 s2) : RelW V2 s2 := by
  obtain ⟨wSc, wGr, wRo, wUn, wPl, wHe, wSh, wRe, wFl, wLi, wBo, wTx, wTc, wz, i1, i2, i3, i4, i5, i6⟩ := h
  obtain ⟨⟨z0, y0⟩, z5, z6, ⟨z7, y7⟩, ⟨z8, y8⟩, ⟨z9, y9⟩, ⟨z10, y10⟩, ⟨z11, y11⟩, ⟨z12, y12⟩, ⟨z13, y13⟩⟩ := id i1
  have e7 : nR s2 = nR s := by unfold nR; rw [hs 7 (by omega)]
  have e8 : nU s2 = nU s := by unfold nU; rw [hs 8 (by omega)]
  have e9 : nS s2 = nS s := by unfold nS; rw [hs 9 (by omega)]
  have e10 : nP s2 = nP s := by unfold nP; rw [hs 10 (by omega)]
  have e11 : nT s2 = nT s := by unfold nT; rw [hs 11 (by omega)]
  have e12 : nF s2 = nF s := by unfold nF; rw [hs 12 (by omega)]
  have e13 : nL s2 = nL s := by unfold nL; rw [hs 13 (by omega)]
  have e0 : hr s2 = hr s := by unfold hr; rw [hs 0 (by omega)]
  exact ⟨wSc_cg wSc (by rw [hV 2 (by decide)]) (by rw [hV 2 (by decide)]) (by rw [hV 2 (by decide)]) (by rw [hV 2 (by decide)]) (by rw [hV 2 (by decide)]) (by rw [hV 29 (by decide)]) (by rw [hV 29 (by decide)]) (by rw [hV 2 (by decide)]) (by rw [hV 2 (by decide)]) (by rw [hV 12 (by decide)]) (by rw [hV 29 (by decide)]) (by rw [hV 40 (by decide)]) (by rw [hV 23 (by decide)]) (by rw [hV 23 (by decide)]) (fun j hj => hs j (by omega)),
    wGr_cg wGr (fun k _ => by rw [hV 3 (by decide)]) (fun j h1 h2 => hs j (by omega)),
    wRo_cg wRo (fun k _ => by rw [hV 4 (by decide)]) (fun k _ => by rw [hV 5 (by decide)]) (fun k _ => by rw [hV 6 (by decide)]) (fun j h1 h2 => hs j (by omega)) e7 y7,
    wUn_cg wUn (fun k _ => by rw [hV 7 (by decide)]) (fun k _ => by rw [hV 8 (by decide)]) (fun k _ => by rw [hV 9 (by decide)]) (fun k _ => by rw [hV 10 (by decide)]) (fun j h1 h2 => hs j (by omega)) e8 y8,
    wPl_cg wPl (fun k _ => by rw [hV 11 (by decide)]) (fun j h1 h2 => hs j (by omega)),
    wHe_cg wHe (fun k _ => by rw [hV 37 (by decide)]) (fun j h1 h2 => hs j (by omega)),
    wSh_cg wSh (fun k _ => by rw [hV 13 (by decide)]) (fun k _ => by rw [hV 14 (by decide)]) (fun k _ => by rw [hV 15 (by decide)]) (fun k _ => by rw [hV 16 (by decide)]) (fun k _ => by rw [hV 17 (by decide)]) (fun k _ => by rw [hV 18 (by decide)]) (fun k _ => by rw [hV 19 (by decide)]) (fun k _ => by rw [hV 20 (by decide)]) (fun k _ => by rw [hV 21 (by decide)]) (fun k _ => by rw [hV 22 (by decide)]) (fun j h1 h2 => hs j (by omega)) e9 y9,
    wRe_cg wRe (fun k _ => by rw [hV 30 (by decide)]) (fun k _ => by rw [hV 31 (by decide)]) (fun k _ => by rw [hV 32 (by decide)]) (fun k _ => by rw [hV 33 (by decide)]) (fun k _ => by rw [hV 34 (by decide)]) (fun k _ => by rw [hV 35 (by decide)]) (fun k _ => by rw [hV 36 (by decide)]) (fun j h1 h2 => hs j (by omega)) e10 y10,
    wFl_cg wFl (fun k _ => by rw [hV 24 (by decide)]) (fun k _ => by rw [hV 25 (by decide)]) (fun k _ => by rw [hV 26 (by decide)]) (fun k _ => by rw [hV 27 (by decide)]) (fun j h1 h2 => hs j (by omega)) e12 y12,
    wLi_cg wLi (fun k _ => by rw [hV 28 (by decide)]) (fun j h1 h2 => hs j (by omega)) e13 y13,
    nBo,
    wTx_cg wTx (fun k _ => by rw [hV 41 (by decide)]) (fun k _ => by rw [hV 42 (by decide)]) (fun k _ => by rw [hV 43 (by decide)]) (fun k _ => by rw [hV 44 (by decide)]) (fun j h1 h2 => hs j (by omega)) e11 y11,
    wTc_cg wTc (fun p q1 q2 i _ => by rw [hV p (by omega)]) (fun p q1 q2 i _ => by rw [hV p (by omega)]) (fun j h1 h2 => hs j (by omega)) e11 y11,
    wZ_cg wz (fun k _ => by rw [hV 18 (by decide)]) (fun k _ => by rw [hV 20 (by decide)]) (fun k _ => by rw [hV 32 (by decide)]) (fun k _ => by rw [hV 36 (by decide)]) (fun k _ => by rw [hV 43 (by decide)]) (fun k _ => by rw [hV 48 (by decide)]) (fun k _ => by rw [hV 49 (by decide)]),
    iSc_cg i1 (fun j hj => hs j (by omega)),
    iRo_cg i2 e7 y7 (fun j h1 h2 => hs j (by omega)),
    iUn_cg i3 e8 y8 (by omega) y7 (fun j h1 h2 => hs j (by omega)) (fun k hk => ⟨hs _ (by omega), hs _ (by omega)⟩),
    iSh_cg i4 e9 y9 (fun j h1 h2 => hs j (by omega)),
    iRe_cg i5 e10 y10 (by omega) (by omega) (fun j h1 h2 => hs j (by omega)) (fun x hx => hs _ (by omega)),
    iFl_cg i6 e12 y12 (fun j h1 h2 => hs j (by omega))⟩
theorem RelW.tx {V V2 : Nat → Nat → Int32} {s s2 : Nat → Int32} (h : RelW V s) (hV : ∀ p, p ≠ 40 → p ≠ 41 → p ≠ 42 → p ≠ 43 → p ≠ 44 → p ≠ 45 → p ≠ 46 → p ≠ 47 → p ≠ 48 → p ≠ 49 → p ≠ 50 → p ≠ 51 → p ≠ 52 → V2 p = V p) (hs : ∀ j, (j < 11 ∨ 12 ≤ j) → (j < 1764 ∨ 2900 ≤ j) → s2 j = s j) (nSc : wSc V2 s2) (nTx : wTx V2 s2) (nTc : wTc V2 s2) (nz : wZ V2) (niSc : iSc s2) : RelW V2 s2 := by
  obtain ⟨wSc, wGr, wRo, wUn, wPl, wHe, wSh, wRe, wFl, wLi, wBo, wTx, wTc, wz, i1, i2, i3, i4, i5, i6⟩ := h
  obtain ⟨⟨z0, y0⟩, z5, z6, ⟨z7, y7⟩, ⟨z8, y8⟩, ⟨z9, y9⟩, ⟨z10, y10⟩, ⟨z11, y11⟩, ⟨z12, y12⟩, ⟨z13, y13⟩⟩ := id i1
  have e7 : nR s2 = nR s := by unfold nR; rw [hs 7 (by omega) (by omega)]
  have e8 : nU s2 = nU s := by unfold nU; rw [hs 8 (by omega) (by omega)]
  have e9 : nS s2 = nS s := by unfold nS; rw [hs 9 (by omega) (by omega)]
  have e10 : nP s2 = nP s := by unfold nP; rw [hs 10 (by omega) (by omega)]
  have e12 : nF s2 = nF s := by unfold nF; rw [hs 12 (by omega) (by omega)]
  have e13 : nL s2 = nL s := by unfold nL; rw [hs 13 (by omega) (by omega)]
  have e0 : hr s2 = hr s := by unfold hr; rw [hs 0 (by omega) (by omega)]
  exact ⟨nSc,
    wGr_cg wGr (fun k _ => by rw [hV 3 (by decide) (by decide) (by decide) (by decide) (by decide) (by decide) (by decide) (by decide) (by decide) (by decide) (by decide) (by decide) (by decide)]) (fun j h1 h2 => hs j (by omega) (by omega)),
    wRo_cg wRo (fun k _ => by rw [hV 4 (by decide) (by decide) (by decide) (by decide) (by decide) (by decide) (by decide) (by decide) (by decide) (by decide) (by decide) (by decide) (by decide)]) (fun k _ => by rw [hV 5 (by decide) (by decide) (by decide) (by decide) (by decide) (by decide) (by decide) (by decide) (by decide) (by decide) (by decide) (by decide) (by decide)]) (fun k _ => by rw [hV 6 (by decide) (by decide) (by decide) (by decide) (by decide) (by decide) (by decide) (by decide) (by decide) (by decide) (by decide) (by decide) (by decide)]) (fun j h1 h2 => hs j (by omega) (by omega)) e7 y7,
    wUn_cg wUn (fun k _ => by rw [hV 7 (by decide) (by decide) (by decide) (by decide) (by decide) (by decide) (by decide) (by decide) (by decide) (by decide) (by decide) (by decide) (by decide)]) (fun k _ => by rw [hV 8 (by decide) (by decide) (by decide) (by decide) (by decide) (by decide) (by decide) (by decide) (by decide) (by decide) (by decide) (by decide) (by decide)]) (fun k _ => by rw [hV 9 (by decide) (by decide) (by decide) (by decide) (by decide) (by decide) (by decide) (by decide) (by decide) (by decide) (by decide) (by decide) (by decide)]) (fun k _ => by rw [hV 10 (by decide) (by decide) (by decide) (by decide) (by decide) (by decide) (by decide) (by decide) (by decide) (by decide) (by decide) (by decide) (by decide)]) (fun j h1 h2 => hs j (by omega) (by omega)) e8 y8,
    wPl_cg wPl (fun k _ => by rw [hV 11 (by decide) (by decide) (by decide) (by decide) (by decide) (by decide) (by decide) (by decide) (by decide) (by decide) (by decide) (by decide) (by decide)]) (fun j h1 h2 => hs j (by omega) (by omega)),
    wHe_cg wHe (fun k _ => by rw [hV 37 (by decide) (by decide) (by decide) (by decide) (by decide) (by decide) (by decide) (by decide) (by decide) (by decide) (by decide) (by decide) (by decide)]) (fun j h1 h2 => hs j (by omega) (by omega)),
    wSh_cg wSh (fun k _ => by rw [hV 13 (by decide) (by decide) (by decide) (by decide) (by decide) (by decide) (by decide) (by decide) (by decide) (by decide) (by decide) (by decide) (by decide)]) (fun k _ => by rw [hV 14 (by decide) (by decide) (by decide) (by decide) (by decide) (by decide) (by decide) (by decide) (by decide) (by decide) (by decide) (by decide) (by decide)]) (fun k _ => by rw [hV 15 (by decide) (by decide) (by decide) (by decide) (by decide) (by decide) (by decide) (by decide) (by decide) (by decide) (by decide) (by decide) (by decide)]) (fun k _ => by rw [hV 16 (by decide) (by decide) (by decide) (by decide) (by decide) (by decide) (by decide) (by decide) (by decide) (by decide) (by decide) (by decide) (by decide)]) (fun k _ => by rw [hV 17 (by decide) (by decide) (by decide) (by decide) (by decide) (by decide) (by decide) (by decide) (by decide) (by decide) (by decide) (by decide) (by decide)]) (fun k _ => by rw [hV 18 (by decide) (by decide) (by decide) (by decide) (by decide) (by decide) (by decide) (by decide) (by decide) (by decide) (by decide) (by decide) (by decide)]) (fun k _ => by rw [hV 19 (by decide) (by decide) (by decide) (by decide) (by decide) (by decide) (by decide) (by decide) (by decide) (by decide) (by decide) (by decide) (by decide)]) (fun k _ => by rw [hV 20 (by decide) (by decide) (by decide) (by decide) (by decide) (by decide) (by decide) (by decide) (by decide) (by decide) (by decide) (by decide) (by decide)]) (fun k _ => by rw [hV 21 (by decide) (by decide) (by decide) (by decide) (by decide) (by decide) (by decide) (by decide) (by decide) (by decide) (by decide) (by decide) (by decide)]) (fun k _ => by rw [hV 22 (by decide) (by decide) (by decide) (by decide) (by decide) (by decide) (by decide) (by decide) (by decide) (by decide) (by decide) (by decide) (by decide)]) (fun j h1 h2 => hs j (by omega) (by omega)) e9 y9,
    wRe_cg wRe (fun k _ => by rw [hV 30 (by decide) (by decide) (by decide) (by decide) (by decide) (by decide) (by decide) (by decide) (by decide) (by decide) (by decide) (by decide) (by decide)]) (fun k _ => by rw [hV 31 (by decide) (by decide) (by decide) (by decide) (by decide) (by decide) (by decide) (by decide) (by decide) (by decide) (by decide) (by decide) (by decide)]) (fun k _ => by rw [hV 32 (by decide) (by decide) (by decide) (by decide) (by decide) (by decide) (by decide) (by decide) (by decide) (by decide) (by decide) (by decide) (by decide)]) (fun k _ => by rw [hV 33 (by decide) (by decide) (by decide) (by decide) (by decide) (by decide) (by decide) (by decide) (by decide) (by decide) (by decide) (by decide) (by decide)]) (fun k _ => by rw [hV 34 (by decide) (by decide) (by decide) (by decide) (by decide) (by decide) (by decide) (by decide) (by decide) (by decide) (by decide) (by decide) (by decide)]) (fun k _ => by rw [hV 35 (by decide) (by decide) (by decide) (by decide) (by decide) (by decide) (by decide) (by decide) (by decide) (by decide) (by decide) (by decide) (by decide)]) (fun k _ => by rw [hV 36 (by decide) (by decide) (by decide) (by decide) (by decide) (by decide) (by decide) (by decide) (by decide) (by decide) (by decide) (by decide) (by decide)]) (fun j h1 h2 => hs j (by omega) (by omega)) e10 y10,
    wFl_cg wFl (fun k _ => by rw [hV 24 (by decide) (by decide) (by decide) (by decide) (by decide) (by decide) (by decide) (by decide) (by decide) (by decide) (by decide) (by decide) (by decide)]) (fun k _ => by rw [hV 25 (by decide) (by decide) (by decide) (by decide) (by decide) (by decide) (by decide) (by decide) (by decide) (by decide) (by decide) (by decide) (by decide)]) (fun k _ => by rw [hV 26 (by decide) (by decide) (by decide) (by decide) (by decide) (by decide) (by decide) (by decide) (by decide) (by decide) (by decide) (by decide) (by decide)]) (fun k _ => by rw [hV 27 (by decide) (by decide) (by decide) (by decide) (by decide) (by decide) (by decide) (by decide) (by decide) (by decide) (by decide) (by decide) (by decide)]) (fun j h1 h2 => hs j (by omega) (by omega)) e12 y12,
    wLi_cg wLi (fun k _ => by rw [hV 28 (by decide) (by decide) (by decide) (by decide) (by decide) (by decide) (by decide) (by decide) (by decide) (by decide) (by decide) (by decide) (by decide)]) (fun j h1 h2 => hs j (by omega) (by omega)) e13 y13,
    wBo_cg wBo (fun k _ => by rw [hV 53 (by decide) (by decide) (by decide) (by decide) (by decide) (by decide) (by decide) (by decide) (by decide) (by decide) (by decide) (by decide) (by decide)]) (fun j h1 h2 => hs j (by omega) (by omega)),
    nTx,
    nTc,
    nz,
    niSc,
    iRo_cg i2 e7 y7 (fun j h1 h2 => hs j (by omega) (by omega)),
    iUn_cg i3 e8 y8 (by omega) y7 (fun j h1 h2 => hs j (by omega) (by omega)) (fun k hk => ⟨hs _ (by omega) (by omega), hs _ (by omega) (by omega)⟩),
    iSh_cg i4 e9 y9 (fun j h1 h2 => hs j (by omega) (by omega)),
    iRe_cg i5 e10 y10 (by omega) (by omega) (fun j h1 h2 => hs j (by omega) (by omega)) (fun x hx => hs _ (by omega) (by omega)),
    iFl_cg i6 e12 y12 (fun j h1 h2 => hs j (by omega) (by omega))⟩
theorem RelW.hour {V V2 : Nat → Nat → Int32} {s s2 : Nat → Int32} (h : RelW V s) (hV : ∀ p, p ≠ 2 → V2 p = V p) (hs : ∀ j, (j < 0 ∨ 1 ≤ j) → s2 j = s j) (nSc : wSc V2 s2) (niSc : iSc s2) (niRe : iRe s2) : RelW V2 s2 := by
  obtain ⟨wSc, wGr, wRo, wUn, wPl, wHe, wSh, wRe, wFl, wLi, wBo, wTx, wTc, wz, i1, i2, i3, i4, i5, i6⟩ := h
  obtain ⟨⟨z0, y0⟩, z5, z6, ⟨z7, y7⟩, ⟨z8, y8⟩, ⟨z9, y9⟩, ⟨z10, y10⟩, ⟨z11, y11⟩, ⟨z12, y12⟩, ⟨z13, y13⟩⟩ := id i1
  have e7 : nR s2 = nR s := by unfold nR; rw [hs 7 (by omega)]
  have e8 : nU s2 = nU s := by unfold nU; rw [hs 8 (by omega)]
  have e9 : nS s2 = nS s := by unfold nS; rw [hs 9 (by omega)]
  have e10 : nP s2 = nP s := by unfold nP; rw [hs 10 (by omega)]
  have e11 : nT s2 = nT s := by unfold nT; rw [hs 11 (by omega)]
  have e12 : nF s2 = nF s := by unfold nF; rw [hs 12 (by omega)]
  have e13 : nL s2 = nL s := by unfold nL; rw [hs 13 (by omega)]
  exact ⟨nSc,
    wGr_cg wGr (fun k _ => by rw [hV 3 (by decide)]) (fun j h1 h2 => hs j (by omega)),
    wRo_cg wRo (fun k _ => by rw [hV 4 (by decide)]) (fun k _ => by rw [hV 5 (by decide)]) (fun k _ => by rw [hV 6 (by decide)]) (fun j h1 h2 => hs j (by omega)) e7 y7,
    wUn_cg wUn (fun k _ => by rw [hV 7 (by decide)]) (fun k _ => by rw [hV 8 (by decide)]) (fun k _ => by rw [hV 9 (by decide)]) (fun k _ => by rw [hV 10 (by decide)]) (fun j h1 h2 => hs j (by omega)) e8 y8,
    wPl_cg wPl (fun k _ => by rw [hV 11 (by decide)]) (fun j h1 h2 => hs j (by omega)),
    wHe_cg wHe (fun k _ => by rw [hV 37 (by decide)]) (fun j h1 h2 => hs j (by omega)),
    wSh_cg wSh (fun k _ => by rw [hV 13 (by decide)]) (fun k _ => by rw [hV 14 (by decide)]) (fun k _ => by rw [hV 15 (by decide)]) (fun k _ => by rw [hV 16 (by decide)]) (fun k _ => by rw [hV 17 (by decide)]) (fun k _ => by rw [hV 18 (by decide)]) (fun k _ => by rw [hV 19 (by decide)]) (fun k _ => by rw [hV 20 (by decide)]) (fun k _ => by rw [hV 21 (by decide)]) (fun k _ => by rw [hV 22 (by decide)]) (fun j h1 h2 => hs j (by omega)) e9 y9,
    wRe_cg wRe (fun k _ => by rw [hV 30 (by decide)]) (fun k _ => by rw [hV 31 (by decide)]) (fun k _ => by rw [hV 32 (by decide)]) (fun k _ => by rw [hV 33 (by decide)]) (fun k _ => by rw [hV 34 (by decide)]) (fun k _ => by rw [hV 35 (by decide)]) (fun k _ => by rw [hV 36 (by decide)]) (fun j h1 h2 => hs j (by omega)) e10 y10,
    wFl_cg wFl (fun k _ => by rw [hV 24 (by decide)]) (fun k _ => by rw [hV 25 (by decide)]) (fun k _ => by rw [hV 26 (by decide)]) (fun k _ => by rw [hV 27 (by decide)]) (fun j h1 h2 => hs j (by omega)) e12 y12,
    wLi_cg wLi (fun k _ => by rw [hV 28 (by decide)]) (fun j h1 h2 => hs j (by omega)) e13 y13,
    wBo_cg wBo (fun k _ => by rw [hV 53 (by decide)]) (fun j h1 h2 => hs j (by omega)),
    wTx_cg wTx (fun k _ => by rw [hV 41 (by decide)]) (fun k _ => by rw [hV 42 (by decide)]) (fun k _ => by rw [hV 43 (by decide)]) (fun k _ => by rw [hV 44 (by decide)]) (fun j h1 h2 => hs j (by omega)) e11 y11,
    wTc_cg wTc (fun p q1 q2 i _ => by rw [hV p (by omega)]) (fun p q1 q2 i _ => by rw [hV p (by omega)]) (fun j h1 h2 => hs j (by omega)) e11 y11,
    wZ_cg wz (fun k _ => by rw [hV 18 (by decide)]) (fun k _ => by rw [hV 20 (by decide)]) (fun k _ => by rw [hV 32 (by decide)]) (fun k _ => by rw [hV 36 (by decide)]) (fun k _ => by rw [hV 43 (by decide)]) (fun k _ => by rw [hV 48 (by decide)]) (fun k _ => by rw [hV 49 (by decide)]),
    niSc,
    iRo_cg i2 e7 y7 (fun j h1 h2 => hs j (by omega)),
    iUn_cg i3 e8 y8 (by omega) y7 (fun j h1 h2 => hs j (by omega)) (fun k hk => ⟨hs _ (by omega), hs _ (by omega)⟩),
    iSh_cg i4 e9 y9 (fun j h1 h2 => hs j (by omega)),
    niRe,
    iFl_cg i6 e12 y12 (fun j h1 h2 => hs j (by omega))⟩
