/-! reading a clause -/
theorem needs_both {R : eMem} {n p : Nat} {B : Nat → Nat} (hR : TR R n B p) (hB : TB n B p) {c : Nat} (hc : c ≤ 255) :
    (p < n ∧ B p = c → F_X10_needs (nI c) R = some (eI R 0 17 (nI (p + 1)))) ∧ (¬ (p < n ∧ B p = c) → F_X10_needs (nI c) R = some (eI (eI R 0 17 (nI p)) 0 18 1)) := by
  obtain ⟨b1, b2, b3⟩ := hB
  unfold F_X10_needs F_X10_takes F_X10_wrong
  rw [hR.2.2.1, hR.2.2.2, if_pos rfl, if_pos rfl, byteAt_eq hR b1 (by omega)]
  simp only [bS]
  refine ⟨fun q => ?_, fun q => ?_⟩
  · rw [if_pos ((byte_c b3 hc).mpr q), Rad_1]
    rfl
  · rw [if_neg (fun e => q ((byte_c b3 hc).mp e))]
    simp only [bS, ↓reduceIte]
    rw [hR.2.2.2, if_pos rfl, hR.2.2.1]
    rfl
def cOk (C R : eMem) (y e : Nat) : Prop := C.1 45 y = R.1 1 e ∧ C.1 46 y = R.1 1 (e + 1) ∧ ∃ g, g ≤ 4 ∧ C.1 47 y = nI g ∧ R.1 1 (e + 2) = nI g ∧ ∀ i, i < g → tOk C R (4 * y + i) (e + 3 + 5 * i) i
def aK (y : Nat) (q i : Nat) : Prop := (q = 145 ∧ i = 2) ∨ (45 ≤ q ∧ q ≤ 47 ∧ i = y) ∨ (48 ≤ q ∧ q ≤ 52 ∧ 4 * y ≤ i ∧ i < 4 * y + 4)
def aE (e : Nat) (q i : Nat) : Prop := (q = 0 ∧ (i = 17 ∨ i = 18)) ∨ (q = 1 ∧ e ≤ i ∧ i < e + 23)
theorem aTs_K {y : Nat} : ∀ q i, aTs y q i → aK y q i := fun q i h => by unfold aTs at h; unfold aK; omega
theorem aSs_E {e : Nat} : ∀ q i, aSs e q i → aE e q i := fun q i h => by unfold aSs at h; unfold aE; omega
theorem aP_K {y : Nat} : ∀ q i, aP q i → aK y q i := fun q i h => Or.inl h
theorem aQ_E {e : Nat} : ∀ q i, aQ q i → aE e q i := fun q i h => Or.inl h
theorem wrong_needs {R : eMem} (h : R.1 0 18 = 1) (c : Int32) : F_X10_needs c R = some R := by
  unfold F_X10_needs
  rw [h, if_neg (by decide)]
theorem clause_rd {C R : eMem} {n p : Nat} {B : Nat → Nat} (hC : TC C n B p) (hR : TR R n B p) (hB : TB n B p) {y e : Nat} (hy : y < 80) (he : e + 23 ≤ 2900) :
    (∃ C2 R2 p2, F_X6_readClause (nI y) C = some (1, C2) ∧ F_X10_clause (nI e) R = some R2 ∧ TB n B p2 ∧ TC C2 n B p2 ∧ TR R2 n B p2 ∧ fC (aK y) C C2 ∧ fR (aE e) R R2 ∧ cOk C2 R2 y e) ∨
    (∃ C2 R2 p2, F_X6_readClause (nI y) C = some (0, C2) ∧ F_X10_clause (nI e) R = some R2 ∧ C2.1 145 2 = nI p2 ∧ R2.1 0 17 = nI p2 ∧ R2.1 0 18 = 1 ∧ p2 ≤ n ∧ fC (aK y) C C2 ∧ fR (aE e) R R2) := by
  unfold F_X6_readClause F_X10_clause
  rw [Rad_1, Rad_2, eIn_s hy (by omega), cl (show y < 2147483648 by omega), eIn_s (show e < 2900 by omega) (by omega), eIn_s (show e + 1 < 2900 by omega) (by omega), eIn_s (show e + 2 < 2900 by omega) (by omega), cl (show e < 2147483648 by omega), cl (show e + 1 < 2147483648 by omega), cl (show e + 2 < 2147483648 by omega)]
  simp only [eG_tt]
  rcases ckV hC hR hB with ⟨i, C1, R1, p1, a1, a2, a3, a4, a5, a6, a7, a8⟩ | ⟨C1, R1, p1, a2, a3, a4, a5, a6, a7, a8, a9⟩
  · rw [a2, a3]
    simp only [bS]
    rw [if_neg (fun h => by have := nI_pos (n := i) (by omega); rw [h] at this; exact this (by decide))]
    have hR2 : TR (eI (eI R1 1 e (nI i)) 1 (e + 2) 0) n B p1 := a6.fr (by simp (disch := omega) only [eIq_ne, eIq_eq, upd_ne, upd_eq]) (by simp (disch := omega) only [eIq_ne, eIq_eq, upd_ne, upd_eq])
    have gR2 : fR (aE e) R (eI (eI R1 1 e (nI i)) 1 (e + 2) 0) := ((a8.mo aQ_E).tr (fR.w (Or.inr ⟨rfl, by omega, by omega⟩))).tr (fR.w (Or.inr ⟨rfl, by omega, by omega⟩))
    have gC1 := a7.mo (aP_K (y := y))
    obtain ⟨n1, n2⟩ := needs_both hR2 a4 (c := 32) (by omega)
    have ht := take_both a5 hR2 a4 (c := 32) (by omega)
    rw [show nI 32 = 32 from rfl] at n1 n2 ht
    rcases ht with ⟨t1, t2, t3, -, t5⟩ | ⟨t1, t3, -⟩
    · rw [t3, n1 ⟨t1, t2⟩]
      simp only [bS, i10, ↓reduceIte]
      have hC3 := a5.go (p1 + 1)
      have hR3 := hR2.go (p1 + 1)
      rw [hR3.2.2.2, if_pos rfl]
      have gC3 : fC (aK y) C (eI C1 145 2 (nI (p1 + 1))) := gC1.tr (fC.w (Or.inl ⟨rfl, rfl⟩) (fun q => by omega))
      have gR3 : fR (aE e) R (eI (eI (eI R1 1 e (nI i)) 1 (e + 2) 0) 0 17 (nI (p1 + 1))) := gR2.tr (fR.w (Or.inl ⟨rfl, Or.inl rfl⟩))
      have k0 : (eI (eI (eI R1 1 e (nI i)) 1 (e + 2) 0) 0 17 (nI (p1 + 1))).1 1 e = nI i := by simp (disch := omega) only [eIq_ne, eIq_eq, upd_ne, upd_eq]
      have k2 : (eI (eI (eI R1 1 e (nI i)) 1 (e + 2) 0) 0 17 (nI (p1 + 1))).1 1 (e + 2) = 0 := by simp (disch := omega) only [eIq_ne, eIq_eq, upd_ne, upd_eq]
      generalize eI C1 145 2 (nI (p1 + 1)) = C3 at *
      generalize eI (eI (eI R1 1 e (nI i)) 1 (e + 2) 0) 0 17 (nI (p1 + 1)) = R3 at *
      rcases ckK hC3 hR3 t5 with ⟨k, C4, R4, p4, b1, b2, b3, b4, b5, b6, b7, b8⟩ | ⟨C4, R4, p4, b2, b3, b4, b5, b6, b7, b8, b9⟩
      · rw [b2, b3]
        simp only [bS]
        rw [if_neg (fun h => by have := nI_pos (n := k) (by omega); rw [h] at this; exact this (by decide)), b6.2.2.2, if_pos rfl]
        have hC5 : TC (eI (eI (eI C4 45 y (nI i)) 46 y (nI k)) 47 y 0) n B p4 := b5.fr (by simp (disch := omega) only [eIq_ne, eIq_eq, upd_ne, upd_eq]) (by simp (disch := omega) only [eIq_ne, eIq_eq, upd_ne, upd_eq])
        have hR5 : TR (eI R4 1 (e + 1) (nI k)) n B p4 := b6.fr (by simp (disch := omega) only [eIq_ne, eIq_eq, upd_ne, upd_eq]) (by simp (disch := omega) only [eIq_ne, eIq_eq, upd_ne, upd_eq])
        have gC5 : fC (aK y) C (eI (eI (eI C4 45 y (nI i)) 46 y (nI k)) 47 y 0) := (((gC3.tr (b7.mo aP_K)).tr (fC.w (Or.inr (Or.inl ⟨by omega, by omega, rfl⟩)) (fun q => by omega))).tr (fC.w (Or.inr (Or.inl ⟨by omega, by omega, rfl⟩)) (fun q => by omega))).tr (fC.w (Or.inr (Or.inl ⟨by omega, by omega, rfl⟩)) (fun q => by omega))
        have gR5 : fR (aE e) R (eI R4 1 (e + 1) (nI k)) := (gR3.tr (b8.mo aQ_E)).tr (fR.w (Or.inr ⟨rfl, by omega, by omega⟩))
        have m0 : (eI R4 1 (e + 1) (nI k)).1 1 e = nI i := by simp (disch := omega) only [eIq_ne, eIq_eq, upd_ne, upd_eq]; rw [b8 1 e (by unfold aQ; omega)]; exact k0
        have m1 : (eI R4 1 (e + 1) (nI k)).1 1 (e + 1) = nI k := by simp (disch := omega) only [eIq_ne, eIq_eq, upd_ne, upd_eq]
        have m2 : (eI R4 1 (e + 1) (nI k)).1 1 (e + 2) = 0 := by simp (disch := omega) only [eIq_ne, eIq_eq, upd_ne, upd_eq]; rw [b8 1 (e + 2) (by unfold aQ; omega)]; exact k2
        have c45 : (eI (eI (eI C4 45 y (nI i)) 46 y (nI k)) 47 y 0).1 45 y = nI i := by simp (disch := omega) only [eIq_ne, eIq_eq, upd_ne, upd_eq]
        have c46 : (eI (eI (eI C4 45 y (nI i)) 46 y (nI k)) 47 y 0).1 46 y = nI k := by simp (disch := omega) only [eIq_ne, eIq_eq, upd_ne, upd_eq]
        have c47 : (eI (eI (eI C4 45 y (nI i)) 46 y (nI k)) 47 y 0).1 47 y = 0 := by simp (disch := omega) only [eIq_ne, eIq_eq, upd_ne, upd_eq]
        generalize eI (eI (eI C4 45 y (nI i)) 46 y (nI k)) 47 y 0 = C5 at *
        generalize eI R4 1 (e + 1) (nI k) = R5 at *
        have ht := take_both hC5 hR5 b4 (c := 32) (by omega)
        rw [show nI 32 = 32 from rfl] at ht
        rcases ht with ⟨u1, u2, u3, u4, u5⟩ | ⟨u1, u3, u4⟩
        · rw [u3, u4]
          simp only [bS, i10, ↓reduceIte]
          have hC6 := hC5.go (p4 + 1)
          have hR6 := hR5.go (p4 + 1)
          have gC6 : fC (aK y) C (eI C5 145 2 (nI (p4 + 1))) := gC5.tr (fC.w (Or.inl ⟨rfl, rfl⟩) (fun q => by omega))
          have gR6 : fR (aE e) R (eI R5 0 17 (nI (p4 + 1))) := gR5.tr (fR.w (Or.inl ⟨rfl, Or.inl rfl⟩))
          have d0 : (eI R5 0 17 (nI (p4 + 1))).1 1 e = nI i := by simp (disch := omega) only [eIq_ne, eIq_eq, upd_ne, upd_eq]; exact m0
          have d1 : (eI R5 0 17 (nI (p4 + 1))).1 1 (e + 1) = nI k := by simp (disch := omega) only [eIq_ne, eIq_eq, upd_ne, upd_eq]; exact m1
          have d2 : (eI R5 0 17 (nI (p4 + 1))).1 1 (e + 2) = 0 := by simp (disch := omega) only [eIq_ne, eIq_eq, upd_ne, upd_eq]; exact m2
          have d45 : (eI C5 145 2 (nI (p4 + 1))).1 45 y = nI i := by simp (disch := omega) only [eIq_ne, eIq_eq, upd_ne, upd_eq]; exact c45
          have d46 : (eI C5 145 2 (nI (p4 + 1))).1 46 y = nI k := by simp (disch := omega) only [eIq_ne, eIq_eq, upd_ne, upd_eq]; exact c46
          generalize eI C5 145 2 (nI (p4 + 1)) = C6 at *
          generalize eI R5 0 17 (nI (p4 + 1)) = R6 at *
          rcases ckI hC6 hR6 u5 with ⟨i7, C7, R7, p7, h7, f2, f3, f4, f5, f6, f7, f8⟩ | ⟨C7, R7, p7, f2, f3, f4, f5, f6, f7, f8, f9⟩
          · rw [f2, f3]
            simp only [bS]
            rw [if_neg (fun h => by have := nI_pos (n := i7) (by omega); rw [h] at this; exact this (by decide))]
            obtain ⟨n1, n2⟩ := needs_both f6 f4 (c := 32) (by omega)
            have ht := take_both f5 f6 f4 (c := 32) (by omega)
            rw [show nI 32 = 32 from rfl] at n1 n2 ht
            have gC7 := gC6.tr (f7.mo aP_K)
            have gR7 := gR6.tr (f8.mo aQ_E)
            rcases ht with ⟨v1, v2, v3, -, v5⟩ | ⟨v1, v3, -⟩
            · rw [v3, n1 ⟨v1, v2⟩]
              simp only [bS, i10, ↓reduceIte]
              have hC8 := f5.go (p7 + 1)
              have hR8 := f6.go (p7 + 1)
              rw [hR8.2.2.2, if_pos rfl]
              unfold F_X6_readTests F_X10_clause_96
              have gC8 : fC (aK y) C (eI C7 145 2 (nI (p7 + 1))) := gC7.tr (fC.w (Or.inl ⟨rfl, rfl⟩) (fun q => by omega))
              have gR8 : fR (aE e) R (eI R7 0 17 (nI (p7 + 1))) := gR7.tr (fR.w (Or.inl ⟨rfl, Or.inl rfl⟩))
              rcases tests_rd (n := n) (B := B) (y := y) (e := e) hy he 4 0 rfl (by omega) 0 1 _ _ (p7 + 1) hC8 hR8 v5 (by simp (disch := omega) only [eIq_ne, eIq_eq, upd_ne, upd_eq]; rw [f8 1 (e + 2) (by unfold aQ; omega)]; exact d2) (Or.inr rfl) (fun _ => ⟨rfl, rfl⟩) (fun q => by omega) (fun i hi => by omega) eFuel eFuel (by unfold eFuel; omega) (by unfold eFuel; omega) with ⟨C9, R9, p9, g, g1, g2, g3, g4, g5, g6, g7, g8, g9, g10, g11⟩ | ⟨C9, R9, p9, g1, g2, g3, g4, g5, g6, g7, g8⟩
              · rw [show nI 0 = 0 from rfl] at g1
                rw [g1, g2]
                simp only [bS, i10, ↓reduceIte]
                refine Or.inl ⟨C9, R9, p9, rfl, rfl, g3, g4, g5, gC8.tr (g6.mo aTs_K), gR8.tr (g7.mo aSs_E), ?_, ?_, g, g8, g9, g10, g11⟩
                · rw [g6.1 45 y (by unfold aTs; omega), g7 1 e (by unfold aSs; omega)]
                  simp (disch := omega) only [eIq_ne, eIq_eq, upd_ne, upd_eq]
                  rw [f7.1 45 y (by unfold aP; omega), f8 1 e (by unfold aQ; omega), d45, d0]
                · rw [g6.1 46 y (by unfold aTs; omega), g7 1 (e + 1) (by unfold aSs; omega)]
                  simp (disch := omega) only [eIq_ne, eIq_eq, upd_ne, upd_eq]
                  rw [f7.1 46 y (by unfold aP; omega), f8 1 (e + 1) (by unfold aQ; omega), d46, d1]
              · rw [show nI 0 = 0 from rfl] at g1
                rw [g1, g2]
                simp only [bS, ↓reduceIte]
                exact Or.inr ⟨C9, R9, p9, rfl, rfl, g3, g4, g5, g6, gC8.tr (g7.mo aTs_K), gR8.tr (g8.mo aSs_E)⟩
            · rw [v3, n2 v1]
              simp only [bS, ↓reduceIte]
              have h18 : (eI (eI R7 0 17 (nI p7)) 0 18 1).1 0 18 = 1 := by simp (disch := omega) only [eIq_ne, eIq_eq, upd_ne, upd_eq]
              rw [h18, if_neg (by decide)]
              unfold F_X10_clause_96
              obtain ⟨f, hf⟩ : ∃ f, eFuel = f + 1 := ⟨eFuel - 1, by unfold eFuel; omega⟩
              rw [hf, F_X10_clause_98, if_pos rfl]
              exact Or.inr ⟨C7, _, p7, rfl, rfl, f5.2.2, by simp (disch := omega) only [eIq_ne, eIq_eq, upd_ne, upd_eq], by simp (disch := omega) only [eIq_ne, eIq_eq, upd_ne, upd_eq], f4.2.1, gC7, (gR7.tr (fR.w (Or.inl ⟨rfl, Or.inl rfl⟩))).tr (fR.w (Or.inl ⟨rfl, Or.inr rfl⟩))⟩
          · rw [f2, f3]
            simp only [bS, ↓reduceIte]
            rw [wrong_needs f6]
            simp only [bS]
            rw [f6, if_neg (by decide)]
            unfold F_X10_clause_96
            obtain ⟨f, hf⟩ : ∃ f, eFuel = f + 1 := ⟨eFuel - 1, by unfold eFuel; omega⟩
            rw [hf, F_X10_clause_98, if_pos rfl]
            exact Or.inr ⟨C7, R7, p7, rfl, rfl, f4, f5, f6, f7, gC6.tr (f8.mo aP_K), gR6.tr (f9.mo aQ_E)⟩
        · rw [u3, u4]
          simp only [bS, ↓reduceIte]
          exact Or.inl ⟨C5, R5, p4, rfl, rfl, b4, hC5, hR5, gC5, gR5, by rw [c45, m0], by rw [c46, m1], 0, by omega, c47, m2, fun i hi => by omega⟩
      · rw [b2, b3]
        simp only [bS, ↓reduceIte]
        rw [b6, if_neg (by decide)]
        exact Or.inr ⟨C4, _, p4, rfl, rfl, b4, by simp (disch := omega) only [eIq_ne, eIq_eq, upd_ne, upd_eq]; exact b5, by simp (disch := omega) only [eIq_ne, eIq_eq, upd_ne, upd_eq]; exact b6, b7, gC3.tr (b8.mo aP_K), (gR3.tr (b9.mo aQ_E)).tr (fR.w (Or.inr ⟨rfl, by omega, by omega⟩))⟩
    · rw [t3, n2 t1]
      simp only [bS, ↓reduceIte]
      have h18 : (eI (eI (eI (eI R1 1 e (nI i)) 1 (e + 2) 0) 0 17 (nI p1)) 0 18 1).1 0 18 = 1 := by simp (disch := omega) only [eIq_ne, eIq_eq, upd_ne, upd_eq]
      rw [h18, if_neg (by decide)]
      exact Or.inr ⟨C1, _, p1, rfl, rfl, a5.2.2, by simp (disch := omega) only [eIq_ne, eIq_eq, upd_ne, upd_eq], by simp (disch := omega) only [eIq_ne, eIq_eq, upd_ne, upd_eq], a4.2.1, gC1, (gR2.tr (fR.w (Or.inl ⟨rfl, Or.inl rfl⟩))).tr (fR.w (Or.inl ⟨rfl, Or.inr rfl⟩))⟩
  · rw [a2, a3]
    simp only [bS, ↓reduceIte]
    have h18 : (eI (eI R1 1 e 0) 1 (e + 2) 0).1 0 18 = 1 := by simp (disch := omega) only [eIq_ne, eIq_eq, upd_ne, upd_eq]; exact a6
    rw [wrong_needs h18]
    simp only [bS]
    rw [h18, if_neg (by decide)]
    exact Or.inr ⟨C1, _, p1, rfl, rfl, a4, by simp (disch := omega) only [eIq_ne, eIq_eq, upd_ne, upd_eq]; exact a5, by simp (disch := omega) only [eIq_ne, eIq_eq, upd_ne, upd_eq]; exact a6, a7, a8.mo aP_K, ((a9.mo aQ_E).tr (fR.w (Or.inr ⟨rfl, by omega, by omega⟩))).tr (fR.w (Or.inr ⟨rfl, by omega, by omega⟩))⟩
theorem cOk.fr {C R C2 R2 : eMem} {y e : Nat} (h : cOk C R y e) (hc : ∀ q, 45 ≤ q → q ≤ 47 → C2.1 q y = C.1 q y) (hd : ∀ q, 48 ≤ q → q ≤ 52 → ∀ i, i < 4 → C2.1 q (4 * y + i) = C.1 q (4 * y + i)) (hr : ∀ i, e ≤ i → i < e + 23 → R2.1 1 i = R.1 1 i) : cOk C2 R2 y e := by
  obtain ⟨h1, h2, g, h3, h4, h5, h6⟩ := h
  refine ⟨?_, ?_, g, h3, ?_, ?_, fun i hi => (h6 i hi).fr (fun q q1 q2 => hd q q1 q2 i (by omega)) (fun k k1 k2 => hr k (by omega) (by omega))⟩
  · rw [hc 45 (by omega) (by omega), hr e (by omega) (by omega)]; exact h1
  · rw [hc 46 (by omega) (by omega), hr (e + 1) (by omega) (by omega)]; exact h2
  · rw [hc 47 (by omega) (by omega)]; exact h4
  · rw [hr (e + 2) (by omega) (by omega)]; exact h5
def aA (t : Nat) (q i : Nat) : Prop := (q = 145 ∧ i = 2) ∨ (q = 44 ∧ i = t) ∨ (45 ≤ q ∧ q ≤ 47 ∧ 10 * t ≤ i ∧ i < 10 * t + 10) ∨ (48 ≤ q ∧ q ≤ 52 ∧ 40 * t ≤ i ∧ i < 40 * t + 40)
def aB (t : Nat) (q i : Nat) : Prop := (q = 0 ∧ (i = 17 ∨ i = 18)) ∨ (q = 1 ∧ 1768 + 142 * t ≤ i ∧ i < 1906 + 142 * t)
theorem aK_A {t c : Nat} (hc : c < 6) : ∀ q i, aK (10 * t + c) q i → aA t q i := fun q i h => by unfold aK at h; unfold aA; omega
theorem aE_B {t c : Nat} (hc : c < 6) : ∀ q i, aE (1764 + 142 * t + 4 + 23 * c) q i → aB t q i := fun q i h => by unfold aE at h; unfold aB; omega
theorem text_rd {n : Nat} {B : Nat → Nat} {t : Nat} (ht : t < 8) (K : Int32 → Int32 → Int32 → Int32 → eMem → Option (Int32 × eMem)) (v1 v2 : Int32) : ∀ m c, c + m = 6 → 0 < m → ∀ (C R : eMem) (p : Nat), TC C n B p → TR R n B p → TB n B p → (∀ i, i < c → cOk C R (10 * t + i) (1764 + 142 * t + 4 + 23 * i)) → ∀ f1 f2, m < f1 → m + 1 < f2 →
    (∃ C2 R2 g, F_X6_faultOf_50 (fun v2 v3 M => F_X6_faultOf_26 f1 v2 v3 M) (nI t) (nI c) C = some (-1, C2) ∧ F_X10_text_76 K f2 v1 v2 (nI (1764 + 142 * t)) (nI c) 1 R = K v1 v2 (nI (1764 + 142 * t)) (nI g) R2 ∧ R2.1 0 17 = nI n ∧ R2.1 0 18 = 0 ∧ fC (aA t) C C2 ∧ fR (aB t) R R2 ∧ g ≤ 6 ∧ C2.1 44 t = nI g ∧ ∀ i, i < g → cOk C2 R2 (10 * t + i) (1764 + 142 * t + 4 + 23 * i)) ∨
    (∃ C2 R2 g p2, F_X6_faultOf_50 (fun v2 v3 M => F_X6_faultOf_26 f1 v2 v3 M) (nI t) (nI c) C = some (nI p2, C2) ∧ F_X10_text_76 K f2 v1 v2 (nI (1764 + 142 * t)) (nI c) 1 R = K v1 v2 (nI (1764 + 142 * t)) g R2 ∧ R2.1 0 17 = nI p2 ∧ p2 ≤ n ∧ (R2.1 0 18 = 1 ∨ (R2.1 0 18 = 0 ∧ p2 < n)) ∧ fC (aA t) C C2 ∧ fR (aB t) R R2) := by
  intro m
  induction m with
  | zero => intro c _ h; omega
  | succ m ih =>
    intro c hc _ C R p hC hR hB hold f1 f2 h1 h2
    obtain ⟨f1, rfl⟩ : ∃ x, f1 = x + 1 := ⟨f1 - 1, by omega⟩
    obtain ⟨f2, rfl⟩ : ∃ x, f2 = x + 1 + 1 := ⟨f2 - 2, by omega⟩
    unfold F_X6_faultOf_50
    rw [F_X10_text_76, if_neg (show ¬ (1 : Int32) = 0 by decide), Rad_4, Mul_23, nI_add, Mul_10, nI_add, eIn_s ht (by omega), cl (show t < 2147483648 by omega)]
    simp only [eG_tt]
    have hz : ∀ (g : Int32) (M : eMem), F_X10_text_76 K (f2 + 1) v1 v2 (nI (1764 + 142 * t)) g 0 M = K v1 v2 (nI (1764 + 142 * t)) g M := fun g M => by rw [F_X10_text_76, if_pos rfl]
    rcases clause_rd hC hR hB (y := 10 * t + c) (e := 1764 + 142 * t + 4 + 23 * c) (by omega) (by omega) with ⟨C2, R2, p2, a1, a2, a3, a4, a5, a6, a7, a8⟩ | ⟨C2, R2, p2, a1, a2, a3, a4, a5, a6, a7, a8⟩
    · rw [a1, a2]
      simp only [bS, i10, ↓reduceIte]
      rw [a4.1, a4.2.2, a5.2.2.2, if_pos rfl, Rad_1]
      have hC3 : TC (eI C2 44 t (nI (c + 1))) n B p2 := a4.fr (by simp (disch := omega) only [eIq_ne, eIq_eq, upd_ne, upd_eq]) (by simp (disch := omega) only [eIq_ne, eIq_eq, upd_ne, upd_eq])
      have gC3 : fC (aA t) C (eI C2 44 t (nI (c + 1))) := (a6.mo (aK_A (by omega))).tr (fC.w (Or.inr (Or.inl ⟨rfl, rfl⟩)) (fun q => by omega))
      have gR2 := a7.mo (aE_B (t := t) (c := c) (by omega))
      have hall : ∀ i, i < c + 1 → cOk (eI C2 44 t (nI (c + 1))) R2 (10 * t + i) (1764 + 142 * t + 4 + 23 * i) := by
        intro i hi
        by_cases q : i = c
        · subst q
          exact a8.fr (fun q q1 q2 => by simp (disch := omega) only [eIq_ne, eIq_eq, upd_ne, upd_eq]) (fun q q1 q2 i hi => by simp (disch := omega) only [eIq_ne, eIq_eq, upd_ne, upd_eq]) (fun _ _ _ => rfl)
        · refine (hold i (by omega)).fr (fun q q1 q2 => ?_) (fun q q1 q2 k hk => ?_) (fun k k1 k2 => a7 1 k (by unfold aE; omega))
          · have e1 : (eI C2 44 t (nI (c + 1))).1 q (10 * t + i) = C2.1 q (10 * t + i) := by simp (disch := omega) only [eIq_ne, eIq_eq, upd_ne, upd_eq]
            rw [e1, a6.1 q _ (by unfold aK; omega)]
          · have e1 : (eI C2 44 t (nI (c + 1))).1 q (4 * (10 * t + i) + k) = C2.1 q (4 * (10 * t + i) + k) := by simp (disch := omega) only [eIq_ne, eIq_eq, upd_ne, upd_eq]
            rw [e1, a6.1 q _ (by unfold aK; omega)]
      have hn := a3.1
      have hp2 := a3.2.1
      by_cases hc5 : c = 5
      · rw [if_neg (show ¬ nI (c + 1) < 6 from fun q => by have := (lt_lit (n := 6) rfl (by omega)).mp q; omega), hz]
        by_cases hend : p2 = n
        · subst hend
          rw [if_pos rfl]
          exact Or.inl ⟨_, R2, c + 1, rfl, rfl, a5.2.2.1, a5.2.2.2, gC3, gR2, by omega, by simp (disch := omega) only [eIq_ne, eIq_eq, upd_ne, upd_eq], hall⟩
        · rw [if_neg (fun q => hend ((eqN (by omega) (by omega)).mp q))]
          rw [F_X6_faultOf_26, if_neg (show ¬ nI (c + 1) < 6 from fun q => by have := (lt_lit (n := 6) rfl (by omega)).mp q; omega), hC3.2.2]
          exact Or.inr ⟨_, R2, _, p2, rfl, rfl, a5.2.2.1, hp2, Or.inr ⟨a5.2.2.2, by omega⟩, gC3, gR2⟩
      · rw [if_pos (show nI (c + 1) < 6 from (lt_lit (n := 6) rfl (by omega)).mpr (by omega))]
        have ht1 := take_both hC3 a5 a3 (c := 59) (by omega)
        rw [show nI 59 = 59 from rfl] at ht1
        by_cases hend : p2 = n
        · subst hend
          rw [if_pos rfl]
          rcases ht1 with ⟨q1, -⟩ | ⟨-, -, q4⟩
          · omega
          · rw [q4]
            simp only [bS, ↓reduceIte]
            rw [hz]
            exact Or.inl ⟨_, R2, c + 1, rfl, rfl, a5.2.2.1, a5.2.2.2, gC3, gR2, by omega, by simp (disch := omega) only [eIq_ne, eIq_eq, upd_ne, upd_eq], hall⟩
        · rw [if_neg (fun q => hend ((eqN (by omega) (by omega)).mp q))]
          rw [F_X6_faultOf_26, if_pos (show nI (c + 1) < 6 from (lt_lit (n := 6) rfl (by omega)).mpr (by omega)), if_pos ((gt_lit (n := 0) rfl (by omega)).mpr (by omega))]
          rcases ht1 with ⟨q1, q2, q3, q4, q5⟩ | ⟨q1, q3, q4⟩
          · rw [q3, q4]
            simp only [bS, i10, ↓reduceIte]
            have gC4 : fC (aA t) C (eI (eI C2 44 t (nI (c + 1))) 145 2 (nI (p2 + 1))) := gC3.tr (fC.w (Or.inl ⟨rfl, rfl⟩) (fun q => by omega))
            have gR4 : fR (aB t) R (eI R2 0 17 (nI (p2 + 1))) := gR2.tr (fR.w (Or.inl ⟨rfl, Or.inl rfl⟩))
            rcases ih (c + 1) (by omega) (by omega) _ _ (p2 + 1) (hC3.go (p2 + 1)) (a5.go (p2 + 1)) q5 (fun i hi => (hall i hi).fr (fun q q1 q2 => by simp (disch := omega) only [eIq_ne, eIq_eq, upd_ne, upd_eq]) (fun q q1 q2 k hk => by simp (disch := omega) only [eIq_ne, eIq_eq, upd_ne, upd_eq]) (fun k k1 k2 => by simp (disch := omega) only [eIq_ne, eIq_eq, upd_ne, upd_eq])) f1 (f2 + 1) (by omega) (by omega) with ⟨C5, R5, g, g1, g2, g3, g4, g5, g6, g7, g8, g9⟩ | ⟨C5, R5, g, p5, g1, g2, g3, g4, g5, g6, g7⟩
            · exact Or.inl ⟨C5, R5, g, g1, g2, g3, g4, gC4.tr g5, gR4.tr g6, g7, g8, g9⟩
            · exact Or.inr ⟨C5, R5, g, p5, g1, g2, g3, g4, g5, gC4.tr g6, gR4.tr g7⟩
          · rw [q3, q4]
            simp only [bS, ↓reduceIte]
            rw [hz, hC3.2.2]
            exact Or.inr ⟨_, R2, _, p2, rfl, rfl, a5.2.2.1, hp2, Or.inr ⟨a5.2.2.2, by omega⟩, gC3, gR2⟩
    · rw [a1, a2]
      simp only [bS, ↓reduceIte]
      rw [a5, if_neg (show ¬ (1 : Int32) = 0 by decide), hz, a3]
      exact Or.inr ⟨C2, R2, _, p2, rfl, rfl, a4, a6, Or.inl a5, a7.mo (aK_A (by omega)), a8.mo (aE_B (by omega))⟩
/-! text -/
theorem Rel.txt {C C2 R R2 : eMem} (h : Rel C R) (hW : RelW C2.1 (R2.1 1)) (hc0 : C2.1 0 2 = C.1 0 2) (hc : ∀ p, 73 ≤ p → p ≠ 145 → C2.1 p = C.1 p) (r2 : R2.1 0 2 = R.1 0 2) (hr : ∀ p, 2 ≤ p → R2.1 p = R.1 p) (ht : rTape C2 R2) : Rel C2 R2 := by
  obtain ⟨h1, ⟨h2, h3⟩, h4, h5, h6, h7⟩ := h
  refine ⟨hW, ⟨by rw [hc0, r2]; exact h2, ?_⟩, ht, ?_, ?_, wZ_cg h7 ?_ ?_ ?_ ?_ ?_ ?_ ?_⟩
  · rw [r2]
    rcases h3 with h3 | ⟨h3, h3'⟩
    · exact Or.inl h3
    · refine Or.inr ⟨h3, ?_⟩
      rw [hr 2 (by omega)]
      refine h3'.agr ?_ (fun j _ => rfl)
      simp (disch := omega) only [Agr, hc]
      simp
  · intro k hk
    rw [hc 148 (by omega) (by omega), hc 149 (by omega) (by omega), hc (151 + k) (by omega) (by omega), hr 4 (by omega), hr 5 (by omega), hr 6 (by omega)]
    exact h5 k hk
  · intro i hi
    rw [hc 155 (by omega) (by omega), hr 7 (by omega)]
    exact h6 i hi
  all_goals (intro i _; rw [hc _ (by omega) (by omega)])
/-- the texts ahead stand -/
theorem wTc_old {C C2 R R2 : eMem} {t : Nat} (ht : t ≤ 8) (hC : fC (aA t) C C2) (hR : ∀ i, 1764 ≤ i → i < 1764 + 142 * t → R2.1 1 i = R.1 1 i) (a : Nat) (ha : a < t) (h : ∃ n, n ≤ 6 ∧ R.1 1 (1767 + 142 * a) = nI n ∧ ∀ c, c < n → wCl C.1 (R.1 1) a c) : ∃ n, n ≤ 6 ∧ R2.1 1 (1767 + 142 * a) = nI n ∧ ∀ c, c < n → wCl C2.1 (R2.1 1) a c := by
  obtain ⟨n, n1, n2, n3⟩ := h
  refine ⟨n, n1, by rw [hR _ (by omega) (by omega)]; exact n2, fun c hc => ?_⟩
  refine wCl_cg (n3 c hc) (by omega) (by omega) (fun q q1 q2 => hC.1 q _ (by unfold aA; omega)) (fun q q1 q2 x hx => hC.1 q _ (by unfold aA; omega)) (fun i i1 i2 => hR i (by omega) (by omega))
theorem fC.row {A : Nat → Nat → Prop} {C C2 : eMem} (h : fC A C C2) (q : Nat) (hq : ∀ i, ¬ A q i) : C2.1 q = C.1 q := funext fun i => h.1 q i (hq i)
theorem fR.row {A : Nat → Nat → Prop} {C C2 : eMem} (h : fR A C C2) (q : Nat) (hq : ∀ i, ¬ A q i) : C2.1 q = C.1 q := funext fun i => h q i (hq i)
theorem fail_W {C C2 R R2 : eMem} {t : Nat} (h : RelW C.1 (R.1 1)) (hT : nT (R.1 1) = t) (ht : t < 8) (gC : fC (aA t) C C2) (gR : fR (aB t) R R2) : RelW C2.1 (R2.1 1) := by
  obtain ⟨wSc, -, -, -, -, -, -, -, -, -, -, wTx, wTc, wz, i1, -⟩ := id h
  have hs : ∀ j, j < 1764 + 142 * t → R2.1 1 j = R.1 1 j := fun j hj => gR 1 j (by unfold aB; omega)
  have h11 : R2.1 1 11 = nI t := by rw [hs 11 (by omega), ← hT]; exact i1.2.2.2.2.2.2.2.1.1
  have hV1 : RelW (fun p => if p = 145 then C.1 145 else C2.1 p) (R2.1 1) := by
    refine h.tx (fun p p1 p2 p3 p4 p5 p6 p7 p8 p9 p10 p11 p12 p13 => ?_) (fun j j1 j2 => gR 1 j (by unfold aB; omega)) ?_ (wTx_mk (n := t) h11 (by omega) (fun i hi => ?_)) ?_ ?_ (iSc_cg i1 (fun j hj => hs j (by omega)))
    · by_cases e : p = 145
      · subst e; rw [if_pos rfl]
      · rw [if_neg e]; exact gC.row p (fun i => by unfold aA; omega)
    · refine wSc_cg wSc ?_ ?_ ?_ ?_ ?_ ?_ ?_ ?_ ?_ ?_ ?_ ?_ ?_ ?_ (fun j hj => hs j (by omega))
      all_goals (simp only [show ((2 : Nat) = 145) = False by decide, show ((29 : Nat) = 145) = False by decide, show ((12 : Nat) = 145) = False by decide, show ((40 : Nat) = 145) = False by decide, show ((23 : Nat) = 145) = False by decide, ↓reduceIte]; exact gC.1 _ _ (by unfold aA; omega))
    · simp only [show ((41 : Nat) = 145) = False by decide, show ((42 : Nat) = 145) = False by decide, show ((43 : Nat) = 145) = False by decide, show ((44 : Nat) = 145) = False by decide, ↓reduceIte]
      rw [hs _ (by omega), hs _ (by omega), hs _ (by omega), hs _ (by omega), gC.1 41 i (by unfold aA; omega), gC.1 42 i (by unfold aA; omega), gC.1 43 i (by unfold aA; omega), gC.1 44 i (by unfold aA; omega)]
      exact wTx i (by omega)
    · intro i hi
      rw [nT_of h11 (by omega)] at hi
      obtain ⟨m, m1, m2, m3⟩ := wTc_old (R := R) (R2 := R2) (t := t) (by omega) gC (fun j j1 j2 => hs j j2) i hi (wTc i (by omega))
      refine ⟨m, m1, m2, fun c hc => wCl_cg (m3 c hc) (by omega) (by omega) (fun q q1 q2 => ?_) (fun q q1 q2 x hx => ?_) (fun _ _ _ => rfl)⟩
      · show (if q = 145 then C.1 145 else _) _ = _
        rw [if_neg (by omega)]
      · show (if q = 145 then C.1 145 else _) _ = _
        rw [if_neg (by omega)]
    · refine ⟨fun i hi => ?_, fun i hi => ?_, fun i hi => ?_, fun i hi => ?_, fun i hi => ?_, fun i hi => ?_, fun i hi => ?_⟩
      · show (if (18 : Nat) = 145 then C.1 145 else C2.1 18) i = 0 ∨ (if (18 : Nat) = 145 then C.1 145 else C2.1 18) i = 1
        rw [if_neg (by omega), gC.1 18 i (by unfold aA; omega)]; exact wz.1 i hi
      · show (if (20 : Nat) = 145 then C.1 145 else C2.1 20) i = 0 ∨ (if (20 : Nat) = 145 then C.1 145 else C2.1 20) i = 1
        rw [if_neg (by omega), gC.1 20 i (by unfold aA; omega)]; exact wz.2.1 i hi
      · show (if (32 : Nat) = 145 then C.1 145 else C2.1 32) i = 0 ∨ (if (32 : Nat) = 145 then C.1 145 else C2.1 32) i = 1
        rw [if_neg (by omega), gC.1 32 i (by unfold aA; omega)]; exact wz.2.2.1 i hi
      · show (if (36 : Nat) = 145 then C.1 145 else C2.1 36) i = 0 ∨ (if (36 : Nat) = 145 then C.1 145 else C2.1 36) i = 1
        rw [if_neg (by omega), gC.1 36 i (by unfold aA; omega)]; exact wz.2.2.2.1 i hi
      · show (if (43 : Nat) = 145 then C.1 145 else C2.1 43) i = 0 ∨ (if (43 : Nat) = 145 then C.1 145 else C2.1 43) i = 1
        rw [if_neg (by omega), gC.1 43 i (by unfold aA; omega)]; exact wz.2.2.2.2.1 i hi
      · show (if (48 : Nat) = 145 then C.1 145 else C2.1 48) i = 0 ∨ (if (48 : Nat) = 145 then C.1 145 else C2.1 48) i = 1
        rw [if_neg (by omega)]
        rcases gC.2 48 i (Or.inl rfl) with e | e
        · rw [e]; exact wz.2.2.2.2.2.1 i hi
        · exact e
      · show (if (49 : Nat) = 145 then C.1 145 else C2.1 49) i = 0 ∨ (if (49 : Nat) = 145 then C.1 145 else C2.1 49) i = 1
        rw [if_neg (by omega)]
        rcases gC.2 49 i (Or.inr rfl) with e | e
        · rw [e]; exact wz.2.2.2.2.2.2 i hi
        · exact e
  exact hV1.agr (by simp [Agr]) (fun _ _ => rfl)
theorem fail_R {C C2 R R2 : eMem} {t : Nat} (h : Rel C R) (hT : nT (R.1 1) = t) (ht : t < 8) (gC : fC (aA t) C C2) (gR : fR (aB t) R R2) : Rel C2 R2 := by
  refine h.txt (fail_W h.1 hT ht gC gR) (gC.1 0 2 (by unfold aA; omega)) (fun p p1 p2 => gC.row p (fun i => by unfold aA; omega)) (gR 0 2 (by unfold aB; omega)) (fun p hp => gR.row p (fun i => by unfold aB; omega)) ?_
  obtain ⟨n, n1, t1, t2, t3⟩ := h.2.2.1
  refine ⟨n, n1, by rw [gC.1 145 1 (by unfold aA; omega)]; exact t1, by rw [gR 0 3 (by unfold aB; omega)]; exact t2, fun i hi => ?_⟩
  rw [gC.1 146 i (by unfold aA; omega), gR 3 i (by unfold aB; omega)]
  exact t3 i hi
theorem st_text {C R : eMem} (h : Rel C R) (x1 x2 : Int32) : Step (F_X9_text x1 x2 C) (F_X10_text x1 x2 R) := by
  obtain ⟨wSc, wGr, wRo, wUn, wPl, wHe, wSh, wRe, wFl, wLi, wBo, wTx, wTc, wz, i1, i2, i3, i4, i5, i6⟩ := id h.1; obtain ⟨c0, c1, c2, c3, c4, c5, c6, c7, c8, c9, c10, c11, c12, c13⟩ := id wSc; obtain ⟨⟨z0, y0⟩, ⟨f5, g5, y5, z5⟩, ⟨t6, y6, z6⟩, ⟨z7, y7⟩, ⟨z8, y8⟩, ⟨z9, y9⟩, ⟨z10, y10⟩, ⟨z11, y11⟩, ⟨z12, y12⟩, ⟨z13, y13⟩⟩ := id i1
  obtain ⟨n, n1, t1, t2, t3⟩ := h.2.2.1
  unfold F_X9_text F_X10_text
  rcases rng x1 81 80 81 rfl rfl with ⟨a, ha, rfl, e1, e2⟩ | ⟨e1, e2⟩ <;> rw [e1, e2]
  · simp only [bS, i10, ↓reduceIte]
    rcases rng x2 81 80 81 rfl rfl with ⟨b, hb, rfl, e1, e2⟩ | ⟨e1, e2⟩
    · rw [e1]
      simp only [bS, i10, ↓reduceIte]
      have e3 : F_X10_in (nI b) (nI a) 80 = if nI b < nI a then some 0 else some 1 := by
        unfold F_X10_in
        by_cases q : nI b < nI a
        · rw [if_pos q, if_pos q]
        · rw [if_neg q, if_neg q, if_neg (fun e => by have := (gt_lit (n := 80) rfl (by omega)).mp e; omega)]
      rw [e3]
      by_cases q : nI b < nI a
      · rw [if_pos q, if_pos q]; simp only [bS, i10, i00, ↓reduceIte]; exact stf1 h
      · rw [if_neg q, if_neg q]
        simp only [bS, i10, ↓reduceIte]
        rw [c11, z11]
        by_cases q8 : nT (R.1 1) = 8
        · rw [q8, if_neg (by decide), if_pos (by decide)]; exact stf2 h
        · rw [if_pos ((lt_lit (n := 8) rfl (by omega)).mpr (by omega)), if_neg (fun e => q8 ((eq_lit (n := 8) rfl (by omega)).mp e))]
          generalize hT : nT (R.1 1) = t at *
          have ht : t < 8 := by omega
          unfold F_X6_faultOf
          rw [c11, z11, isIn_y (n := 8) rfl (by omega), Mul_142, Ladd_1764]
          simp only [bS, i10, ↓reduceIte]
          obtain ⟨f1, hf1⟩ : ∃ f, eFuel = f + 1 := ⟨eFuel - 1, by unfold eFuel; omega⟩
          have hf1' : 100 < f1 := by unfold eFuel at hf1; omega
          rw [show F_X6_faultOf_26 eFuel (nI t) 0 (eI C 145 2 0) = F_X6_faultOf_50 (fun v2 v3 M => F_X6_faultOf_26 f1 v2 v3 M) (nI t) (nI 0) (eI C 145 2 0) by
            rw [hf1, F_X6_faultOf_26, if_pos (by decide), if_neg (by decide)]; rfl]
          -- the tape
          obtain ⟨B, hB1, hB2, hB3⟩ : ∃ B : Nat → Nat, (∀ i, i < n → B i ≤ 255) ∧ (∀ i, i < n → C.1 146 i = nI (B i)) ∧ ∀ i, i < n → R.1 3 i &&& 255 = nI (B i) := by
            refine ⟨fun i => (C.1 146 i).toNatClampNeg, fun i hi => ?_, fun i hi => ?_, fun i hi => ?_⟩
            · obtain ⟨b, b1, b2, b3⟩ := t3 i hi; show (C.1 146 i).toNatClampNeg ≤ 255; rw [b2, cl (by omega)]; exact b1
            · obtain ⟨b, b1, b2, b3⟩ := t3 i hi; show C.1 146 i = nI (C.1 146 i).toNatClampNeg; rw [b2, cl (by omega)]
            · obtain ⟨b, b1, b2, b3⟩ := t3 i hi; show R.1 3 i &&& 255 = nI (C.1 146 i).toNatClampNeg; rw [b2, b3, cl (by omega)]
          have hC0 : TC (eI C 145 2 0) n B 0 := ⟨by simp (disch := omega) only [eIq_ne, eIq_eq, upd_ne, upd_eq]; exact t1, fun i hi => by simp (disch := omega) only [eIq_ne, eIq_eq, upd_ne, upd_eq]; exact hB2 i hi, by simp (disch := omega) only [eIq_ne, eIq_eq, upd_ne, upd_eq]; rfl⟩
          have hR0 : TR (eI (eI R 0 17 0) 0 18 0) n B 0 := ⟨by simp (disch := omega) only [eIq_ne, eIq_eq, upd_ne, upd_eq]; exact t2, fun i hi => by simp (disch := omega) only [eIq_ne, eIq_eq, upd_ne, upd_eq]; exact hB3 i hi, by simp (disch := omega) only [eIq_ne, eIq_eq, upd_ne, upd_eq]; rfl, by simp (disch := omega) only [eIq_ne, eIq_eq, upd_ne, upd_eq]⟩
          have gC0 : fC (aA t) C (eI C 145 2 0) := fC.w (Or.inl ⟨rfl, rfl⟩) (fun q => by omega)
          have gR0 : fR (aB t) R (eI (eI R 0 17 0) 0 18 0) := (fR.w (Or.inl ⟨rfl, Or.inl rfl⟩)).tr (fR.w (Or.inl ⟨rfl, Or.inr rfl⟩))
          have hwz48 : ∀ {C2 : eMem}, fC (aA t) C C2 → ∀ q, q = 48 ∨ q = 49 → (∀ i, i < 320 → C.1 q i = 0 ∨ C.1 q i = 1) → ∀ i, i < 320 → C2.1 q i = 0 ∨ C2.1 q i = 1 := fun hf q hq hz i hi => by
            rcases hf.2 q i hq with e | e
            · rw [e]; exact hz i hi
            · exact e
          rcases text_rd (n := n) (B := B) ht (fun v1 v2 v3 v4 M => if (M.1 0 18) = 0 then if (M.1 0 17) < (M.1 0 3) then (F_X10_wrong (M.1 0 17) M).bind fun q6 => F_X10_text_156 v1 v2 v3 v4 q6 else F_X10_text_156 v1 v2 v3 v4 M else F_X10_text_156 v1 v2 v3 v4 M) (nI a) (nI b) 6 0 rfl (by omega) _ _ 0 hC0 hR0 ⟨n1, by omega, hB1⟩ (fun i hi => by omega) f1 eFuel (by omega) (by unfold eFuel; omega) with ⟨C2, R2, g, u1, u2, u3, u4, u5, u6, u7, u8, u9⟩ | ⟨C2, R2, g, p2, u1, u2, u3, u4, u5, u6, u7⟩
          · rw [show nI 0 = 0 from rfl] at u1 u2
            rw [show nI 0 = 0 from rfl, u1, u2]
            simp only [bS, ↓reduceIte]
            have gC := gC0.tr u5
            have gR := gR0.tr u6
            have r3 : R2.1 0 3 = nI n := by rw [gR 0 3 (by unfold aB; omega)]; exact t2
            rw [u4, if_pos rfl, u3, r3, if_neg (nI_nlt (Nat.le_refl _) (by omega))]
            unfold F_X7_add F_X10_text_156
            have r11 : R2.1 1 11 = nI t := by rw [gR 1 11 (by unfold aB; omega)]; exact z11
            have r40 : (eI C2 145 1 0).1 40 4 = nI t := by simp (disch := omega) only [eIq_ne, eIq_eq, upd_ne, upd_eq]; rw [gC.1 40 4 (by unfold aA; omega), c11]; exact z11
            rw [r40, isIn_y (n := 8) rfl (by omega), u4, if_pos rfl, eIn_s ht (by omega), cl (show t < 2147483648 by omega), Rad_1 t, Rad_1 (1764 + 142 * t), Rad_2, Rad_3, eIn_s (show 1764 + 142 * t < 2900 by omega) (by omega), eIn_s (show 1764 + 142 * t + 1 < 2900 by omega) (by omega), eIn_s (show 1764 + 142 * t + 2 < 2900 by omega) (by omega), eIn_s (show 1764 + 142 * t + 3 < 2900 by omega) (by omega), cl (show 1764 + 142 * t < 2147483648 by omega), cl (show 1764 + 142 * t + 1 < 2147483648 by omega), cl (show 1764 + 142 * t + 2 < 2147483648 by omega), cl (show 1764 + 142 * t + 3 < 2147483648 by omega)]
            simp only [bS, i10, ↓reduceIte, eG_tt]
            rw [show vp_nar .boolean (0 : Int32) = 0 from rfl]
            simp (disch := omega) only [eIq_ne, eIq_eq, upd_ne, upd_eq]
            rw [r11, Rad_1, nI_pred, show 1764 + 142 * t + 1 = 1765 + 142 * t by omega, show 1764 + 142 * t + 2 = 1766 + 142 * t by omega, show 1764 + 142 * t + 3 = 1767 + 142 * t by omega]
            refine stepI rfl ?_
            have hs : ∀ j, ¬ j = 11 → (j < 1764 + 142 * t ∨ 1906 + 142 * t ≤ j) → (eI (eI (eI (eI (eI (eI R2 1 (1764 + 142 * t) (nI a)) 1 (1765 + 142 * t) (nI b)) 1 (1766 + 142 * t) 0) 1 (1767 + 142 * t) (nI g)) 0 3 0) 1 11 (nI (t + 1))).1 1 j = R.1 1 j := fun j j1 j2 => by
              simp (disch := omega) only [eIq_ne, eIq_eq, upd_ne, upd_eq]
              exact gR 1 j (by unfold aB; omega)
            refine h.txt ?_ (by simp (disch := omega) only [eIq_ne, eIq_eq, upd_ne, upd_eq]; exact gC.1 0 2 (by unfold aA; omega)) (fun p p1 p2 => by simp (disch := omega) only [eIq_ne, eIq_eq, upd_ne, upd_eq]; exact gC.row p (fun i => by unfold aA; omega)) (by simp (disch := omega) only [eIq_ne, eIq_eq, upd_ne, upd_eq]; exact gR 0 2 (by unfold aB; omega)) (fun p hp => by simp (disch := omega) only [eIq_ne, eIq_eq, upd_ne, upd_eq]; exact gR.row p (fun i => by unfold aB; omega)) ⟨0, by omega, by simp (disch := omega) only [eIq_ne, eIq_eq, upd_ne, upd_eq]; rfl, by simp (disch := omega) only [eIq_ne, eIq_eq, upd_ne, upd_eq]; rfl, fun i hi => by omega⟩
            -- the worlds
            have hV1 : RelW (fun p => if p = 145 then C.1 145 else (eI (eI (eI (eI (eI C2 145 1 0) 41 t (nI a)) 42 t (nI b)) 43 t 0) 40 4 (nI (t + 1))).1 p) ((eI (eI (eI (eI (eI (eI R2 1 (1764 + 142 * t) (nI a)) 1 (1765 + 142 * t) (nI b)) 1 (1766 + 142 * t) 0) 1 (1767 + 142 * t) (nI g)) 0 3 0) 1 11 (nI (t + 1))).1 1) := by
              refine h.1.tx (fun p p1 p2 p3 p4 p5 p6 p7 p8 p9 p10 p11 p12 p13 => ?_) (fun j j1 j2 => hs j (by omega) (by omega)) ?_ (wTx_mk (n := t + 1) (by simp (disch := omega) only [eIq_ne, eIq_eq, upd_ne, upd_eq]) (by omega) (fun i hi => ?_)) ?_ ?_ ?_
              · by_cases e : p = 145
                · subst e; rw [if_pos rfl]
                · rw [if_neg e]; simp (disch := omega) only [eIq_ne, eIq_eq, upd_ne, upd_eq]; exact gC.row p (fun i => by unfold aA; omega)
              · have hv2 : (eI (eI (eI (eI (eI C2 145 1 0) 41 t (nI a)) 42 t (nI b)) 43 t 0) 40 4 (nI (t + 1))).1 2 = C.1 2 := by simp (disch := omega) only [eIq_ne, eIq_eq, upd_ne, upd_eq]; exact gC.row 2 (fun i => by unfold aA; omega)
                have hv29 : (eI (eI (eI (eI (eI C2 145 1 0) 41 t (nI a)) 42 t (nI b)) 43 t 0) 40 4 (nI (t + 1))).1 29 = C.1 29 := by simp (disch := omega) only [eIq_ne, eIq_eq, upd_ne, upd_eq]; exact gC.row 29 (fun i => by unfold aA; omega)
                have hv12 : (eI (eI (eI (eI (eI C2 145 1 0) 41 t (nI a)) 42 t (nI b)) 43 t 0) 40 4 (nI (t + 1))).1 12 = C.1 12 := by simp (disch := omega) only [eIq_ne, eIq_eq, upd_ne, upd_eq]; exact gC.row 12 (fun i => by unfold aA; omega)
                have hv23 : (eI (eI (eI (eI (eI C2 145 1 0) 41 t (nI a)) 42 t (nI b)) 43 t 0) 40 4 (nI (t + 1))).1 23 = C.1 23 := by simp (disch := omega) only [eIq_ne, eIq_eq, upd_ne, upd_eq]; exact gC.row 23 (fun i => by unfold aA; omega)
                clear wSc
                unfold wSc
                simp only [show ((2 : Nat) = 145) = False by decide, show ((29 : Nat) = 145) = False by decide, show ((12 : Nat) = 145) = False by decide, show ((40 : Nat) = 145) = False by decide, show ((23 : Nat) = 145) = False by decide, ↓reduceIte]
                rw [hv2, hv29, hv12, hv23, hs 0 (by omega) (by omega), hs 1 (by omega) (by omega), hs 2 (by omega) (by omega), hs 3 (by omega) (by omega), hs 4 (by omega) (by omega), hs 5 (by omega) (by omega), hs 6 (by omega) (by omega), hs 7 (by omega) (by omega), hs 8 (by omega) (by omega), hs 9 (by omega) (by omega), hs 10 (by omega) (by omega), hs 12 (by omega) (by omega), hs 13 (by omega) (by omega)]
                exact ⟨c0, c1, c2, c3, c4, c5, c6, c7, c8, c9, c10, by simp (disch := omega) only [eIq_ne, eIq_eq, upd_ne, upd_eq], c12, c13⟩
              · simp only [show ((41 : Nat) = 145) = False by decide, show ((42 : Nat) = 145) = False by decide, show ((43 : Nat) = 145) = False by decide, show ((44 : Nat) = 145) = False by decide, ↓reduceIte]
                by_cases e : i = t
                · subst e
                  refine ⟨by simp (disch := omega) only [eIq_ne, eIq_eq, upd_ne, upd_eq], by simp (disch := omega) only [eIq_ne, eIq_eq, upd_ne, upd_eq], by simp (disch := omega) only [eIq_ne, eIq_eq, upd_ne, upd_eq], by simp (disch := omega) only [eIq_ne, eIq_eq, upd_ne, upd_eq]; exact u8⟩
                · obtain ⟨w1, w2, w3, w4⟩ := wTx i (by omega)
                  rw [hs _ (by omega) (by omega), hs _ (by omega) (by omega), hs _ (by omega) (by omega), hs _ (by omega) (by omega)]
                  refine ⟨?_, ?_, ?_, ?_⟩
                  · simp (disch := omega) only [eIq_ne, eIq_eq, upd_ne, upd_eq]; rw [gC.1 41 i (by unfold aA; omega)]; exact w1
                  · simp (disch := omega) only [eIq_ne, eIq_eq, upd_ne, upd_eq]; rw [gC.1 42 i (by unfold aA; omega)]; exact w2
                  · simp (disch := omega) only [eIq_ne, eIq_eq, upd_ne, upd_eq]; rw [gC.1 43 i (by unfold aA; omega)]; exact w3
                  · simp (disch := omega) only [eIq_ne, eIq_eq, upd_ne, upd_eq]; rw [gC.1 44 i (by unfold aA; omega)]; exact w4
              · intro i hi
                rw [nT_of (n := t + 1) (by simp (disch := omega) only [eIq_ne, eIq_eq, upd_ne, upd_eq]) (by omega)] at hi
                have hrow : ∀ q, 45 ≤ q → q ≤ 52 → (if q = 145 then C.1 145 else (eI (eI (eI (eI (eI C2 145 1 0) 41 t (nI a)) 42 t (nI b)) 43 t 0) 40 4 (nI (t + 1))).1 q) = C2.1 q := fun q q1 q2 => by rw [if_neg (by omega)]; simp (disch := omega) only [eIq_ne, eIq_eq, upd_ne, upd_eq]
                by_cases e : i = t
                · subst e
                  refine ⟨g, u7, by simp (disch := omega) only [eIq_ne, eIq_eq, upd_ne, upd_eq], fun c hc => ?_⟩
                  obtain ⟨k1, k2, u, k3, k4, k5, k6⟩ := u9 c hc
                  have hr : ∀ j, 1768 + 142 * i ≤ j → j < 1906 + 142 * i → (eI (eI (eI (eI (eI (eI R2 1 (1764 + 142 * i) (nI a)) 1 (1765 + 142 * i) (nI b)) 1 (1766 + 142 * i) 0) 1 (1767 + 142 * i) (nI g)) 0 3 0) 1 11 (nI (i + 1))).1 1 j = R2.1 1 j := fun j j1 j2 => by simp (disch := omega) only [eIq_ne, eIq_eq, upd_ne, upd_eq]
                  have e0 : 1764 + 142 * i + 4 + 23 * c = 1768 + 142 * i + 23 * c := by omega
                  rw [e0] at k1 k2 k5 k6
                  rw [show 1768 + 142 * i + 23 * c + 1 = 1769 + 142 * i + 23 * c by omega] at k2
                  rw [show 1768 + 142 * i + 23 * c + 2 = 1770 + 142 * i + 23 * c by omega] at k5
                  unfold wCl
                  simp only []
                  rw [hrow 45 (by omega) (by omega), hrow 46 (by omega) (by omega), hrow 47 (by omega) (by omega), hr _ (by omega) (by omega), hr _ (by omega) (by omega), hr _ (by omega) (by omega)]
                  refine ⟨k1, k2, u, k3, k4, k5, fun j hj => ?_⟩
                  have e7 := k6 j hj
                  have e8 : 1768 + 142 * i + 23 * c + 3 + 5 * j = 1771 + 142 * i + 23 * c + 5 * j := by omega
                  rw [e8] at e7
                  obtain ⟨o1, o2, o3, o4, o5, o6, o7, o8⟩ := e7
                  unfold wTe
                  simp only []
                  rw [hrow 48 (by omega) (by omega), hrow 49 (by omega) (by omega), hrow 50 (by omega) (by omega), hrow 51 (by omega) (by omega), hrow 52 (by omega) (by omega), hr (1771 + 142 * i + 23 * c + 5 * j) (by omega) (by omega), hr (1772 + 142 * i + 23 * c + 5 * j) (by omega) (by omega), hr (1773 + 142 * i + 23 * c + 5 * j) (by omega) (by omega), hr (1774 + 142 * i + 23 * c + 5 * j) (by omega) (by omega), hr (1775 + 142 * i + 23 * c + 5 * j) (by omega) (by omega)]
                  rw [show 1771 + 142 * i + 23 * c + 5 * j + 1 = 1772 + 142 * i + 23 * c + 5 * j by omega] at o3
                  rw [show 1771 + 142 * i + 23 * c + 5 * j + 2 = 1773 + 142 * i + 23 * c + 5 * j by omega] at o4
                  rw [show 1771 + 142 * i + 23 * c + 5 * j + 3 = 1774 + 142 * i + 23 * c + 5 * j by omega] at o5
                  rw [show 1771 + 142 * i + 23 * c + 5 * j + 4 = 1775 + 142 * i + 23 * c + 5 * j by omega] at o6 o7 o8
                  exact ⟨o1, o3, o4, o5, o2, o6, o7, o8⟩
                · obtain ⟨m, m1, m2, m3⟩ := wTc_old (C2 := C2) (R2 := (eI (eI (eI (eI (eI (eI R2 1 (1764 + 142 * t) (nI a)) 1 (1765 + 142 * t) (nI b)) 1 (1766 + 142 * t) 0) 1 (1767 + 142 * t) (nI g)) 0 3 0) 1 11 (nI (t + 1)))) (t := t) (by omega) gC (fun j j1 j2 => hs j (by omega) (by omega)) i (by omega) (wTc i (by omega))
                  refine ⟨m, m1, m2, fun c hc => wCl_cg (m3 c hc) (by omega) (by omega) (fun q q1 q2 => ?_) (fun q q1 q2 x hx => ?_) (fun _ _ _ => rfl)⟩
                  · show (if q = 145 then C.1 145 else _) _ = _
                    rw [hrow q (by omega) (by omega)]
                  · show (if q = 145 then C.1 145 else _) _ = _
                    rw [hrow q (by omega) (by omega)]
              · have hz2 : ∀ q, q < 53 → q ≠ 41 → q ≠ 42 → q ≠ 43 → q ≠ 40 → (if q = 145 then C.1 145 else (eI (eI (eI (eI (eI C2 145 1 0) 41 t (nI a)) 42 t (nI b)) 43 t 0) 40 4 (nI (t + 1))).1 q) = C2.1 q := fun q q1 q2 q3 q4 q5 => by rw [if_neg (by omega)]; simp (disch := omega) only [eIq_ne, eIq_eq, upd_ne, upd_eq]
                refine ⟨fun i hi => ?_, fun i hi => ?_, fun i hi => ?_, fun i hi => ?_, fun i hi => ?_, fun i hi => ?_, fun i hi => ?_⟩
                · simp only []; rw [hz2 18 (by omega) (by omega) (by omega) (by omega) (by omega), gC.1 18 i (by unfold aA; omega)]; exact wz.1 i hi
                · simp only []; rw [hz2 20 (by omega) (by omega) (by omega) (by omega) (by omega), gC.1 20 i (by unfold aA; omega)]; exact wz.2.1 i hi
                · simp only []; rw [hz2 32 (by omega) (by omega) (by omega) (by omega) (by omega), gC.1 32 i (by unfold aA; omega)]; exact wz.2.2.1 i hi
                · simp only []; rw [hz2 36 (by omega) (by omega) (by omega) (by omega) (by omega), gC.1 36 i (by unfold aA; omega)]; exact wz.2.2.2.1 i hi
                · simp only [show ((43 : Nat) = 145) = False by decide, ↓reduceIte]
                  simp (disch := omega) only [eIq_ne, eIq_eq, upd_ne, upd_eq]
                  by_cases e : i = t
                  · subst e; simp (disch := omega) only [eIq_ne, eIq_eq, upd_ne, upd_eq]; exact Or.inl trivial
                  · simp (disch := omega) only [eIq_ne, eIq_eq, upd_ne, upd_eq]; rw [gC.1 43 i (by unfold aA; omega)]; exact wz.2.2.2.2.1 i hi
                · simp only []; rw [hz2 48 (by omega) (by omega) (by omega) (by omega) (by omega)]; exact hwz48 gC 48 (Or.inl rfl) wz.2.2.2.2.2.1 i hi
                · simp only []; rw [hz2 49 (by omega) (by omega) (by omega) (by omega) (by omega)]; exact hwz48 gC 49 (Or.inr rfl) wz.2.2.2.2.2.2 i hi
              · have hs2 : ∀ j, j < 14 → ¬ j = 11 → ∀ x, R.1 1 j = x → (eI (eI (eI (eI (eI (eI R2 1 (1764 + 142 * t) (nI a)) 1 (1765 + 142 * t) (nI b)) 1 (1766 + 142 * t) 0) 1 (1767 + 142 * t) (nI g)) 0 3 0) 1 11 (nI (t + 1))).1 1 j = x := fun j j1 j2 x hx => (hs j j2 (by omega)).trans hx
                exact iSc_mk (h := hr (R.1 1)) (f := f5) (t := t6) (a := nR (R.1 1)) (b := nU (R.1 1)) (c := nS (R.1 1)) (d := nP (R.1 1)) (e := t + 1) (g := nF (R.1 1)) (i := nL (R.1 1)) (hs2 0 (by omega) (by omega) _ z0) y0 (hs2 5 (by omega) (by omega) _ z5) g5 y5 (hs2 6 (by omega) (by omega) _ z6) y6 (hs2 7 (by omega) (by omega) _ z7) y7 (hs2 8 (by omega) (by omega) _ z8) y8 (hs2 9 (by omega) (by omega) _ z9) y9 (hs2 10 (by omega) (by omega) _ z10) y10 (by simp (disch := omega) only [eIq_ne, eIq_eq, upd_ne, upd_eq]) (by omega) (hs2 12 (by omega) (by omega) _ z12) y12 (hs2 13 (by omega) (by omega) _ z13) y13
            exact hV1.agr (by simp [Agr]) (fun _ _ => rfl)
          · rw [show nI 0 = 0 from rfl] at u1 u2
            rw [show nI 0 = 0 from rfl, u1, u2]
            simp only [bS]
            have gC := gC0.tr u6
            have gR := gR0.tr u7
            have r3 : R2.1 0 3 = nI n := by rw [gR 0 3 (by unfold aB; omega)]; exact t2
            rw [if_neg (fun e => by have := nI_pos (n := p2) (by omega); rw [e] at this; exact this (by decide)), u3, r3]
            rcases u5 with u5 | ⟨u5, u8⟩
            · rw [u5, if_neg (by decide)]
              unfold F_X10_text_156
              rw [u5, if_neg (by decide), u3]
              exact stepI rfl (fail_R h hT ht gC gR)
            · rw [u5, if_pos rfl, if_pos (nI_lt u8 (by omega))]
              unfold F_X10_wrong
              rw [u5, if_pos rfl]
              simp only [bS]
              unfold F_X10_text_156
              have h18 : (eI (eI R2 0 17 (nI p2)) 0 18 1).1 0 18 = 1 := by simp (disch := omega) only [eIq_ne, eIq_eq, upd_ne, upd_eq]
              have h17 : (eI (eI R2 0 17 (nI p2)) 0 18 1).1 0 17 = nI p2 := by simp (disch := omega) only [eIq_ne, eIq_eq, upd_ne, upd_eq]
              rw [h18, if_neg (by decide), h17]
              exact stepI rfl (fail_R h hT ht gC ((gR.tr (fR.w (Or.inl ⟨rfl, Or.inl rfl⟩))).tr (fR.w (Or.inl ⟨rfl, Or.inr rfl⟩))))
    · have e3 : F_X10_in x2 (nI a) 80 = some 0 := by
        rcases in01 x2 (nI a) 80 with ⟨-, g1, g2⟩ | g
        · have h0 : ¬ x2 < 0 := fun q => g1 (by
            rw [Int32.lt_iff_toInt_lt] at q ⊢
            rw [nI_toInt (by omega)]
            have e : (0 : Int32).toInt = 0 := rfl
            omega)
          unfold F_X10_in at e2
          rw [if_neg h0, if_neg g2] at e2
          cases e2
        · exact g
      rw [e1, e3]
      simp only [bS, i10, i00, ↓reduceIte]
      exact stf1 h
  · simp only [bS, i10, i00, ↓reduceIte]
    exact stf1 h
