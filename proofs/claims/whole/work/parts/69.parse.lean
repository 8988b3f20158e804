/-! reading a test, a clause, a text -/
theorem take_both {C R : eMem} {n p : Nat} {B : Nat → Nat} (hC : TC C n B p) (hR : TR R n B p) (hB : TB n B p) {c : Nat} (hc : c ≤ 255) :
    (p < n ∧ B p = c ∧ F_X6_take (nI c) C = some (1, eI C 145 2 (nI (p + 1))) ∧ F_X10_takes (nI c) R = some (1, eI R 0 17 (nI (p + 1))) ∧ TB n B (p + 1)) ∨
    (¬ (p < n ∧ B p = c) ∧ F_X6_take (nI c) C = some (0, C) ∧ F_X10_takes (nI c) R = some (0, R)) := by
  obtain ⟨b1, b2, b3⟩ := hB
  unfold F_X6_take F_X10_takes
  rw [hC.1, hC.2.2, hR.2.2.1, hR.2.2.2, if_pos rfl, byteAt_eq hR b1 (by omega)]
  simp only [bS]
  by_cases q : p < n ∧ B p = c
  · rw [if_pos ((byte_c b3 hc).mpr q), if_pos (nI_lt q.1 (by omega)), eIn_s (by omega) (by omega), cl (by omega), hC.2.1 p q.1, if_pos (by rw [q.2]), eG_tt, Rad_1]
    exact Or.inl ⟨q.1, q.2, rfl, rfl, b1, by omega, b3⟩
  · rw [if_neg (fun e => q ((byte_c b3 hc).mp e))]
    refine Or.inr ⟨q, ?_, rfl⟩
    by_cases q2 : p < n
    · rw [if_pos (nI_lt q2 (by omega)), eIn_s (by omega) (by omega), cl (by omega), hC.2.1 p q2, if_neg (fun e => q ⟨q2, (eqN (by have := b3 p q2; omega) (by omega)).mp e⟩), eG_tt]
    · rw [if_neg (nI_nlt (by omega) (by omega))]
theorem dig_both (K : Int32 → Int32 → Int32 → Int32 → Int32 → eMem → Option (Int32 × eMem)) (K' : Int32 → Int32 → eMem → Option (Int32 × eMem)) (v2 v3 v4 : Int32) {n : Nat} {B : Nat → Nat} (s : Nat) : ∀ m d, d + m = 4 → ∀ (v : Int32) C R, TC C n B (s + d) → TR R n B (s + d) → TB n B (s + d) → ∀ f1 f2, m < f1 → m < f2 →
    ∃ d' v' C2 R2, d ≤ d' ∧ F_X6_readTest_51 K f1 v2 v3 v4 (nI s) v C = K v2 v3 v4 (nI s) v' C2 ∧ F_X10_digits_4 K' f2 v (nI d) R = K' v' (nI d') R2 ∧ d' ≤ 4 ∧ TB n B (s + d') ∧ TC C2 n B (s + d') ∧ TR R2 n B (s + d') ∧ fC aP C C2 ∧ fR aQ R R2 := by
  intro m
  induction m with
  | zero =>
    intro d hd v C R hC hR hB f1 f2 h1 h2
    obtain ⟨f1, rfl⟩ : ∃ x, f1 = x + 1 := ⟨f1 - 1, by omega⟩
    obtain ⟨f2, rfl⟩ : ∃ x, f2 = x + 1 := ⟨f2 - 1, by omega⟩
    have e : d = 4 := by omega
    subst e
    obtain ⟨b1, b2, b3⟩ := hB
    rw [F_X6_readTest_51, F_X10_digits_4, hC.1, hC.2.2, Rad_4, if_neg (show ¬ nI 4 < 4 by decide)]
    refine ⟨4, v, C, R, Nat.le_refl _, ?_, rfl, Nat.le_refl _, ⟨b1, b2, b3⟩, hC, hR, fC.rf, fR.rf⟩
    by_cases q : s + 4 < n
    · rw [if_pos (nI_lt q (by omega)), if_neg (nI_nlt (by omega) (by omega))]
    · rw [if_neg (nI_nlt (by omega) (by omega))]
  | succ m ih =>
    intro d hd v C R hC hR hB f1 f2 h1 h2
    obtain ⟨f1, rfl⟩ : ∃ x, f1 = x + 1 := ⟨f1 - 1, by omega⟩
    obtain ⟨f2, rfl⟩ : ∃ x, f2 = x + 1 := ⟨f2 - 1, by omega⟩
    obtain ⟨b1, b2, b3⟩ := id hB
    rw [F_X6_readTest_51, F_X10_digits_4, hC.1, hC.2.2, Rad_4, if_pos (show nI d < 4 from (lt_lit (n := 4) rfl (by omega)).mpr (by omega)), hR.2.2.1, byteAt_eq hR b1 (by omega)]
    simp only [bS]
    by_cases q : s + d < n
    · rw [if_pos (nI_lt q (by omega)), if_pos (nI_lt (by omega) (by omega)), if_pos q, eIn_s (by omega) (by omega), cl (by omega), hC.2.1 _ q, eG_tt, btw]
      rcases in01 (nI (B (s + d))) 48 57 with ⟨e, -⟩ | e <;> rw [e]
      · simp only [bS, i10, ↓reduceIte, eG_tt]
        rw [Rad_1, Rad_1]
        obtain ⟨d', v', C2, R2, g1, g2, g3, g4, g5, g6, g7, g8, g9⟩ := ih (d + 1) (by omega) (10 * v + nI (B (s + d)) - 48) (eI C 145 2 (nI (s + d + 1))) (eI R 0 17 (nI (s + d + 1))) (hC.go _) (hR.go _) ⟨b1, by omega, b3⟩ f1 f2 (by omega) (by omega)
        exact ⟨d', v', C2, R2, by omega, g2, g3, g4, g5, g6, g7, (fC.w ⟨rfl, rfl⟩ (fun q => by omega)).tr g8, (fR.w ⟨rfl, Or.inl rfl⟩).tr g9⟩
      · simp only [bS, ↓reduceIte]
        exact ⟨d, v, C, R, Nat.le_refl _, rfl, rfl, by omega, hB, hC, hR, fC.rf, fR.rf⟩
    · rw [if_neg (nI_nlt (by omega) (by omega)), if_neg q, show F_X10_in (-1) 48 57 = some 0 by decide]
      simp only [bS, ↓reduceIte]
      exact ⟨d, v, C, R, Nat.le_refl _, rfl, rfl, by omega, hB, hC, hR, fC.rf, fR.rf⟩
/-- what a test may change: x its number in the class; b its place, e its counter's, in the reference -/
def aT (x : Nat) (q i : Nat) : Prop := (q = 145 ∧ i = 2) ∨ ((q = 48 ∨ q = 50 ∨ q = 51 ∨ q = 52) ∧ i = x)
def aS (b e : Nat) (q i : Nat) : Prop := (q = 0 ∧ (i = 17 ∨ i = 18)) ∨ (q = 1 ∧ ((b ≤ i ∧ i < b + 5) ∨ i = e))
theorem nar01 {v : Int32} (h : v = 0 ∨ v = 1) : vp_nar .boolean v = v := by rcases h with rfl | rfl <;> rfl
theorem aP_T {x : Nat} : ∀ q i, aP q i → aT x q i := fun q i h => Or.inl h
theorem aQ_S {b e : Nat} : ∀ q i, aQ q i → aS b e q i := fun q i h => Or.inl h
theorem test_rd {C R : eMem} {n p : Nat} {B : Nat → Nat} (hC : TC C n B p) (hR : TR R n B p) (hB : TB n B p) {x e j : Nat} (hx : x < 320) (he : e + 3 + 5 * j + 5 ≤ 2900) (hj : j < 4) (hn : R.1 1 (e + 2) = nI j) (fr : Int32) (hfr : fr = 0 ∨ fr = 1) :
    (∃ C2 R2 p2, F_X6_readTest (nI x) C = some (1, C2) ∧ F_X10_test (nI e) fr R = some R2 ∧ TB n B p2 ∧ TC C2 n B p2 ∧ TR R2 n B p2 ∧ fC (aT x) C C2 ∧ fR (aS (e + 3 + 5 * j) (e + 2)) R R2 ∧
      (C2.1 48 x = R2.1 1 (e + 3 + 5 * j) ∧ (R2.1 1 (e + 3 + 5 * j) = 0 ∨ R2.1 1 (e + 3 + 5 * j) = 1) ∧ (∃ f, f ≤ 4 ∧ C2.1 50 x = nI f ∧ R2.1 1 (e + 3 + 5 * j + 1) = nI f) ∧ sgn (C2.1 51 x) (R2.1 1 (e + 3 + 5 * j + 2)) ∧ C2.1 52 x = R2.1 1 (e + 3 + 5 * j + 3) ∧ R2.1 1 (e + 3 + 5 * j + 4) = fr ∧ R2.1 1 (e + 2) = nI (j + 1))) ∨
    (∃ C2 R2 p2, F_X6_readTest (nI x) C = some (0, C2) ∧ F_X10_test (nI e) fr R = some R2 ∧ C2.1 145 2 = nI p2 ∧ R2.1 0 17 = nI p2 ∧ R2.1 0 18 = 1 ∧ p2 ≤ n ∧ fC (aT x) C C2 ∧ fR (aS (e + 3 + 5 * j) (e + 2)) R R2) := by
  unfold F_X6_readTest F_X10_test
  rw [show (33 : Int32) = nI 33 from rfl, Rad_2, Rad_3, eIn_s (show e + 2 < 2900 by omega) (by omega), cl (show e + 2 < 2147483648 by omega), hn, Mul_5, nI_add]
  simp only [eG_tt]
  generalize hb : e + 3 + 5 * j = b
  have hcore : ∀ (v : Int32) (C0 R0 : eMem) (p0 : Nat), (v = 0 ∨ v = 1) → TC C0 n B p0 → TR R0 n B p0 → TB n B p0 → fC (aT x) C C0 → fR (aS b (e + 2)) R R0 → R0.1 1 (e + 2) = nI j →
      ∀ q1 : Int32 × eMem, q1 = (v, C0) →
      (∃ C2 R2 p2, ((F_X6_choose_v4 (eI q1.2 48 (nI x).toNatClampNeg (vp_nar .boolean q1.1))).bind fun q2 =>
          if q2.1 = (-1) then some (0, q2.2) else
          (F_X6_choose_v5 q2.2).bind fun q3 =>
          if q3.1 = (-1) then some (0, q3.2) else
          F_X6_readTest_51 (fun v2 v3 v4 v5 v6 M => eG (eIn v2 320) <| eG (eIn v2 320) <| eG (eIn v2 320) <|
            if v5 < (M.1 145 2) then some (1, (eI (eI (eI M 50 v2.toNatClampNeg v3) 51 v2.toNatClampNeg v4) 52 v2.toNatClampNeg v6))
            else some (0, (eI (eI (eI M 50 v2.toNatClampNeg v3) 51 v2.toNatClampNeg v4) 52 v2.toNatClampNeg v6)))
            eFuel (nI x) q2.1 q3.1 (q3.2.1 145 2) 0 q3.2) = some (1, C2) ∧ F_X10_test_34 (nI e) fr (nI b) v (nI b) R0 = some R2 ∧ TB n B p2 ∧ TC C2 n B p2 ∧ TR R2 n B p2 ∧ fC (aT x) C C2 ∧ fR (aS b (e + 2)) R R2 ∧
        (C2.1 48 x = R2.1 1 b ∧ (R2.1 1 b = 0 ∨ R2.1 1 b = 1) ∧ (∃ f, f ≤ 4 ∧ C2.1 50 x = nI f ∧ R2.1 1 (b + 1) = nI f) ∧ sgn (C2.1 51 x) (R2.1 1 (b + 2)) ∧ C2.1 52 x = R2.1 1 (b + 3) ∧ R2.1 1 (b + 4) = fr ∧ R2.1 1 (e + 2) = nI (j + 1))) ∨
      (∃ C2 R2 p2, ((F_X6_choose_v4 (eI q1.2 48 (nI x).toNatClampNeg (vp_nar .boolean q1.1))).bind fun q2 =>
          if q2.1 = (-1) then some (0, q2.2) else
          (F_X6_choose_v5 q2.2).bind fun q3 =>
          if q3.1 = (-1) then some (0, q3.2) else
          F_X6_readTest_51 (fun v2 v3 v4 v5 v6 M => eG (eIn v2 320) <| eG (eIn v2 320) <| eG (eIn v2 320) <|
            if v5 < (M.1 145 2) then some (1, (eI (eI (eI M 50 v2.toNatClampNeg v3) 51 v2.toNatClampNeg v4) 52 v2.toNatClampNeg v6))
            else some (0, (eI (eI (eI M 50 v2.toNatClampNeg v3) 51 v2.toNatClampNeg v4) 52 v2.toNatClampNeg v6)))
            eFuel (nI x) q2.1 q3.1 (q3.2.1 145 2) 0 q3.2) = some (0, C2) ∧ F_X10_test_34 (nI e) fr (nI b) v (nI b) R0 = some R2 ∧ C2.1 145 2 = nI p2 ∧ R2.1 0 17 = nI p2 ∧ R2.1 0 18 = 1 ∧ p2 ≤ n ∧ fC (aT x) C C2 ∧ fR (aS b (e + 2)) R R2) := by
    intro v C0 R0 p0 hv hC0 hR0 hB0 gC0 gR0 hn0 q1 hq1
    subst hq1
    unfold F_X10_test_34
    rw [cl (show x < 2147483648 by omega), nar01 hv, hR0.2.2.2, eIn_s (show b < 2900 by omega) (by omega), cl (show b < 2147483648 by omega), if_pos rfl]
    simp only [eG_tt]
    have gC1 : fC (aT x) C (eI C0 48 x v) := gC0.tr (fC.w (Or.inr ⟨Or.inl rfl, rfl⟩) (fun _ => hv))
    have gR1 : fR (aS b (e + 2)) R (eI R0 1 b v) := gR0.tr (fR.w (Or.inr ⟨rfl, Or.inl ⟨by omega, by omega⟩⟩))
    have hC1 : TC (eI C0 48 x v) n B p0 := hC0.fr (by simp (disch := omega) only [eIq_ne, eIq_eq, upd_ne, upd_eq]) (by simp (disch := omega) only [eIq_ne, eIq_eq, upd_ne, upd_eq])
    have hR1 : TR (eI R0 1 b v) n B p0 := hR0.fr (by simp (disch := omega) only [eIq_ne, eIq_eq, upd_ne, upd_eq]) (by simp (disch := omega) only [eIq_ne, eIq_eq, upd_ne, upd_eq])
    rcases ckF hC1 hR1 hB0 with ⟨i, C2, R2, p2, a1, a2, a3, a4, a5, a6, a7, a8⟩ | ⟨C2, R2, p2, a2, a3, a4, a5, a6, a7, a8, a9⟩
    · rw [a2, a3]
      simp only [bS]
      rw [if_neg (fun h => by have := nI_pos (n := i) (by omega); rw [h] at this; exact this (by decide))]
      unfold F_X10_test_61
      rw [Rad_1, eIn_s (show b + 1 < 2900 by omega) (by omega), cl (show b + 1 < 2147483648 by omega), a6.2.2.2, a6.2.2.1, if_pos rfl]
      simp only [eG_tt]
      have hR3 : TR (eI R2 1 (b + 1) (nI i)) n B p2 := a6.fr (by simp (disch := omega) only [eIq_ne, eIq_eq, upd_ne, upd_eq]) (by simp (disch := omega) only [eIq_ne, eIq_eq, upd_ne, upd_eq])
      have k48 : C2.1 48 x = v := by rw [a7.1 48 x (by unfold aP; omega)]; simp (disch := omega) only [eIq_ne, eIq_eq, upd_ne, upd_eq]
      have kb : R2.1 1 b = v := by rw [a8 1 b (by unfold aQ; omega)]; simp (disch := omega) only [eIq_ne, eIq_eq, upd_ne, upd_eq]
      have ke : R2.1 1 (e + 2) = nI j := by rw [a8 1 (e + 2) (by unfold aQ; omega)]; simp (disch := omega) only [eIq_ne, eIq_eq, upd_ne, upd_eq]; exact hn0
      have gC2 := gC1.tr (a7.mo (A' := aT x) aP_T)
      have gR2 := (gR1.tr (a8.mo (A' := aS b (e + 2)) aQ_S)).tr (fR.w (C := R2) (p := 1) (i := b + 1) (v := nI i) (Or.inr ⟨rfl, Or.inl ⟨by omega, by omega⟩⟩))
      rcases ckS a5 hR3 a4 with ⟨sx, sy, C3, s1, s2, s3, s4, s5, s6, s7, s8⟩ | ⟨sy, C3, s1, s2, s3, s4, s5, s6, s7⟩
      · rw [s1, s3]
        simp only [bS]
        rw [if_neg s2]
        have h110 : (if sy = 61 then F_X10_test_110 (nI e) fr (nI b) sy (eI R2 1 (b + 1) (nI i)) else if sy = 60 then F_X10_test_110 (nI e) fr (nI b) sy (eI R2 1 (b + 1) (nI i)) else if sy = 62 then F_X10_test_110 (nI e) fr (nI b) sy (eI R2 1 (b + 1) (nI i)) else (F_X10_wrong (nI p2) (eI R2 1 (b + 1) (nI i))).bind fun q5 => some q5) = F_X10_test_110 (nI e) fr (nI b) sy (eI R2 1 (b + 1) (nI i)) := by
          rcases s4 with ⟨-, h⟩ | ⟨-, h⟩ | ⟨-, h⟩
          · rw [if_pos h]
          · rw [if_neg (by rw [h]; decide), if_pos h]
          · rw [if_neg (by rw [h]; decide), if_neg (by rw [h]; decide), if_pos h]
        have hat : (eI R2 1 (b + 1) (nI i)).1 0 17 = nI p2 := by simp (disch := omega) only [eIq_ne, eIq_eq, upd_ne, upd_eq]; exact a6.2.2.1
        rw [h110]
        unfold F_X10_test_110 F_X10_digits
        rw [Rad_2, hat, Rad_1, eIn_s (show b + 2 < 2900 by omega) (by omega), cl (show b + 2 < 2147483648 by omega), s6.2.2]
        simp only [eG_tt]
        have hR4 : TR (eI (eI (eI R2 1 (b + 1) (nI i)) 0 17 (nI (p2 + 1))) 1 (b + 2) sy) n B (p2 + 1) := s7.fr (by simp (disch := omega) only [eIq_ne, eIq_eq, upd_ne, upd_eq]) (by simp (disch := omega) only [eIq_ne, eIq_eq, upd_ne, upd_eq])
        have gR4 := (gR2.tr (fR.w (C := eI R2 1 (b + 1) (nI i)) (p := 0) (i := 17) (v := nI (p2 + 1)) (A := aS b (e + 2)) (Or.inl ⟨rfl, Or.inl rfl⟩))).tr (fR.w (C := eI (eI R2 1 (b + 1) (nI i)) 0 17 (nI (p2 + 1))) (p := 1) (i := b + 2) (v := sy) (Or.inr ⟨rfl, Or.inl ⟨by omega, by omega⟩⟩))
        have gC3 := gC2.tr (s8.mo (A' := aT x) aP_T)
        obtain ⟨d', v', C4, R4, d1, d2, d3, d4, d5, d6, d7, d8, d9⟩ := dig_both (fun v2 v3 v4 v5 v6 M => eG (eIn v2 320) <| eG (eIn v2 320) <| eG (eIn v2 320) <|
            if v5 < (M.1 145 2) then some (1, (eI (eI (eI M 50 v2.toNatClampNeg v3) 51 v2.toNatClampNeg v4) 52 v2.toNatClampNeg v6))
            else some (0, (eI (eI (eI M 50 v2.toNatClampNeg v3) 51 v2.toNatClampNeg v4) 52 v2.toNatClampNeg v6))) (fun v1 v2 M => if v2 = 0 then (F_X10_wrong (M.1 0 17) M).bind fun q4 => some (v1, q4) else some (v1, M)) (nI x) (nI i) sx (p2 + 1) 4 0 rfl 0 C3 _ s6 hR4 s5 eFuel eFuel (by unfold eFuel; omega) (by unfold eFuel; omega)
        rw [show nI 0 = 0 from rfl] at d3
        rw [d2, d3, d6.2.2, eIn_s hx (by omega), cl (show x < 2147483648 by omega)]
        simp only [eG_tt]
        have gC5 : fC (aT x) C (eI (eI (eI C4 50 x (nI i)) 51 x sx) 52 x v') := (((gC3.tr (d8.mo (A' := aT x) aP_T)).tr (fC.w (Or.inr ⟨Or.inr (Or.inl rfl), rfl⟩) (fun q => by omega))).tr (fC.w (Or.inr ⟨Or.inr (Or.inr (Or.inl rfl)), rfl⟩) (fun q => by omega))).tr (fC.w (Or.inr ⟨Or.inr (Or.inr (Or.inr rfl)), rfl⟩) (fun q => by omega))
        have gR5 := gR4.tr (d9.mo (A' := aS b (e + 2)) aQ_S)
        have m48 : C4.1 48 x = v := by rw [d8.1 48 x (by unfold aP; omega), s8.1 48 x (by unfold aP; omega)]; exact k48
        have mb : R4.1 1 b = v := by rw [d9 1 b (by unfold aQ; omega)]; simp (disch := omega) only [eIq_ne, eIq_eq, upd_ne, upd_eq]; exact kb
        have mb1 : R4.1 1 (b + 1) = nI i := by rw [d9 1 (b + 1) (by unfold aQ; omega)]; simp (disch := omega) only [eIq_ne, eIq_eq, upd_ne, upd_eq]
        have mb2 : R4.1 1 (b + 2) = sy := by rw [d9 1 (b + 2) (by unfold aQ; omega)]; simp (disch := omega) only [eIq_ne, eIq_eq, upd_ne, upd_eq]
        have me : R4.1 1 (e + 2) = nI j := by rw [d9 1 (e + 2) (by unfold aQ; omega)]; simp (disch := omega) only [eIq_ne, eIq_eq, upd_ne, upd_eq]; exact ke
        have h158 : ∀ R5 : eMem, R5.1 1 (e + 2) = nI j → (if fr = 0 then F_X10_test_158 (nI e) 0 (nI b + 4) (eI R5 1 (b + 3) v') else F_X10_test_158 (nI e) 1 (nI b + 4) (eI R5 1 (b + 3) v')) = some (eI (eI (eI R5 1 (b + 3) v') 1 (b + 4) fr) 1 (e + 2) (nI (j + 1))) := by
          intro R5 h5
          have h6 : ∀ w : Int32, F_X10_test_158 (nI e) w (nI b + 4) (eI R5 1 (b + 3) v') = some (eI (eI (eI R5 1 (b + 3) v') 1 (b + 4) w) 1 (e + 2) (nI (j + 1))) := by
            intro w
            unfold F_X10_test_158
            rw [Rad_4, Rad_2, eIn_s (show b + 4 < 2900 by omega) (by omega), eIn_s (show e + 2 < 2900 by omega) (by omega), cl (show b + 4 < 2147483648 by omega), cl (show e + 2 < 2147483648 by omega)]
            simp only [eG_tt]
            simp (disch := omega) only [eIq_ne, eIq_eq, upd_ne, upd_eq]
            rw [h5, Rad_1]
          rcases hfr with rfl | rfl
          · rw [if_pos rfl, h6]
          · rw [if_neg (by decide), h6]
        by_cases hd : d' = 0
        · subst hd
          have hd51 := d5.1
          have hd52 := d5.2.1
          rw [if_neg (nI_nlt (by omega) (by omega)), if_pos (show nI 0 = 0 from rfl)]
          unfold F_X10_wrong
          rw [d7.2.2.2, if_pos rfl]
          simp only [bS]
          rw [Rad_3, eIn_s (show b + 3 < 2900 by omega) (by omega), cl (show b + 3 < 2147483648 by omega), eG_tt, h158 _ (by simp (disch := omega) only [eIq_ne, eIq_eq, upd_ne, upd_eq]; exact me), d7.2.2.1]
          refine Or.inr ⟨_, _, p2 + 1 + 0, rfl, rfl, by simp (disch := omega) only [eIq_ne, eIq_eq, upd_ne, upd_eq]; exact d6.2.2, by simp (disch := omega) only [eIq_ne, eIq_eq, upd_ne, upd_eq], by simp (disch := omega) only [eIq_ne, eIq_eq, upd_ne, upd_eq], d5.2.1, gC5, ((((gR5.tr (fR.w (Or.inl ⟨rfl, Or.inl rfl⟩))).tr (fR.w (Or.inl ⟨rfl, Or.inr rfl⟩))).tr (fR.w (Or.inr ⟨rfl, Or.inl ⟨by omega, by omega⟩⟩))).tr (fR.w (Or.inr ⟨rfl, Or.inl ⟨by omega, by omega⟩⟩))).tr (fR.w (Or.inr ⟨rfl, Or.inr rfl⟩))⟩
        · rw [if_pos (nI_lt (by omega) (by have := d5.1; have := d5.2.1; omega)), if_neg (nI_ne0 (by omega) (by omega))]
          simp only [bS]
          rw [Rad_3, eIn_s (show b + 3 < 2900 by omega) (by omega), cl (show b + 3 < 2147483648 by omega), eG_tt, h158 _ me]
          refine Or.inl ⟨_, _, p2 + 1 + d', rfl, rfl, d5, d6.fr (by simp (disch := omega) only [eIq_ne, eIq_eq, upd_ne, upd_eq]) (by simp (disch := omega) only [eIq_ne, eIq_eq, upd_ne, upd_eq]), d7.fr (by simp (disch := omega) only [eIq_ne, eIq_eq, upd_ne, upd_eq]) (by simp (disch := omega) only [eIq_ne, eIq_eq, upd_ne, upd_eq]), gC5, ((gR5.tr (fR.w (Or.inr ⟨rfl, Or.inl ⟨by omega, by omega⟩⟩))).tr (fR.w (Or.inr ⟨rfl, Or.inl ⟨by omega, by omega⟩⟩))).tr (fR.w (Or.inr ⟨rfl, Or.inr rfl⟩)), ?_, ?_, ⟨i, by omega, ?_, ?_⟩, ?_, ?_, ?_, ?_⟩
          · simp (disch := omega) only [eIq_ne, eIq_eq, upd_ne, upd_eq]; rw [m48, mb]
          · simp (disch := omega) only [eIq_ne, eIq_eq, upd_ne, upd_eq]; rw [mb]; exact hv
          · simp (disch := omega) only [eIq_ne, eIq_eq, upd_ne, upd_eq]
          · simp (disch := omega) only [eIq_ne, eIq_eq, upd_ne, upd_eq]; exact mb1
          · simp (disch := omega) only [eIq_ne, eIq_eq, upd_ne, upd_eq]; rw [mb2]; exact s4
          · simp (disch := omega) only [eIq_ne, eIq_eq, upd_ne, upd_eq]
          · simp (disch := omega) only [eIq_ne, eIq_eq, upd_ne, upd_eq]
          · simp (disch := omega) only [eIq_ne, eIq_eq, upd_ne, upd_eq]
      · rw [s1, s2]
        simp only [bS, ↓reduceIte]
        rw [if_neg s3, if_neg s4, if_neg s5]
        have hw18 : (eI R2 1 (b + 1) (nI i)).1 0 18 = 0 := by simp (disch := omega) only [eIq_ne, eIq_eq, upd_ne, upd_eq]; exact a6.2.2.2
        unfold F_X10_wrong
        rw [hw18, if_pos rfl]
        simp only [bS]
        exact Or.inr ⟨_, _, p2, rfl, rfl, s6, by simp (disch := omega) only [eIq_ne, eIq_eq, upd_ne, upd_eq], by simp (disch := omega) only [eIq_ne, eIq_eq, upd_ne, upd_eq], a4.2.1, gC2.tr (s7.mo (A' := aT x) aP_T), (gR2.tr (fR.w (Or.inl ⟨rfl, Or.inl rfl⟩))).tr (fR.w (Or.inl ⟨rfl, Or.inr rfl⟩))⟩
    · rw [a2, a3]
      simp only [bS, ↓reduceIte]
      unfold F_X10_test_61
      rw [Rad_1, eIn_s (show b + 1 < 2900 by omega) (by omega), cl (show b + 1 < 2147483648 by omega), a6, if_neg (by decide), eG_tt]
      exact Or.inr ⟨_, _, p2, rfl, rfl, a4, by simp (disch := omega) only [eIq_ne, eIq_eq, upd_ne, upd_eq]; exact a5, by simp (disch := omega) only [eIq_ne, eIq_eq, upd_ne, upd_eq]; exact a6, a7, gC1.tr (a8.mo (A' := aT x) aP_T), (gR1.tr (a9.mo (A' := aS b (e + 2)) aQ_S)).tr (fR.w (Or.inr ⟨rfl, Or.inl ⟨by omega, by omega⟩⟩))⟩
  rcases take_both hC hR hB (c := 33) (by omega) with ⟨q1, q2, q3, q4, q5⟩ | ⟨q1, q3, q4⟩
  · rw [q3, q4]
    simp only [bS, i10, ↓reduceIte]
    rw [eIn_s hx (by omega)]
    simp only [eG_tt]
    exact hcore 1 _ _ (p + 1) (Or.inr rfl) (hC.go _) (hR.go _) q5 (fC.w (Or.inl ⟨rfl, rfl⟩) (fun q => by omega)) (fR.w (Or.inl ⟨rfl, Or.inl rfl⟩)) (by simp (disch := omega) only [eIq_ne, eIq_eq, upd_ne, upd_eq]; exact hn) (1, _) rfl
  · rw [q3, q4]
    simp only [bS, ↓reduceIte]
    rw [eIn_s hx (by omega)]
    simp only [eG_tt]
    exact hcore 0 _ _ p (Or.inl rfl) hC hR hB fC.rf fR.rf hn (0, _) rfl
def tOk (C R : eMem) (x b j : Nat) : Prop :=
  C.1 48 x = R.1 1 b ∧ (R.1 1 b = 0 ∨ R.1 1 b = 1) ∧ (∃ f, f ≤ 4 ∧ C.1 50 x = nI f ∧ R.1 1 (b + 1) = nI f) ∧ sgn (C.1 51 x) (R.1 1 (b + 2)) ∧ C.1 52 x = R.1 1 (b + 3) ∧
  (R.1 1 (b + 4) = 0 ∨ R.1 1 (b + 4) = 1) ∧ (j = 0 → C.1 49 x = 0 ∧ R.1 1 (b + 4) = 1) ∧ (0 < j → C.1 49 x = R.1 1 (b + 4))
theorem tOk.fr {C R C2 R2 : eMem} {x b j : Nat} (h : tOk C R x b j) (hc : ∀ q, 48 ≤ q → q ≤ 52 → C2.1 q x = C.1 q x) (hr : ∀ i, b ≤ i → i < b + 5 → R2.1 1 i = R.1 1 i) : tOk C2 R2 x b j := by
  unfold tOk at h ⊢
  rw [hc 48 (by omega) (by omega), hc 49 (by omega) (by omega), hc 50 (by omega) (by omega), hc 51 (by omega) (by omega), hc 52 (by omega) (by omega), hr b (by omega) (by omega), hr (b + 1) (by omega) (by omega), hr (b + 2) (by omega) (by omega), hr (b + 3) (by omega) (by omega), hr (b + 4) (by omega) (by omega)]
  exact h
def aTs (y : Nat) (q i : Nat) : Prop := (q = 145 ∧ i = 2) ∨ (q = 47 ∧ i = y) ∨ (48 ≤ q ∧ q ≤ 52 ∧ 4 * y ≤ i ∧ i < 4 * y + 4)
def aSs (e : Nat) (q i : Nat) : Prop := (q = 0 ∧ (i = 17 ∨ i = 18)) ∨ (q = 1 ∧ e + 2 ≤ i ∧ i < e + 23)
theorem aT_s {y j : Nat} (hj : j < 4) : ∀ q i, aT (4 * y + j) q i → aTs y q i := fun q i h => by unfold aT at h; unfold aTs; omega
theorem aS_s {e j : Nat} (hj : j < 4) : ∀ q i, aS (e + 3 + 5 * j) (e + 2) q i → aSs e q i := fun q i h => by unfold aS at h; unfold aSs; omega
theorem aP_s {y : Nat} : ∀ q i, aP q i → aTs y q i := fun q i h => Or.inl h
theorem aQ_s {e : Nat} : ∀ q i, aQ q i → aSs e q i := fun q i h => Or.inl h
theorem tests_rd {n : Nat} {B : Nat → Nat} {y e : Nat} (hy : y < 80) (he : e + 23 ≤ 2900) : ∀ m j, j + m = 4 → 0 < m → ∀ (v3 fr : Int32) (C R : eMem) (p : Nat), TC C n B p → TR R n B p → TB n B p → R.1 1 (e + 2) = nI j → (fr = 0 ∨ fr = 1) → (j = 0 → v3 = 0 ∧ fr = 1) → (0 < j → v3 = fr) → (∀ i, i < j → tOk C R (4 * y + i) (e + 3 + 5 * i) i) → ∀ f1 f2, m < f1 → m < f2 →
    (∃ C2 R2 p2 g, F_X6_readTests_5 f1 (nI y) v3 (nI j) C = some (1, C2) ∧ F_X10_clause_98 f2 (nI e) fr 1 R = some R2 ∧ TB n B p2 ∧ TC C2 n B p2 ∧ TR R2 n B p2 ∧ fC (aTs y) C C2 ∧ fR (aSs e) R R2 ∧ g ≤ 4 ∧ C2.1 47 y = nI g ∧ R2.1 1 (e + 2) = nI g ∧ ∀ i, i < g → tOk C2 R2 (4 * y + i) (e + 3 + 5 * i) i) ∨
    (∃ C2 R2 p2, F_X6_readTests_5 f1 (nI y) v3 (nI j) C = some (0, C2) ∧ F_X10_clause_98 f2 (nI e) fr 1 R = some R2 ∧ C2.1 145 2 = nI p2 ∧ R2.1 0 17 = nI p2 ∧ R2.1 0 18 = 1 ∧ p2 ≤ n ∧ fC (aTs y) C C2 ∧ fR (aSs e) R R2) := by
  intro m
  induction m with
  | zero => intro j _ h; omega
  | succ m ih =>
    intro j hj _ v3 fr C R p hC hR hB hn hfr hv0 hv1 hold f1 f2 h1 h2
    obtain ⟨f1, rfl⟩ : ∃ x, f1 = x + 1 := ⟨f1 - 1, by omega⟩
    obtain ⟨f2, rfl⟩ : ∃ x, f2 = x + 1 := ⟨f2 - 1, by omega⟩
    have hv : v3 = 0 ∨ v3 = 1 := by
      rcases Nat.eq_zero_or_pos j with q | q
      · exact Or.inl (hv0 q).1
      · rw [hv1 q]; exact hfr
    rw [F_X6_readTests_5, F_X10_clause_98, if_pos ((lt_lit (n := 4) rfl (by omega)).mpr (by omega)), if_neg (show ¬ (1 : Int32) = 0 by decide), Mul_4, nI_add, eIn_s (show 4 * y + j < 320 by omega) (by omega), cl (show 4 * y + j < 2147483648 by omega), nar01 hv]
    simp only [eG_tt]
    have hC1 : TC (eI C 49 (4 * y + j) v3) n B p := hC.fr (by simp (disch := omega) only [eIq_ne, eIq_eq, upd_ne, upd_eq]) (by simp (disch := omega) only [eIq_ne, eIq_eq, upd_ne, upd_eq])
    have gC1 : fC (aTs y) C (eI C 49 (4 * y + j) v3) := fC.w (Or.inr (Or.inr ⟨by omega, by omega, by omega, by omega⟩)) (fun _ => hv)
    rcases test_rd hC1 hR hB (x := 4 * y + j) (e := e) (j := j) (by omega) (by omega) (by omega) hn fr hfr with ⟨C2, R2, p2, a1, a2, a3, a4, a5, a6, a7, b1, b2, b3, b4, b5, b6, b7⟩ | ⟨C2, R2, p2, a1, a2, a3, a4, a5, a6, a7, a8⟩
    · rw [a1, a2]
      simp only [bS, i10, ↓reduceIte]
      rw [Rad_1, a5.2.2.2, if_pos rfl, Rad_2, eIn_s (show y < 80 by omega) (by omega), cl (show y < 2147483648 by omega), eIn_s (show e + 2 < 2900 by omega) (by omega), cl (show e + 2 < 2147483648 by omega), b7, a5.2.2.1]
      simp only [eG_tt]
      have hC3 : TC (eI C2 47 y (nI (j + 1))) n B p2 := a4.fr (by simp (disch := omega) only [eIq_ne, eIq_eq, upd_ne, upd_eq]) (by simp (disch := omega) only [eIq_ne, eIq_eq, upd_ne, upd_eq])
      have gC3 : fC (aTs y) C (eI C2 47 y (nI (j + 1))) := (gC1.tr (a6.mo (aT_s (by omega)))).tr (fC.w (Or.inr (Or.inl ⟨rfl, rfl⟩)) (fun q => by omega))
      have gR2 := a7.mo (aS_s (e := e) (j := j) (by omega))
      have hk49 : C2.1 49 (4 * y + j) = v3 := by rw [a6.1 49 _ (by unfold aT; omega)]; simp (disch := omega) only [eIq_ne, eIq_eq, upd_ne, upd_eq]
      have hall : ∀ i, i < j + 1 → tOk (eI C2 47 y (nI (j + 1))) R2 (4 * y + i) (e + 3 + 5 * i) i := by
        intro i hi
        by_cases q : i = j
        · subst q
          refine ⟨by simp (disch := omega) only [eIq_ne, eIq_eq, upd_ne, upd_eq]; exact b1, b2, by simp (disch := omega) only [eIq_ne, eIq_eq, upd_ne, upd_eq]; exact b3, by simp (disch := omega) only [eIq_ne, eIq_eq, upd_ne, upd_eq]; exact b4, by simp (disch := omega) only [eIq_ne, eIq_eq, upd_ne, upd_eq]; exact b5, by rw [b6]; exact hfr, fun h0 => ?_, fun h0 => ?_⟩
          · simp (disch := omega) only [eIq_ne, eIq_eq, upd_ne, upd_eq]; rw [hk49, b6]; exact hv0 h0
          · simp (disch := omega) only [eIq_ne, eIq_eq, upd_ne, upd_eq]; rw [hk49, b6]; exact hv1 h0
        · refine (hold i (by omega)).fr (fun q q1 q2 => ?_) (fun k k1 k2 => a7 1 k (by unfold aS; omega))
          have e1 : (eI C2 47 y (nI (j + 1))).1 q (4 * y + i) = C2.1 q (4 * y + i) := by simp (disch := omega) only [eIq_ne, eIq_eq, upd_ne, upd_eq]
          rw [e1, a6.1 q _ (by unfold aT; omega), rdI]
          by_cases q3 : q = 49
          · rw [if_pos q3, if_neg (by omega)]
          · rw [if_neg q3]
      have hend : ∀ fr2 : Int32, ∃ R3, F_X10_clause_179 (fun v1 v3 v4 M => F_X10_clause_98 f2 v1 v3 v4 M) (nI e) 0 fr2 R2 = some R3 ∧ TR R3 n B p2 ∧ fR (aSs e) R R3 ∧ R3.1 1 = R2.1 1 := by
        intro fr2
        unfold F_X10_clause_179
        rw [if_pos rfl, a5.2.2.1, show nI p2 + 0 = nI p2 from Int32.add_zero _]
        obtain ⟨f3, rfl⟩ : ∃ x, f2 = x + 1 := ⟨f2 - 1, by omega⟩
        simp only [F_X10_clause_98, ↓reduceIte]
        exact ⟨_, rfl, a5.go _, gR2.tr (fR.w (Or.inl ⟨rfl, Or.inl rfl⟩)), by simp (disch := omega) only [eIq_ne, eIq_eq, upd_ne, upd_eq]⟩
      by_cases hj3 : j = 3
      · have hm : m = 0 := by omega
        have e1 : (nI (j + 1) : Int32) = 4 := by rw [hj3]; rfl
        left
        obtain ⟨R3, r1, r2, r3, r4⟩ : ∃ R3, (if nI (j + 1) < 4 then (F_X10_byteAt (nI p2) R2).bind fun q9 => if q9 = 38 then F_X10_clause_154 (fun v1 v3 v4 M => F_X10_clause_98 f2 v1 v3 v4 M) (nI e) R2 else (F_X10_byteAt (nI p2) R2).bind fun q10 => if q10 = 124 then F_X10_clause_154 (fun v1 v3 v4 M => F_X10_clause_98 f2 v1 v3 v4 M) (nI e) R2 else F_X10_clause_158 (fun v1 v3 v4 M => F_X10_clause_98 f2 v1 v3 v4 M) (nI e) R2 else F_X10_clause_158 (fun v1 v3 v4 M => F_X10_clause_98 f2 v1 v3 v4 M) (nI e) R2) = some R3 ∧ TR R3 n B p2 ∧ fR (aSs e) R R3 ∧ R3.1 1 = R2.1 1 := by
          rw [e1, if_neg (by decide)]
          unfold F_X10_clause_158 F_X10_clause_159
          rw [a5.2.2.1, byteAt_eq a5 a3.1 (by have := a3.1; have := a3.2.1; omega)]
          simp only [bS]
          by_cases q : (if p2 < n then nI (B p2) else (-1 : Int32)) = 124
          · rw [if_pos q]; exact hend 1
          · rw [if_neg q]; exact hend 0
        rw [r1, if_pos e1]
        refine ⟨_, R3, p2, j + 1, rfl, rfl, a3, hC3, r2, gC3, r3, by omega, by simp (disch := omega) only [eIq_ne, eIq_eq, upd_ne, upd_eq], by rw [r4]; exact b7, fun i hi => ?_⟩
        exact (hall i hi).fr (fun _ _ _ => rfl) (fun _ _ _ => by rw [r4])
      · rw [if_neg (fun q => by have := (eq_lit (n := 4) rfl (by omega)).mp q; omega), if_pos ((lt_lit (n := 4) rfl (by omega)).mpr (by omega)), byteAt_eq a5 a3.1 (by have := a3.1; have := a3.2.1; omega)]
        simp only [bS]
        have b124 : ((if p2 < n then nI (B p2) else (-1 : Int32)) = 124) = (p2 < n ∧ B p2 = 124) := propext (byte_c (c := 124) a3.2.2 (by omega))
        have b38 : ((if p2 < n then nI (B p2) else (-1 : Int32)) = 38) = (p2 < n ∧ B p2 = 38) := propext (byte_c (c := 38) a3.2.2 (by omega))
        have hgo : ∀ (w : Int32) (q : p2 + 1 ≤ n), (w = 0 ∨ w = 1) →
            (∃ C2' R2' p5 g, F_X6_readTests_5 f1 (nI y) w (nI (j + 1)) (eI (eI C2 47 y (nI (j + 1))) 145 2 (nI (p2 + 1))) = some (1, C2') ∧ F_X10_clause_98 f2 (nI e) w 1 (eI R2 0 17 (nI (p2 + 1))) = some R2' ∧ TB n B p5 ∧ TC C2' n B p5 ∧ TR R2' n B p5 ∧ fC (aTs y) C C2' ∧ fR (aSs e) R R2' ∧ g ≤ 4 ∧ C2'.1 47 y = nI g ∧ R2'.1 1 (e + 2) = nI g ∧ ∀ i, i < g → tOk C2' R2' (4 * y + i) (e + 3 + 5 * i) i) ∨
            (∃ C2' R2' p2', F_X6_readTests_5 f1 (nI y) w (nI (j + 1)) (eI (eI C2 47 y (nI (j + 1))) 145 2 (nI (p2 + 1))) = some (0, C2') ∧ F_X10_clause_98 f2 (nI e) w 1 (eI R2 0 17 (nI (p2 + 1))) = some R2' ∧ C2'.1 145 2 = nI p2' ∧ R2'.1 0 17 = nI p2' ∧ R2'.1 0 18 = 1 ∧ p2' ≤ n ∧ fC (aTs y) C C2' ∧ fR (aSs e) R R2') := by
          intro w q hw
          have gC4 : fC (aTs y) C (eI (eI C2 47 y (nI (j + 1))) 145 2 (nI (p2 + 1))) := gC3.tr (fC.w (Or.inl ⟨rfl, rfl⟩) (fun q => by omega))
          have gR4 : fR (aSs e) R (eI R2 0 17 (nI (p2 + 1))) := gR2.tr (fR.w (Or.inl ⟨rfl, Or.inl rfl⟩))
          rcases ih (j + 1) (by omega) (by omega) w w _ _ (p2 + 1) (hC3.go (p2 + 1)) (a5.go (p2 + 1)) ⟨a3.1, q, a3.2.2⟩ (by simp (disch := omega) only [eIq_ne, eIq_eq, upd_ne, upd_eq]; exact b7) hw (fun q => by omega) (fun _ => rfl) (fun i hi => (hall i hi).fr (fun q q1 q2 => by simp (disch := omega) only [eIq_ne, eIq_eq, upd_ne, upd_eq]) (fun k k1 k2 => by simp (disch := omega) only [eIq_ne, eIq_eq, upd_ne, upd_eq])) f1 f2 (by omega) (by omega) with ⟨C5, R5, p5, g, g1, g2, g3, g4, g5, g6, g7, g8, g9⟩ | ⟨C5, R5, p5, g1, g2, g3, g4, g5, g6, g7, g8⟩
          · exact Or.inl ⟨C5, R5, p5, g, g1, g2, g3, g4, g5, gC4.tr g6, gR4.tr g7, g8, g9⟩
          · exact Or.inr ⟨C5, R5, p5, g1, g2, g3, g4, g5, g6, gC4.tr g7, gR4.tr g8⟩
        have ht := take_both hC3 a5 a3 (c := 124) (by omega)
        have ht2 := take_both hC3 a5 a3 (c := 38) (by omega)
        rw [show nI 124 = 124 from rfl] at ht
        rw [show nI 38 = 38 from rfl] at ht2
        rcases ht with ⟨q1, q2, q3, -, q5⟩ | ⟨q1, q3, -⟩
        · rw [q3]
          simp only [bS, i10, ↓reduceIte]
          rw [if_neg (by rw [b38]; omega), if_pos (by rw [b124]; exact ⟨q1, q2⟩)]
          unfold F_X10_clause_154 F_X10_clause_159 F_X10_clause_179
          rw [a5.2.2.1, byteAt_eq a5 a3.1 (by have := a3.1; have := a3.2.1; omega)]
          simp only [bS]
          rw [if_pos (by rw [b124]; exact ⟨q1, q2⟩), if_neg (show ¬ (1 : Int32) = 0 by decide), Rad_1]
          exact hgo 1 q5.2.1 (Or.inr rfl)
        · rw [q3]
          simp only [bS, ↓reduceIte]
          rcases ht2 with ⟨r1, r2, r3, -, r5⟩ | ⟨r1, r3, -⟩
          · rw [r3]
            simp only [bS, i10, ↓reduceIte]
            rw [if_pos (by rw [b38]; exact ⟨r1, r2⟩)]
            unfold F_X10_clause_154 F_X10_clause_159 F_X10_clause_179
            rw [a5.2.2.1, byteAt_eq a5 a3.1 (by have := a3.1; have := a3.2.1; omega)]
            simp only [bS]
            rw [if_neg (by rw [b124]; exact q1), if_neg (show ¬ (1 : Int32) = 0 by decide), Rad_1]
            exact hgo 0 r5.2.1 (Or.inl rfl)
          · rw [r3]
            simp only [bS, ↓reduceIte]
            rw [if_neg (by rw [b38]; exact r1), if_neg (by rw [b124]; exact q1)]
            left
            obtain ⟨R3, s1, s2, s3, s4⟩ : ∃ R3, F_X10_clause_158 (fun v1 v3 v4 M => F_X10_clause_98 f2 v1 v3 v4 M) (nI e) R2 = some R3 ∧ TR R3 n B p2 ∧ fR (aSs e) R R3 ∧ R3.1 1 = R2.1 1 := by
              unfold F_X10_clause_158 F_X10_clause_159
              rw [a5.2.2.1, byteAt_eq a5 a3.1 (by have := a3.1; have := a3.2.1; omega)]
              simp only [bS]
              rw [if_neg (by rw [b124]; exact q1)]
              exact hend 0
            rw [s1]
            refine ⟨_, R3, p2, j + 1, rfl, rfl, a3, hC3, s2, gC3, s3, by omega, by simp (disch := omega) only [eIq_ne, eIq_eq, upd_ne, upd_eq], by rw [s4]; exact b7, fun i hi => ?_⟩
            exact (hall i hi).fr (fun _ _ _ => rfl) (fun _ _ _ => by rw [s4])
    · rw [a1, a2]
      simp only [bS, ↓reduceIte]
      rw [a5, if_neg (show ¬ (1 : Int32) = 0 by decide)]
      right
      obtain ⟨R3, s1, s2, s3, s4⟩ : ∃ R3, F_X10_clause_158 (fun v1 v3 v4 M => F_X10_clause_98 f2 v1 v3 v4 M) (nI e) R2 = some R3 ∧ R3.1 0 17 = nI p2 ∧ R3.1 0 18 = 1 ∧ fR (aSs e) R R3 := by
        have gR2 := a8.mo (aS_s (e := e) (j := j) (by omega))
        obtain ⟨f3, rfl⟩ : ∃ x, f2 = x + 1 := ⟨f2 - 1, by omega⟩
        obtain ⟨z, hz⟩ : ∃ z, F_X10_byteAt (nI p2) R2 = some z := by
          unfold F_X10_byteAt
          have h3 : R2.1 0 3 = nI n := by rw [a8 0 3 (by unfold aS; omega)]; exact hR.1
          have hB1 := hB.1
          rw [h3]
          by_cases q : p2 < n
          · rw [if_pos (nI_lt q (by omega)), eIn_s (by omega) (by omega), eG_tt]; exact ⟨_, rfl⟩
          · rw [if_neg (nI_nlt (by omega) (by omega))]; exact ⟨_, rfl⟩
        unfold F_X10_clause_158 F_X10_clause_159 F_X10_clause_179
        rw [a4, hz]
        simp only [bS, ↓reduceIte]
        rw [show nI p2 + 0 = nI p2 from Int32.add_zero _]
        simp only [F_X10_clause_98, ↓reduceIte, ite_self]
        exact ⟨_, rfl, by simp (disch := omega) only [eIq_ne, eIq_eq, upd_ne, upd_eq], by simp (disch := omega) only [eIq_ne, eIq_eq, upd_ne, upd_eq]; exact a5, gR2.tr (fR.w (Or.inl ⟨rfl, Or.inl rfl⟩))⟩
      rw [s1]
      exact ⟨C2, R3, p2, rfl, rfl, a3, s2, s3, a6, gC1.tr (a7.mo (aT_s (by omega))), s4⟩
