/-! the clause of a show; a show that is shown -/
theorem about_both {C R : eMem} {t c k : Nat} (ht : t < 8) (hc : c < 6) (hk : k < 20) (hT : wCl C.1 (R.1 1) t c) (hF : fcts C (R.1 1) k) :
    ∃ v, (v = 0 ∨ v = 1) ∧ F_X10_isAbout (nI (1768 + 142 * t + 23 * c)) (nI k) R = some v ∧ ((F_X9_isUnder (R.1 1 (298 + 10 * k)) (C.1 46 (10 * t + c))).bind fun q2 => if q2 = 0 then some 0 else F_X7_holds (nI (10 * t + c)) C) = some v := by
  obtain ⟨a1, a2, n, h1, h2, h3, h4⟩ := hT
  have hK : (fun v3 v4 : Int32 => if v3 = 0 then if v4 = 0 then some (0 : Int32) else F_X10_isAbout_151 R else F_X10_isAbout_151 R) = KA := rfl
  unfold F_X10_isAbout F_X10_isAbout_38 F_X7_holds
  rw [show_0 k R hk]
  simp (disch := omega) only [eIn_s, eG_tt, cl, nI_add, bS, Ladd_0, Ladd_1, Ladd_2, Ladd_3, Ladd_4, Ladd_5, Ladd_6, Ladd_7, Ladd_8, Ladd_10, Ladd_12, Ladd_14, Ladd_20, Ladd_23, Ladd_24, Ladd_110, Ladd_200, Ladd_230, Ladd_290, Ladd_294, Ladd_298, Ladd_498, Ladd_1128, Ladd_1248, Ladd_1278, Ladd_1764, Rad_0, Rad_1, Rad_2, Rad_3, Rad_4, Rad_5, Rad_6, Rad_7, Rad_8, Rad_10, Rad_12, Rad_14, Rad_20, Rad_23, Rad_24, Rad_110, Rad_200, Rad_230, Rad_290, Rad_294, Rad_298, Rad_498, Rad_1128, Rad_1248, Rad_1278, Rad_1764, Mul_2, Mul_3, Mul_4, Mul_5, Mul_6, Mul_7, Mul_10, Mul_20, Mul_23, Mul_24, Mul_142]
  rw [hK, show 1768 + 142 * t + 23 * c + 1 = 1769 + 142 * t + 23 * c by omega, show 1768 + 142 * t + 23 * c + 2 = 1770 + 142 * t + 23 * c by omega, h3, under_eq, a2]
  rcases under01 (R.1 1 (298 + 10 * k)) (R.1 1 (1769 + 142 * t + 23 * c)) with q | q <;> rw [q] <;> simp only [bS, i10, i00, ↓reduceIte]
  · exact ⟨0, Or.inl rfl, rfl, rfl⟩
  · rcases Nat.eq_zero_or_pos n with n0 | n0
    · subst n0
      have h := (tests_both ht hc h1 hk h4 hF h2 h3 0 0 rfl eFuel eFuel (by unfold eFuel; omega) (by unfold eFuel; omega) 1 1 (Or.inr rfl) (Or.inr rfl) (fun _ => rfl)).1 rfl
      rw [if_pos (show nI 0 = 0 from rfl)]
      refine ⟨1, Or.inr rfl, h, ?_⟩
      unfold eFuel
      rw [F_X7_holds_5, eIn_s (by omega) (by omega), eG_t, cl (by omega), h2, if_neg (by decide)]
      rfl
    · obtain ⟨v, q1, q2, q3⟩ := (tests_both ht hc h1 hk h4 hF h2 h3 n 0 (by omega) eFuel eFuel (by unfold eFuel; omega) (by unfold eFuel; omega) 1 0 (Or.inr rfl) (Or.inl rfl) (fun _ => rfl)).2 rfl
      rw [if_neg (fun e => by have := (eq_lit (n := 0) rfl (by omega)).mp e; omega)]
      exact ⟨v, q1, q3, q2⟩
theorem clauses_both {C R : eMem} {t n k : Nat} {day : Int32} (KC KR : Int32 → Int32 → Int32 → Option Int32) (ht : t < 8) (hn : n ≤ 6) (hk : k < 20) (hT : ∀ c, c < n → wCl C.1 (R.1 1) t c) (hF : fcts C (R.1 1) k) (h44 : C.1 44 t = nI n) (h67 : R.1 1 (1767 + 142 * t) = nI n)
    (hv : R.1 1 (1766 + 142 * t) = 0) (hd : F_X10_in day (R.1 1 (1764 + 142 * t)) (R.1 1 (1765 + 142 * t)) = some 1) :
    ∀ (m c : Nat), c + m = n → ∀ f1 f2, m < f1 → m < f2 →
      (∃ c2, c2 < n ∧ F_X7_clauseAbout_50 KC f1 C (R.1 1 (298 + 10 * k)) day (nI t) (nI c) = some (nI (10 * t + c2)) ∧ F_X10_clauseOf_38 KR f2 R (nI k) day (nI t) (nI (1764 + 142 * t)) (nI c) = some (nI (10 * t + c2))) ∨
      (F_X7_clauseAbout_50 KC f1 C (R.1 1 (298 + 10 * k)) day (nI t) (nI c) = KC (R.1 1 (298 + 10 * k)) day (nI t) ∧ F_X10_clauseOf_38 KR f2 R (nI k) day (nI t) (nI (1764 + 142 * t)) (nI c) = KR (nI k) day (nI t)) := by
  intro m
  induction m with
  | zero =>
    intro c hc f1 f2 h1 h2
    obtain ⟨f1, rfl⟩ : ∃ x, f1 = x + 1 := ⟨f1 - 1, by omega⟩
    obtain ⟨f2, rfl⟩ : ∃ x, f2 = x + 1 := ⟨f2 - 1, by omega⟩
    have e : c = n := by omega
    subst e
    rw [F_X7_clauseAbout_50, F_X10_clauseOf_38]
    simp (disch := omega) only [eIn_s, eG_tt, cl, nI_add, bS, Ladd_0, Ladd_1, Ladd_2, Ladd_3, Ladd_4, Ladd_5, Ladd_6, Ladd_7, Ladd_8, Ladd_10, Ladd_12, Ladd_14, Ladd_20, Ladd_23, Ladd_24, Ladd_110, Ladd_200, Ladd_230, Ladd_290, Ladd_294, Ladd_298, Ladd_498, Ladd_1128, Ladd_1248, Ladd_1278, Ladd_1764, Rad_0, Rad_1, Rad_2, Rad_3, Rad_4, Rad_5, Rad_6, Rad_7, Rad_8, Rad_10, Rad_12, Rad_14, Rad_20, Rad_23, Rad_24, Rad_110, Rad_200, Rad_230, Rad_290, Rad_294, Rad_298, Rad_498, Rad_1128, Rad_1248, Rad_1278, Rad_1764, Mul_2, Mul_3, Mul_4, Mul_5, Mul_6, Mul_7, Mul_10, Mul_20, Mul_23, Mul_24, Mul_142]
    rw [show 1764 + 142 * t + 3 = 1767 + 142 * t by omega, h67, h44, if_neg (nI_nlt (Nat.le_refl _) (by omega)), if_neg (nI_nlt (Nat.le_refl _) (by omega))]
    exact Or.inr ⟨rfl, rfl⟩
  | succ m ih =>
    intro c hc f1 f2 h1 h2
    obtain ⟨f1, rfl⟩ : ∃ x, f1 = x + 1 := ⟨f1 - 1, by omega⟩
    obtain ⟨f2, rfl⟩ : ∃ x, f2 = x + 1 := ⟨f2 - 1, by omega⟩
    have e4 : 1764 + 142 * t + 4 + 23 * c = 1768 + 142 * t + 23 * c := by omega
    rw [F_X7_clauseAbout_50, F_X10_clauseOf_38]
    simp (disch := omega) only [eIn_s, eG_tt, cl, nI_add, bS, Ladd_0, Ladd_1, Ladd_2, Ladd_3, Ladd_4, Ladd_5, Ladd_6, Ladd_7, Ladd_8, Ladd_10, Ladd_12, Ladd_14, Ladd_20, Ladd_23, Ladd_24, Ladd_110, Ladd_200, Ladd_230, Ladd_290, Ladd_294, Ladd_298, Ladd_498, Ladd_1128, Ladd_1248, Ladd_1278, Ladd_1764, Rad_0, Rad_1, Rad_2, Rad_3, Rad_4, Rad_5, Rad_6, Rad_7, Rad_8, Rad_10, Rad_12, Rad_14, Rad_20, Rad_23, Rad_24, Rad_110, Rad_200, Rad_230, Rad_290, Rad_294, Rad_298, Rad_498, Rad_1128, Rad_1248, Rad_1278, Rad_1764, Mul_2, Mul_3, Mul_4, Mul_5, Mul_6, Mul_7, Mul_10, Mul_20, Mul_23, Mul_24, Mul_142]
    rw [show 1764 + 142 * t + 3 = 1767 + 142 * t by omega, show 1764 + 142 * t + 2 = 1766 + 142 * t by omega, show 1764 + 142 * t + 1 = 1765 + 142 * t by omega, h67, h44, if_pos (nI_lt (show c < n by omega) (by omega)), if_pos (nI_lt (show c < n by omega) (by omega)), hv, if_pos rfl, hd, e4]
    simp only [bS, i10, i00, ↓reduceIte]
    have h := ih (c + 1) (by omega) f1 f2 (by omega) (by omega)
    obtain ⟨v, hv1, hv2, hv3⟩ := about_both ht (show c < 6 by omega) hk (hT c (by omega)) hF
    rw [hv2]
    rw [under_eq] at hv3 ⊢
    rcases under01 (R.1 1 (298 + 10 * k)) (C.1 46 (10 * t + c)) with q | q <;> rw [q] at hv3 ⊢ <;> simp only [Option.bind_some, i10, i00, ↓reduceIte] at hv3 ⊢
    · cases hv3
      simp only [bS, i10, i00, ↓reduceIte]
      exact h
    · rw [hv3]
      rcases hv1 with rfl | rfl <;> simp only [bS, i10, i00, ↓reduceIte]
      · exact h
      · exact Or.inl ⟨c, by omega, rfl, rfl⟩
theorem texts_both {C R : eMem} {k : Nat} {day : Int32} (hk : k < 20) (wTx : wTx C.1 (R.1 1)) (wTc : wTc C.1 (R.1 1)) (wz : wZ C.1) (hF : fcts C (R.1 1) k) (hnT : nT (R.1 1) ≤ 8) :
    ∀ (t : Nat), t ≤ nT (R.1 1) → ∀ f1 f2, t < f1 → t < f2 → ∃ v, F_X7_clauseAbout_8 f1 C (R.1 1 (298 + 10 * k)) day (nI t - 1) = some v ∧ F_X10_clauseOf_20 f2 R (nI k) day (nI t - 1) = some v ∧
      (v = -1 ∨ ∃ a c n, a < t ∧ R.1 1 (1767 + 142 * a) = nI n ∧ n ≤ 6 ∧ c < n ∧ v = nI (10 * a + c)) := by
  intro t
  induction t with
  | zero =>
    intro _ f1 f2 h1 h2
    obtain ⟨f1, rfl⟩ : ∃ x, f1 = x + 1 := ⟨f1 - 1, by omega⟩
    obtain ⟨f2, rfl⟩ : ∃ x, f2 = x + 1 := ⟨f2 - 1, by omega⟩
    rw [F_X7_clauseAbout_8, F_X10_clauseOf_20, if_pos (by decide), if_pos (by decide)]
    exact ⟨-1, rfl, rfl, Or.inl rfl⟩
  | succ t ih =>
    intro ht f1 f2 h1 h2
    obtain ⟨f1, rfl⟩ : ∃ x, f1 = x + 1 := ⟨f1 - 1, by omega⟩
    obtain ⟨f2, rfl⟩ : ∃ x, f2 = x + 1 := ⟨f2 - 1, by omega⟩
    obtain ⟨v, hv1, hv2, hv3⟩ := ih (by omega) f1 f2 (by omega) (by omega)
    have hv3' : v = -1 ∨ ∃ a c n, a < t + 1 ∧ R.1 1 (1767 + 142 * a) = nI n ∧ n ≤ 6 ∧ c < n ∧ v = nI (10 * a + c) := by
      rcases hv3 with q | ⟨a, c, n, q1, q2⟩
      · exact Or.inl q
      · exact Or.inr ⟨a, c, n, by omega, q2⟩
    obtain ⟨w1, w2, w3, w4⟩ := wTx t (by omega)
    obtain ⟨n, n1, n2, n3⟩ := wTc t (by omega)
    have hz := wz.2.2.2.2.1 t (by omega)
    have em : nI t + (-1) = nI t - 1 := by rw [Int32.sub_eq_add_neg]
    rw [F_X7_clauseAbout_8, F_X10_clauseOf_20, nI_pred, if_neg (nI_pos (by omega)), if_neg (nI_pos (by omega))]
    simp only [btw]
    simp (disch := omega) only [eIn_s, eG_tt, cl, nI_add, bS, Ladd_0, Ladd_1, Ladd_2, Ladd_3, Ladd_4, Ladd_5, Ladd_6, Ladd_7, Ladd_8, Ladd_10, Ladd_12, Ladd_14, Ladd_20, Ladd_23, Ladd_24, Ladd_110, Ladd_200, Ladd_230, Ladd_290, Ladd_294, Ladd_298, Ladd_498, Ladd_1128, Ladd_1248, Ladd_1278, Ladd_1764, Rad_0, Rad_1, Rad_2, Rad_3, Rad_4, Rad_5, Rad_6, Rad_7, Rad_8, Rad_10, Rad_12, Rad_14, Rad_20, Rad_23, Rad_24, Rad_110, Rad_200, Rad_230, Rad_290, Rad_294, Rad_298, Rad_498, Rad_1128, Rad_1248, Rad_1278, Rad_1764, Mul_2, Mul_3, Mul_4, Mul_5, Mul_6, Mul_7, Mul_10, Mul_20, Mul_23, Mul_24, Mul_142]
    rw [w1, w2, em]
    have hKR : ∀ (x y z : Int32), (fun v1 v2 v3 : Int32 => F_X10_clauseOf_20 f2 R v1 v2 (v3 + (-1))) x y z = F_X10_clauseOf_20 f2 R x y (z + (-1)) := fun _ _ _ => rfl
    -- the reference's loop over the clauses of a text that isn't in force: nothing
    have hskip : (¬ R.1 1 (1766 + 142 * t) = 0 ∨ F_X10_in day (R.1 1 (1764 + 142 * t)) (R.1 1 (1765 + 142 * t)) = some 0) → F_X10_clauseOf_38 (fun v1 v2 v3 => F_X10_clauseOf_20 f2 R v1 v2 (v3 + (-1))) eFuel R (nI k) day (nI t) (nI (1764 + 142 * t)) 0 = F_X10_clauseOf_20 f2 R (nI k) day (nI t - 1) := by
      intro hs
      rw [show (0 : Int32) = nI 0 from rfl]
      unfold eFuel
      rw [F_X10_clauseOf_38]
      simp (disch := omega) only [eIn_s, eG_tt, cl, nI_add, bS, Ladd_0, Ladd_1, Ladd_2, Ladd_3, Ladd_4, Ladd_5, Ladd_6, Ladd_7, Ladd_8, Ladd_10, Ladd_12, Ladd_14, Ladd_20, Ladd_23, Ladd_24, Ladd_110, Ladd_200, Ladd_230, Ladd_290, Ladd_294, Ladd_298, Ladd_498, Ladd_1128, Ladd_1248, Ladd_1278, Ladd_1764, Rad_0, Rad_1, Rad_2, Rad_3, Rad_4, Rad_5, Rad_6, Rad_7, Rad_8, Rad_10, Rad_12, Rad_14, Rad_20, Rad_23, Rad_24, Rad_110, Rad_200, Rad_230, Rad_290, Rad_294, Rad_298, Rad_498, Rad_1128, Rad_1248, Rad_1278, Rad_1764, Mul_2, Mul_3, Mul_4, Mul_5, Mul_6, Mul_7, Mul_10, Mul_20, Mul_23, Mul_24, Mul_142]
      rw [show 1764 + 142 * t + 3 = 1767 + 142 * t by omega, show 1764 + 142 * t + 2 = 1766 + 142 * t by omega, show 1764 + 142 * t + 1 = 1765 + 142 * t by omega, n2, em]
      by_cases hn0 : nI 0 < nI n
      · rw [if_pos hn0]
        by_cases hv0 : R.1 1 (1766 + 142 * t) = 0
        · rw [if_pos hv0]
          rcases hs with hs | hs
          · exact absurd hv0 hs
          · rw [hs]; simp only [bS, i10, i00, ↓reduceIte]
        · rw [if_neg hv0]
      · rw [if_neg hn0]
    by_cases hv0 : R.1 1 (1766 + 142 * t) = 0
    · rw [w3, hv0, if_pos rfl]
      rcases in01 day (R.1 1 (1764 + 142 * t)) (R.1 1 (1765 + 142 * t)) with ⟨q, -⟩ | q
      · rw [q]
        simp only [bS, i10, i00, ↓reduceIte]
        rcases clauses_both (day := day) (fun v1 v2 v4 => F_X7_clauseAbout_8 f1 C v1 v2 (v4 + (-1))) (fun v1 v2 v3 => F_X10_clauseOf_20 f2 R v1 v2 (v3 + (-1))) (show t < 8 by omega) n1 hk n3 hF (w4.trans n2) n2 hv0 q n 0 (by omega) eFuel eFuel (by unfold eFuel; omega) (by unfold eFuel; omega) with ⟨c2, q1, q2, q3⟩ | ⟨q2, q3⟩
        · exact ⟨nI (10 * t + c2), q2, q3, Or.inr ⟨t, c2, n, by omega, n2, n1, q1, rfl⟩⟩
        · refine ⟨v, q2.trans ?_, q3.trans ?_, hv3'⟩
          · rw [← hv1, ← em]
          · rw [← hv2, ← em]
      · rw [q]
        simp only [bS, i10, i00, ↓reduceIte]
        exact ⟨v, hv1, (hskip (Or.inr q)).trans hv2, hv3'⟩
    · rw [w3, if_neg hv0]
      exact ⟨v, hv1, (hskip (Or.inl hv0)).trans hv2, hv3'⟩
/-- only the facts of a show have changed -/
def scr (C C2 : eMem) : Prop := (∀ p, p ≠ 72 → C2.1 p = C.1 p) ∧ C2.2 = C.2
theorem scr.rf {C : eMem} : scr C C := ⟨fun _ _ => rfl, rfl⟩
theorem scr.tr {A B C : eMem} (h1 : scr A B) (h2 : scr B C) : scr A C := ⟨fun p hp => (h2.1 p hp).trans (h1.1 p hp), h2.2.trans h1.2⟩
theorem scr.W {C C2 : eMem} {s : Nat → Int32} (h : scr C C2) (hW : RelW C.1 s) : RelW C2.1 s := by
  have h1 := h.1
  refine hW.agr ?_ (fun j _ => rfl)
  simp [Agr, h1]
theorem scr.R {C C2 R : eMem} (h : scr C C2) (hR : Rel C R) : Rel C2 R :=
  hR.now (by rw [h.1 0 (by decide)]) (fun p hp => h.1 p (by omega)) rfl rfl (fun _ _ _ => rfl) (h.W hR.1)
theorem clauseOf_both {C R : eMem} (hW : RelW C.1 (R.1 1)) {k : Nat} (hk : k < nS (R.1 1)) : ∃ v C2, F_X8_clauseOf (nI k) C = some (v, C2) ∧ F_X10_clauseOf (nI k) R = some v ∧ scr C C2 ∧
    (v = -1 ∨ ∃ a c n, a < nT (R.1 1) ∧ R.1 1 (1767 + 142 * a) = nI n ∧ n ≤ 6 ∧ c < n ∧ v = nI (10 * a + c)) := by
  obtain ⟨wSc, -, -, -, -, -, wSh, -, -, -, -, wTx, wTc, wz, i1, -⟩ := id hW
  obtain ⟨c0, -, -, -, -, -, -, -, -, -, -, c11, -⟩ := id wSc
  obtain ⟨-, -, -, -, -, ⟨z9, y9⟩, -, ⟨z11, y11⟩, -⟩ := id i1
  obtain ⟨s0, s1, s2, -, -, -, -, -, s8, -⟩ := wSh k hk
  unfold F_X8_clauseOf F_X10_clauseOf F_X7_clauseAbout
  simp (disch := omega) only [eIn_s, eG_tt, cl, nI_add, bS, Ladd_0, Ladd_1, Ladd_2, Ladd_3, Ladd_4, Ladd_5, Ladd_6, Ladd_7, Ladd_8, Ladd_10, Ladd_12, Ladd_14, Ladd_20, Ladd_23, Ladd_24, Ladd_110, Ladd_200, Ladd_230, Ladd_290, Ladd_294, Ladd_298, Ladd_498, Ladd_1128, Ladd_1248, Ladd_1278, Ladd_1764, Rad_0, Rad_1, Rad_2, Rad_3, Rad_4, Rad_5, Rad_6, Rad_7, Rad_8, Rad_10, Rad_12, Rad_14, Rad_20, Rad_23, Rad_24, Rad_110, Rad_200, Rad_230, Rad_290, Rad_294, Rad_298, Rad_498, Rad_1128, Rad_1248, Rad_1278, Rad_1764, Mul_2, Mul_3, Mul_4, Mul_5, Mul_6, Mul_7, Mul_10, Mul_20, Mul_23, Mul_24, Mul_142]
  generalize hC2 : eI (eI (eI (eI (eI C 72 0 (C.1 2 11 / 24)) 72 1 (C.1 2 11 - C.1 2 11 / 24 * 24)) 72 2 (C.1 21 k)) 72 3 (C.1 14 k)) 72 4 (C.1 15 k) = C2
  have hs : scr C C2 := by
    rw [← hC2]
    exact ⟨fun p hp => by simp (disch := omega) only [eIq_ne, eIq_eq, upd_ne, upd_eq], rfl⟩
  have hF : fcts C2 (R.1 1) k := by
    intro f hf
    rw [← hC2]
    rcases (show f = 0 ∨ f = 1 ∨ f = 2 ∨ f = 3 ∨ f = 4 by omega) with rfl | rfl | rfl | rfl | rfl
    · simp (disch := omega) only [eIq_ne, eIq_eq, upd_ne, upd_eq]; rw [c0]; rfl
    · simp (disch := omega) only [eIq_ne, eIq_eq, upd_ne, upd_eq]; rw [c0]; rfl
    · simp (disch := omega) only [eIq_ne, eIq_eq, upd_ne, upd_eq]; exact s8
    · simp (disch := omega) only [eIq_ne, eIq_eq, upd_ne, upd_eq]; exact s1
    · simp (disch := omega) only [eIq_ne, eIq_eq, upd_ne, upd_eq]; exact s2
  obtain ⟨wSc', -, -, -, -, -, -, -, -, -, -, wTx', wTc', wz', -⟩ := hs.W hW
  obtain ⟨v, h1, h2, h3⟩ := texts_both (day := R.1 1 0 / 24) (show k < 20 by omega) wTx' wTc' wz' hF y11 (nT (R.1 1)) (Nat.le_refl _) eFuel eFuel (by unfold eFuel; omega) (by unfold eFuel; omega)
  rw [s0, c0, hs.1 40 (by decide), c11, z11, h1]
  rw [h2]
  exact ⟨v, C2, rfl, rfl, hs, h3⟩
/-- the word of a show's clause -/
theorem word_both {C R : eMem} (hW : RelW C.1 (R.1 1)) {k : Nat} (hk : k < nS (R.1 1)) : ∃ v w C2, F_X8_clauseOf (nI k) C = some (v, C2) ∧ F_X10_wordOf (nI k) R = some w ∧ scr C C2 ∧ (w = 0 → F_X7_says v 0 C2 = some 1) ∧ (¬ w = 0 → F_X7_says v 0 C2 = some 0) ∧ (w = 2 → F_X7_says v 2 C2 = some 1) ∧ (¬ w = 2 → F_X7_says v 2 C2 = some 0) := by
  obtain ⟨v, C2, h1, h2, h3, h4⟩ := clauseOf_both hW hk
  obtain ⟨-, -, -, -, -, -, -, -, -, -, -, wTx, wTc, -, i1, -⟩ := h3.W hW
  obtain ⟨-, -, -, -, -, -, -, ⟨z11, y11⟩, -⟩ := id i1
  unfold F_X10_wordOf
  rw [h2]
  simp only [Option.bind_some]
  rcases h4 with rfl | ⟨a, c, n, g1, g2, g3, g4, rfl⟩
  · rw [if_pos (by decide)]
    have hno : ∀ x, F_X7_says (-1) x C2 = some 0 := fun x => by
      unfold F_X7_says
      rw [show F_X9_isIn (-1) 80 = some 0 by decide]
      rfl
    exact ⟨-1, -1, C2, h1, rfl, h3, fun e => absurd e (by decide), fun _ => hno 0, fun e => absurd e (by decide), fun _ => hno 2⟩
  · rw [if_neg (nI_pos (by omega))]
    have ed : nI (10 * a + c) / 10 = nI a := by
      rw [show (10 : Int32) = nI 10 from rfl, pk_div (by omega) (by omega) (by omega)]
      congr 1
      omega
    have er : nI (10 * a + c) - nI a * 10 = nI c := by
      rw [show nI a * 10 = nI (a * 10) from nI_mul a 10, nI_sub (by omega)]
      congr 1
      omega
    rw [ed, er]
    simp (disch := omega) only [eIn_s, eG_tt, cl, nI_add, bS, Ladd_0, Ladd_1, Ladd_2, Ladd_3, Ladd_4, Ladd_5, Ladd_6, Ladd_7, Ladd_8, Ladd_10, Ladd_12, Ladd_14, Ladd_20, Ladd_23, Ladd_24, Ladd_110, Ladd_200, Ladd_230, Ladd_290, Ladd_294, Ladd_298, Ladd_498, Ladd_1128, Ladd_1248, Ladd_1278, Ladd_1764, Rad_0, Rad_1, Rad_2, Rad_3, Rad_4, Rad_5, Rad_6, Rad_7, Rad_8, Rad_10, Rad_12, Rad_14, Rad_20, Rad_23, Rad_24, Rad_110, Rad_200, Rad_230, Rad_290, Rad_294, Rad_298, Rad_498, Rad_1128, Rad_1248, Rad_1278, Rad_1764, Mul_2, Mul_3, Mul_4, Mul_5, Mul_6, Mul_7, Mul_10, Mul_20, Mul_23, Mul_24, Mul_142]
    rw [show 1764 + 142 * a + 4 + 23 * c = 1768 + 142 * a + 23 * c by omega]
    obtain ⟨m, m1, m2, m3⟩ := wTc a g1
    have e : n = m := by rw [g2] at m2; exact (eqN (by omega) (by omega)).mp m2
    subst e
    obtain ⟨b1, -⟩ := m3 c g4
    have hsay : ∀ x, F_X7_says (nI (10 * a + c)) x C2 = if R.1 1 (1768 + 142 * a + 23 * c) = x then some 1 else some 0 := by
      intro x
      unfold F_X7_says
      rw [isIn_y (n := 80) rfl (by omega)]
      simp only [bS, i10, i00, ↓reduceIte]
      simp (disch := omega) only [eIn_s, eG_tt, cl, nI_add, bS, Ladd_0, Ladd_1, Ladd_2, Ladd_3, Ladd_4, Ladd_5, Ladd_6, Ladd_7, Ladd_8, Ladd_10, Ladd_12, Ladd_14, Ladd_20, Ladd_23, Ladd_24, Ladd_110, Ladd_200, Ladd_230, Ladd_290, Ladd_294, Ladd_298, Ladd_498, Ladd_1128, Ladd_1248, Ladd_1278, Ladd_1764, Rad_0, Rad_1, Rad_2, Rad_3, Rad_4, Rad_5, Rad_6, Rad_7, Rad_8, Rad_10, Rad_12, Rad_14, Rad_20, Rad_23, Rad_24, Rad_110, Rad_200, Rad_230, Rad_290, Rad_294, Rad_298, Rad_498, Rad_1128, Rad_1248, Rad_1278, Rad_1764, Mul_2, Mul_3, Mul_4, Mul_5, Mul_6, Mul_7, Mul_10, Mul_20, Mul_23, Mul_24, Mul_142]
      rw [b1]
    refine ⟨nI (10 * a + c), _, C2, h1, rfl, h3, fun e => ?_, fun e => ?_, fun e => ?_, fun e => ?_⟩
    · rw [hsay, if_pos e]
    · rw [hsay, if_neg e]
    · rw [hsay, if_pos e]
    · rw [hsay, if_neg e]
theorem need_eq {C R : eMem} (hW : RelW C.1 (R.1 1)) {k : Nat} (hk : k < nS (R.1 1)) : ∃ v, v ≤ 4 ∧ F_X5_need (nI k) C = some (nI v) ∧ F_X10_needOf (nI k) R = some (nI v) := by
  obtain ⟨-, -, -, -, -, -, wSh, -, -, -, -, -, -, -, i1, -, -, i4, -⟩ := id hW
  obtain ⟨-, -, -, -, -, ⟨z9, y9⟩, -⟩ := id i1
  obtain ⟨s0, -⟩ := wSh k hk
  obtain ⟨⟨x, x1, x2⟩, -⟩ := i4 k hk
  unfold F_X5_need F_X10_needOf
  rw [show_0 k R (by omega)]
  simp (disch := omega) only [eIn_s, eG_tt, cl, nI_add, bS, Ladd_0, Ladd_1, Ladd_2, Ladd_3, Ladd_4, Ladd_5, Ladd_6, Ladd_7, Ladd_8, Ladd_10, Ladd_12, Ladd_14, Ladd_20, Ladd_23, Ladd_24, Ladd_110, Ladd_200, Ladd_230, Ladd_290, Ladd_294, Ladd_298, Ladd_498, Ladd_1128, Ladd_1248, Ladd_1278, Ladd_1764, Rad_0, Rad_1, Rad_2, Rad_3, Rad_4, Rad_5, Rad_6, Rad_7, Rad_8, Rad_10, Rad_12, Rad_14, Rad_20, Rad_23, Rad_24, Rad_110, Rad_200, Rad_230, Rad_290, Rad_294, Rad_298, Rad_498, Rad_1128, Rad_1248, Rad_1278, Rad_1764, Mul_2, Mul_3, Mul_4, Mul_5, Mul_6, Mul_7, Mul_10, Mul_20, Mul_23, Mul_24, Mul_142]
  rw [s0, x2]
  rcases (show x = 0 ∨ x = 1 ∨ x = 2 ∨ x = 3 ∨ x = 4 ∨ x = 5 ∨ x = 6 by omega) with rfl | rfl | rfl | rfl | rfl | rfl | rfl
  · exact ⟨0, by decide, by decide, by decide⟩
  · exact ⟨1, by decide, by decide, by decide⟩
  · exact ⟨4, by decide, by decide, by decide⟩
  · exact ⟨2, by decide, by decide, by decide⟩
  · exact ⟨0, by decide, by decide, by decide⟩
  · exact ⟨0, by decide, by decide, by decide⟩
  · exact ⟨0, by decide, by decide, by decide⟩
theorem shown_both {C R : eMem} (hW : RelW C.1 (R.1 1)) {k : Nat} (hk : k < nS (R.1 1)) : ∃ v C2, (v = 0 ∨ v = 1) ∧ F_X8_isShown (nI k) C = some (v, C2) ∧ F_X10_isShown (nI k) R = some v ∧ scr C C2 := by
  obtain ⟨-, -, -, -, -, -, wSh, -, -, -, -, -, -, -, i1, -, -, i4, -⟩ := id hW
  obtain ⟨-, -, -, -, -, ⟨z9, y9⟩, -⟩ := id i1
  obtain ⟨-, -, -, -, -, s5, -, s7, s8, -⟩ := wSh k hk
  obtain ⟨-, -, -, -, x5, x7, -⟩ := i4 k hk
  obtain ⟨u, -, u1, u2⟩ := need_eq hW hk
  obtain ⟨v, w, C2, w1, w2, w3, -, -, w4, w5⟩ := word_both hW hk
  unfold F_X8_isShown F_X10_isShown
  rw [show_5 k R (by omega), show_7 k R (by omega), show_8 k R (by omega)]
  simp (disch := omega) only [eIn_s, eG_tt, cl, nI_add, bS, Ladd_0, Ladd_1, Ladd_2, Ladd_3, Ladd_4, Ladd_5, Ladd_6, Ladd_7, Ladd_8, Ladd_10, Ladd_12, Ladd_14, Ladd_20, Ladd_23, Ladd_24, Ladd_110, Ladd_200, Ladd_230, Ladd_290, Ladd_294, Ladd_298, Ladd_498, Ladd_1128, Ladd_1248, Ladd_1278, Ladd_1764, Rad_0, Rad_1, Rad_2, Rad_3, Rad_4, Rad_5, Rad_6, Rad_7, Rad_8, Rad_10, Rad_12, Rad_14, Rad_20, Rad_23, Rad_24, Rad_110, Rad_200, Rad_230, Rad_290, Rad_294, Rad_298, Rad_498, Rad_1128, Rad_1248, Rad_1278, Rad_1764, Mul_2, Mul_3, Mul_4, Mul_5, Mul_6, Mul_7, Mul_10, Mul_20, Mul_23, Mul_24, Mul_142]
  rw [s5, s7, s8, u1, u2]
  simp only [Option.bind_some]
  rcases x5 with x5 | x5 <;> rw [x5]
  · rw [if_pos rfl, if_neg (by decide)]
    exact ⟨0, C, Or.inl rfl, rfl, rfl, scr.rf⟩
  · rw [if_neg (by decide), if_pos rfl]
    rcases x7 with x7 | x7 <;> rw [x7]
    · rw [if_pos rfl, if_pos rfl]
      by_cases hl : R.1 1 (306 + 10 * k) < nI u
      · rw [if_pos hl, if_pos hl]
        exact ⟨0, C, Or.inl rfl, rfl, rfl, scr.rf⟩
      · rw [if_neg hl, if_neg hl, w1, w2]
        simp only [Option.bind_some]
        by_cases hw : w = 2
        · rw [w4 hw, if_pos hw]
          exact ⟨0, C2, Or.inl rfl, by simp only [bS, i10, i00, ↓reduceIte], rfl, w3⟩
        · rw [w5 hw, if_neg hw]
          exact ⟨1, C2, Or.inr rfl, by simp only [bS, i10, i00, ↓reduceIte], rfl, w3⟩
    · rw [if_neg (by decide), if_neg (by decide)]
      exact ⟨0, C, Or.inl rfl, rfl, rfl, scr.rf⟩
theorem stepS {α : Type} {v w : α} {C C2 R : eMem} (h : Rel C R) (hs : scr C C2) (e : v = w) : Step (some (v, C2)) (some (w, R)) := stepI e (hs.R h)
theorem st_must {C R : eMem} (h : Rel C R) (x1 : Int32) : Step (F_X9_must x1 C) (F_X10_must x1 R) := by
  obtain ⟨wSc, wGr, wRo, wUn, wPl, wHe, wSh, wRe, wFl, wLi, wBo, wTx, wTc, wz, i1, i2, i3, i4, i5, i6⟩ := id h.1; obtain ⟨c0, c1, c2, c3, c4, c5, c6, c7, c8, c9, c10, c11, c12, c13⟩ := id wSc; obtain ⟨⟨z0, y0⟩, ⟨f5, g5, y5, z5⟩, ⟨t6, y6, z6⟩, ⟨z7, y7⟩, ⟨z8, y8⟩, ⟨z9, y9⟩, ⟨z10, y10⟩, ⟨z11, y11⟩, ⟨z12, y12⟩, ⟨z13, y13⟩⟩ := id i1
  unfold F_X9_must F_X10_must
  rw [has_eq, isShow_eq, c9]
  rcases rngN x1 (R.1 1 9) _ z9 (by omega) with ⟨k, hk, rfl, e1, e2⟩ | ⟨e1, e2⟩ <;> rw [e1, e2] <;> simp only [bS, i10, i00, ↓reduceIte]
  · obtain ⟨v, w, C2, w1, w2, w3, w4, w5, -, -⟩ := word_both h.1 hk
    rw [w1, w2]
    simp only [Option.bind_some]
    by_cases hw : w = 0
    · rw [w4 hw, if_pos hw]; simp only [bS, i10, i00, ↓reduceIte]; exact stepS h w3 rfl
    · rw [w5 hw, if_neg hw]; simp only [bS, i10, i00, ↓reduceIte]; exact stepS h w3 rfl
  · exact stf1 h
theorem st_may {C R : eMem} (h : Rel C R) (x1 : Int32) : Step (F_X9_may x1 C) (F_X10_may x1 R) := by
  obtain ⟨wSc, wGr, wRo, wUn, wPl, wHe, wSh, wRe, wFl, wLi, wBo, wTx, wTc, wz, i1, i2, i3, i4, i5, i6⟩ := id h.1; obtain ⟨c0, c1, c2, c3, c4, c5, c6, c7, c8, c9, c10, c11, c12, c13⟩ := id wSc; obtain ⟨⟨z0, y0⟩, ⟨f5, g5, y5, z5⟩, ⟨t6, y6, z6⟩, ⟨z7, y7⟩, ⟨z8, y8⟩, ⟨z9, y9⟩, ⟨z10, y10⟩, ⟨z11, y11⟩, ⟨z12, y12⟩, ⟨z13, y13⟩⟩ := id i1
  unfold F_X9_may F_X10_may
  rw [has_eq, isShow_eq, c9]
  rcases rngN x1 (R.1 1 9) _ z9 (by omega) with ⟨k, hk, rfl, e1, e2⟩ | ⟨e1, e2⟩ <;> rw [e1, e2] <;> simp only [bS, i10, i00, ↓reduceIte]
  · obtain ⟨v, w, C2, w1, w2, w3, -, -, w4, w5⟩ := word_both h.1 hk
    rw [w1, w2]
    simp only [Option.bind_some]
    by_cases hw : w = 2
    · rw [w4 hw, if_pos hw]; simp only [bS, i10, i00, ↓reduceIte]; exact stepS h w3 rfl
    · rw [w5 hw, if_neg hw]; simp only [bS, i10, i00, ↓reduceIte]; exact stepS h w3 rfl
  · exact stf1 h
theorem st_why {C R : eMem} (h : Rel C R) (x1 : Int32) : Step (F_X9_why x1 C) (F_X10_why x1 R) := by
  obtain ⟨wSc, wGr, wRo, wUn, wPl, wHe, wSh, wRe, wFl, wLi, wBo, wTx, wTc, wz, i1, i2, i3, i4, i5, i6⟩ := id h.1; obtain ⟨c0, c1, c2, c3, c4, c5, c6, c7, c8, c9, c10, c11, c12, c13⟩ := id wSc; obtain ⟨⟨z0, y0⟩, ⟨f5, g5, y5, z5⟩, ⟨t6, y6, z6⟩, ⟨z7, y7⟩, ⟨z8, y8⟩, ⟨z9, y9⟩, ⟨z10, y10⟩, ⟨z11, y11⟩, ⟨z12, y12⟩, ⟨z13, y13⟩⟩ := id i1
  unfold F_X9_why F_X10_why
  rw [has_eq, isShow_eq, c9]
  rcases rngN x1 (R.1 1 9) _ z9 (by omega) with ⟨k, hk, rfl, e1, e2⟩ | ⟨e1, e2⟩ <;> rw [e1, e2] <;> simp only [bS, i10, i00, ↓reduceIte]
  · obtain ⟨v, C2, w1, w2, w3, w4⟩ := clauseOf_both h.1 hk
    rw [w1, w2]
    simp only [Option.bind_some]
    rcases w4 with rfl | ⟨a, c, n, g1, g2, g3, g4, rfl⟩
    · rw [if_pos rfl, if_pos (by decide)]
      exact stf4 (w3.R h)
    · rw [if_neg (fun e => by have := nI_pos (n := 10 * a + c) (by omega); rw [e] at this; exact this (by decide)), if_neg (nI_pos (by omega))]
      exact stepS h w3 rfl
  · exact stf1 h
