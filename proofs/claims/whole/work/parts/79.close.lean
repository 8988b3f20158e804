/-! a day is closed -/
theorem eI_swap {M : eMem} {p q i j : Nat} {v w : Int32} (h : p ≠ q) : eI (eI M p i v) q j w = eI (eI M q j w) p i v := by
  unfold eI eC
  refine Prod.ext (funext fun r => ?_) rfl
  dsimp only
  by_cases e1 : r = q
  · subst e1
    rw [if_pos rfl, if_neg (fun e => h e.symm), if_neg (fun e => h e.symm), if_pos rfl]
  · rw [if_neg e1]
    by_cases e2 : r = p
    · subst e2; rw [if_pos rfl, if_pos rfl, if_neg e1]
    · rw [if_neg e2, if_neg e2, if_neg e1]
theorem eI_twice {M : eMem} {p i : Nat} {v w : Int32} : eI (eI M p i v) p i w = eI M p i w := by
  unfold eI eC
  refine Prod.ext (funext fun r => ?_) rfl
  dsimp only
  by_cases e1 : r = p
  · subst e1
    rw [if_pos rfl, if_pos rfl, if_pos rfl]
    funext k
    simp only [upd]
    split <;> rfl
  · rw [if_neg e1, if_neg e1, if_neg e1]
theorem price_15 (k : Nat) (M : eMem) (v : Int32) : F_X5_price (nI k) (eI M 2 15 v) = F_X5_price (nI k) M := by
  unfold F_X5_price
  rw [eIq_ne (show (13 : Nat) ≠ 2 by decide), eIq_ne (show (16 : Nat) ≠ 2 by decide), eIq_ne (show (17 : Nat) ≠ 2 by decide)]
theorem price_R4 (k : Nat) (hk : k < 20) (R : eMem) (v : Int32) : F_X10_priceOf (nI k) (eI R 1 4 v) = F_X10_priceOf (nI k) R := by
  unfold F_X10_priceOf
  rw [show_0 k _ hk, show_3 k _ hk, show_4 k _ hk, show_0 k _ hk, show_3 k _ hk, show_4 k _ hk]
  simp (disch := omega) only [eIq_ne, eIq_eq, upd_ne, upd_eq]
def hsum (s : Nat → Int32) : Nat → Int32
  | 0 => 0
  | k + 1 => hsum s k + s (306 + 10 * k)
theorem pay_loop (s0 : Nat → Int32) (K : Int32 → eMem → Option eMem) : ∀ m j, ∀ (C R : eMem) (coin : Int32), Rel (eI C 2 15 coin) R → j + m = nS (R.1 1) → (∀ k, k < 20 → R.1 1 (306 + 10 * k) = s0 (306 + 10 * k)) → ∀ f1 f2, m < f1 → m < f2 →
    ∃ coin2 C2 R2, F_X5_pay_2 f1 coin (nI j) C = some (coin2, C2) ∧ F_X10_closes_4 K f2 (hsum s0 j) (nI j) R = K (hsum s0 (nS (R.1 1))) R2 ∧ Rel (eI C2 2 15 coin2) R2 ∧ kq R R2 ∧ (∀ k, k < 20 → R2.1 1 (306 + 10 * k) = s0 (306 + 10 * k)) := by
  intro m
  induction m with
  | zero =>
    intro j C R coin h hj h6 f1 f2 h1 h2
    obtain ⟨wSc, wGr, wRo, wUn, wPl, wHe, wSh, wRe, wFl, wLi, wBo, wTx, wTc, wz, i1, i2, i3, i4, i5, i6⟩ := id h.1; obtain ⟨c0, c1, c2, c3, c4, c5, c6, c7, c8, c9, c10, c11, c12, c13⟩ := id wSc; obtain ⟨⟨z0, y0⟩, ⟨f5, g5, y5, z5⟩, ⟨t6, y6, z6⟩, ⟨z7, y7⟩, ⟨z8, y8⟩, ⟨z9, y9⟩, ⟨z10, y10⟩, ⟨z11, y11⟩, ⟨z12, y12⟩, ⟨z13, y13⟩⟩ := id i1
    obtain ⟨f1, rfl⟩ : ∃ x, f1 = x + 1 := ⟨f1 - 1, by omega⟩
    obtain ⟨f2, rfl⟩ : ∃ x, f2 = x + 1 := ⟨f2 - 1, by omega⟩
    have e : j = nS (R.1 1) := by omega
    have c9' : C.1 12 10 = R.1 1 9 := by rw [← c9]; simp (disch := omega) only [eIq_ne, eIq_eq, upd_ne, upd_eq]
    rw [F_X5_pay_2, F_X10_closes_4, c9', z9, if_neg (nI_nlt (by omega) (by omega)), if_neg (nI_nlt (by omega) (by omega)), ← e]
    exact ⟨coin, C, R, rfl, rfl, h, kq.rf, h6⟩
  | succ m ih =>
    intro j C R coin h hj h6 f1 f2 h1 h2
    obtain ⟨wSc, wGr, wRo, wUn, wPl, wHe, wSh, wRe, wFl, wLi, wBo, wTx, wTc, wz, i1, i2, i3, i4, i5, i6⟩ := id h.1; obtain ⟨c0, c1, c2, c3, c4, c5, c6, c7, c8, c9, c10, c11, c12, c13⟩ := id wSc; obtain ⟨⟨z0, y0⟩, ⟨f5, g5, y5, z5⟩, ⟨t6, y6, z6⟩, ⟨z7, y7⟩, ⟨z8, y8⟩, ⟨z9, y9⟩, ⟨z10, y10⟩, ⟨z11, y11⟩, ⟨z12, y12⟩, ⟨z13, y13⟩⟩ := id i1
    obtain ⟨f1, rfl⟩ : ∃ x, f1 = x + 1 := ⟨f1 - 1, by omega⟩
    obtain ⟨f2, rfl⟩ : ∃ x, f2 = x + 1 := ⟨f2 - 1, by omega⟩
    obtain ⟨s0', s1, s2, s3, s4, s5, s6, s7, s8, s9⟩ := wSh j (by omega)
    obtain ⟨-, -, -, -, x5, -⟩ := i4 j (by omega)
    have c9' : C.1 12 10 = R.1 1 9 := by rw [← c9]; simp (disch := omega) only [eIq_ne, eIq_eq, upd_ne, upd_eq]
    have c4' : R.1 1 4 = coin := by rw [← c4]; simp (disch := omega) only [eIq_ne, eIq_eq, upd_ne, upd_eq]
    have s5' : C.1 18 j = R.1 1 (303 + 10 * j) := by rw [← s5]; simp (disch := omega) only [eIq_ne, eIq_eq, upd_ne, upd_eq]
    have s9' : C.1 22 j = R.1 1 (307 + 10 * j) := by rw [← s9]; simp (disch := omega) only [eIq_ne, eIq_eq, upd_ne, upd_eq]
    obtain ⟨p, p1, p2⟩ := price_eq h.1 (k := j) (by omega)
    rw [price_15] at p1
    have h83 : ∀ R' : eMem, R'.1 1 (306 + 10 * j) = s0 (306 + 10 * j) → F_X10_closes_83 (fun v1 v2 M => F_X10_closes_4 K f2 v1 v2 M) K (hsum s0 j) (nI j) R' = F_X10_closes_4 K f2 (hsum s0 (j + 1)) (nI (j + 1)) R' := fun R' hR' => by
      unfold F_X10_closes_83
      rw [show_8 j R' (by omega), hR', Rad_1]
      rfl
    rw [F_X5_pay_2, F_X10_closes_4, c9', z9, if_pos (nI_lt (by omega) (by omega)), if_pos (nI_lt (by omega) (by omega)), show_5 j R (by omega), eIn_s (show j < 20 by omega) (by omega), cl (show j < 2147483648 by omega), s5', p1, p2, Rad_1]
    simp only [bS, eG_tt]
    rcases x5 with q | q
    · rw [q, if_pos rfl, if_neg (show ¬ (0 : Int32) = 1 by decide), h83 R (h6 j (by omega))]
      exact ih (j + 1) C R coin h (by omega) h6 f1 f2 (by omega) (by omega)
    · rw [q, if_neg (show ¬ (1 : Int32) = 0 by decide), if_pos rfl, c4']
      by_cases e : coin < p
      · rw [if_pos e, if_pos e, set_5 j 0 R (by omega), show vp_nar .boolean (0 : Int32) = 0 from rfl]
        simp only [bS]
        have h6' : ∀ k, k < 20 → (eI R 1 (303 + 10 * j) 0).1 1 (306 + 10 * k) = s0 (306 + 10 * k) := fun k hk => by simp (disch := omega) only [eIq_ne, eIq_eq, upd_ne, upd_eq]; exact h6 k hk
        rw [h83 _ (h6' j (by omega))]
        have h4 := set_stands h (k := j) (w := 0) (by omega) (Or.inl rfl)
        rw [eI_swap (show (2 : Nat) ≠ 18 by decide)] at h4
        have hk : kq R (eI R 1 (303 + 10 * j) 0) := kq.w (by omega)
        obtain ⟨coin2, C2, R2, g1, g2, g3, g4, g5⟩ := ih (j + 1) _ _ coin h4 (by rw [hk.S]; omega) h6' f1 f2 (by omega) (by omega)
        rw [hk.S] at g2
        exact ⟨coin2, C2, R2, g1, g2, g3, hk.tr g4, g5⟩
      · rw [if_neg e, if_neg e, price_R4 j (by omega), p2, show_9 j _ (by omega)]
        simp only [bS]
        rw [set_9 j _ _ (by omega)]
        simp only [bS]
        simp (disch := omega) only [eIq_ne, eIq_eq, upd_ne, upd_eq]
        have h3 := set_coin h (coin - p)
        rw [eI_twice] at h3
        have h4 := set_cost h3 (k := j) (by unfold nS; simp (disch := omega) only [eIq_ne, eIq_eq, upd_ne, upd_eq]; rw [← nS]; omega) (C.1 22 j + p)
        rw [eI_swap (show (2 : Nat) ≠ 22 by decide)] at h4
        have hk : kq R (eI (eI R 1 4 (coin - p)) 1 (307 + 10 * j) (R.1 1 (307 + 10 * j) + p)) := (kq.w (by omega)).tr (kq.w (by omega))
        have h6' : ∀ k, k < 20 → (eI (eI R 1 4 (coin - p)) 1 (307 + 10 * j) (R.1 1 (307 + 10 * j) + p)).1 1 (306 + 10 * k) = s0 (306 + 10 * k) := fun k hk => by simp (disch := omega) only [eIq_ne, eIq_eq, upd_ne, upd_eq]; exact h6 k hk
        rw [h83 _ (h6' j (by omega))]
        rw [s9'] at h4 ⊢
        obtain ⟨coin2, C2, R2, g1, g2, g3, g4, g5⟩ := ih (j + 1) _ _ (coin - p) h4 (by rw [hk.S]; omega) h6' f1 f2 (by omega) (by omega)
        rw [hk.S] at g2
        exact ⟨coin2, C2, R2, g1, g2, g3, hk.tr g4, g5⟩
theorem hands_loop {C : eMem} {s : Nat → Int32} (hW : RelW C.1 s) : ∀ m j, j + m = nS s → ∀ f, m < f → F_X5_handsOfAll_4 f C (hsum s j) (nI j) = some (hsum s (nS s)) := by
  obtain ⟨wSc, -, -, -, -, -, wSh, -, -, -, -, -, -, -, i1, -⟩ := id hW
  obtain ⟨-, -, -, -, -, ⟨z9, y9⟩, -⟩ := id i1
  have c9 := wSc.2.2.2.2.2.2.2.2.2.1
  intro m
  induction m with
  | zero =>
    intro j hj f hf
    obtain ⟨f, rfl⟩ : ∃ x, f = x + 1 := ⟨f - 1, by omega⟩
    have e : j = nS s := by omega
    rw [F_X5_handsOfAll_4, c9, z9, if_neg (nI_nlt (by omega) (by omega)), e]
  | succ m ih =>
    intro j hj f hf
    obtain ⟨f, rfl⟩ : ∃ x, f = x + 1 := ⟨f - 1, by omega⟩
    rw [F_X5_handsOfAll_4, c9, z9, if_pos (nI_lt (by omega) (by omega)), eIn_s (show j < 20 by omega) (by omega), cl (show j < 2147483648 by omega), (wSh j (by omega)).2.2.2.2.2.2.2.2.1, eG_tt, Rad_1]
    exact ih (j + 1) (by omega) f (by omega)
theorem hsum_cg {s s2 : Nat → Int32} : ∀ n, n ≤ 20 → (∀ k, k < 20 → s2 (306 + 10 * k) = s (306 + 10 * k)) → hsum s2 n = hsum s n := by
  intro n
  induction n with
  | zero => intro _ _; rfl
  | succ n ih => intro hn h; rw [hsum, hsum, ih (by omega) h, h n (by omega)]
theorem set_book {C R : eMem} (h : Rel C R) {i : Nat} (hi : i < 486) (v : Int32) : Rel (eI C 53 i v) (eI R 1 (1278 + i) v) := by
  obtain ⟨wSc, wGr, wRo, wUn, wPl, wHe, wSh, wRe, wFl, wLi, wBo, wTx, wTc, wz, i1, i2, i3, i4, i5, i6⟩ := id h.1; obtain ⟨c0, c1, c2, c3, c4, c5, c6, c7, c8, c9, c10, c11, c12, c13⟩ := id wSc; obtain ⟨⟨z0, y0⟩, ⟨f5, g5, y5, z5⟩, ⟨t6, y6, z6⟩, ⟨z7, y7⟩, ⟨z8, y8⟩, ⟨z9, y9⟩, ⟨z10, y10⟩, ⟨z11, y11⟩, ⟨z12, y12⟩, ⟨z13, y13⟩⟩ := id i1
  refine h.now (by simp (disch := omega) only [eIq_ne, eIq_eq, upd_ne, upd_eq]) (fun p hp => by simp (disch := omega) only [eIq_ne, eIq_eq, upd_ne, upd_eq]) (by simp (disch := omega) only [eIq_ne, eIq_eq, upd_ne, upd_eq]) (by simp (disch := omega) only [eIq_ne, eIq_eq, upd_ne, upd_eq]) (fun p p1 p2 => by simp (disch := omega) only [eIq_ne, eIq_eq, upd_ne, upd_eq]) (h.1.bo (fun p p1 => by simp (disch := omega) only [eIq_ne, eIq_eq, upd_ne, upd_eq]) (fun j hj => by simp (disch := omega) only [eIq_ne, eIq_eq, upd_ne, upd_eq]) (fun k hk => ?_))
  simp (disch := omega) only [eIq_ne, eIq_eq, upd_ne, upd_eq]
  rw [upd_at, upd_at]
  by_cases e : k = i
  · subst e; rw [if_pos rfl, if_pos rfl]
  · rw [if_neg e, if_neg (by omega)]; exact wBo k hk
theorem set_bookj {C R : eMem} (h : Rel C R) {i j : Nat} (hi : i < 486) (hj : j = 1278 + i) (v : Int32) : Rel (eI C 53 i v) (eI R 1 j v) := by
  subst hj
  exact set_book h hi v
theorem set_hour {C R : eMem} (h : Rel C R) (hh : hr (R.1 1) < 1943) : Rel (eI C 2 11 (C.1 2 11 + 1)) (eI R 1 0 (R.1 1 0 + 1)) := by
  obtain ⟨wSc, wGr, wRo, wUn, wPl, wHe, wSh, wRe, wFl, wLi, wBo, wTx, wTc, wz, i1, i2, i3, i4, i5, i6⟩ := id h.1; obtain ⟨c0, c1, c2, c3, c4, c5, c6, c7, c8, c9, c10, c11, c12, c13⟩ := id wSc; obtain ⟨⟨z0, y0⟩, ⟨f5, g5, y5, z5⟩, ⟨t6, y6, z6⟩, ⟨z7, y7⟩, ⟨z8, y8⟩, ⟨z9, y9⟩, ⟨z10, y10⟩, ⟨z11, y11⟩, ⟨z12, y12⟩, ⟨z13, y13⟩⟩ := id i1
  rw [c0, z0, Rad_1]
  refine h.now (by simp (disch := omega) only [eIq_ne, eIq_eq, upd_ne, upd_eq]) (fun p hp => by simp (disch := omega) only [eIq_ne, eIq_eq, upd_ne, upd_eq]) (by simp (disch := omega) only [eIq_ne, eIq_eq, upd_ne, upd_eq]) (by simp (disch := omega) only [eIq_ne, eIq_eq, upd_ne, upd_eq]) (fun p p1 p2 => by simp (disch := omega) only [eIq_ne, eIq_eq, upd_ne, upd_eq]) (h.1.hour (fun p p1 => by simp (disch := omega) only [eIq_ne, eIq_eq, upd_ne, upd_eq]) (fun j hj => by simp (disch := omega) only [eIq_ne, eIq_eq, upd_ne, upd_eq]) (by refine ⟨?_, ?_, ?_, ?_, ?_, ?_, ?_, ?_, ?_, ?_, ?_, ?_, ?_, ?_⟩ <;> (simp (disch := omega) only [eIq_ne, eIq_eq, upd_ne, upd_eq] <;> first | assumption | (simp only [*]; done))) (iSc_mk (h := hr (R.1 1) + 1) (by simp (disch := omega) only [eIq_ne, eIq_eq, upd_ne, upd_eq]) (by omega) (by simp (disch := omega) only [eIq_ne, eIq_eq, upd_ne, upd_eq]; exact z5) g5 y5 (by simp (disch := omega) only [eIq_ne, eIq_eq, upd_ne, upd_eq]; exact z6) y6 (by simp (disch := omega) only [eIq_ne, eIq_eq, upd_ne, upd_eq]; exact z7) y7 (by simp (disch := omega) only [eIq_ne, eIq_eq, upd_ne, upd_eq]; exact z8) y8 (by simp (disch := omega) only [eIq_ne, eIq_eq, upd_ne, upd_eq]; exact z9) y9 (by simp (disch := omega) only [eIq_ne, eIq_eq, upd_ne, upd_eq]; exact z10) y10 (by simp (disch := omega) only [eIq_ne, eIq_eq, upd_ne, upd_eq]; exact z11) y11 (by simp (disch := omega) only [eIq_ne, eIq_eq, upd_ne, upd_eq]; exact z12) y12 (by simp (disch := omega) only [eIq_ne, eIq_eq, upd_ne, upd_eq]; exact z13) y13) (iRe_mk (n := nP (R.1 1)) (a := hr (R.1 1) + 1) (b := nS (R.1 1)) (by simp (disch := omega) only [eIq_ne, eIq_eq, upd_ne, upd_eq]; exact z10) (by omega) (by simp (disch := omega) only [eIq_ne, eIq_eq, upd_ne, upd_eq]) (by omega) (by simp (disch := omega) only [eIq_ne, eIq_eq, upd_ne, upd_eq]; exact z9) (by omega) (fun i hi => ?_)))
  obtain ⟨b1, b2, b3, ⟨y, b4, b4'⟩, b5, b6⟩ := i5 i hi
  simp (disch := omega) only [eIq_ne, eIq_eq, upd_ne, upd_eq]
  exact ⟨b1, b2, b3, ⟨y, by omega, b4'⟩, fun q => by obtain ⟨y, y1, y2, y3⟩ := b5 q; exact ⟨y, y1, y2, y3⟩, b6⟩
theorem closeDay_both {C R : eMem} (h : Rel C R) : ∃ C2 R2, F_X8_closeDay C = some C2 ∧ F_X10_closes R = some R2 ∧ Rel C2 R2 ∧ R2.1 1 0 = R.1 1 0 := by
  obtain ⟨wSc, wGr, wRo, wUn, wPl, wHe, wSh, wRe, wFl, wLi, wBo, wTx, wTc, wz, i1, i2, i3, i4, i5, i6⟩ := id h.1; obtain ⟨c0, c1, c2, c3, c4, c5, c6, c7, c8, c9, c10, c11, c12, c13⟩ := id wSc; obtain ⟨⟨z0, y0⟩, ⟨f5, g5, y5, z5⟩, ⟨t6, y6, z6⟩, ⟨z7, y7⟩, ⟨z8, y8⟩, ⟨z9, y9⟩, ⟨z10, y10⟩, ⟨z11, y11⟩, ⟨z12, y12⟩, ⟨z13, y13⟩⟩ := id i1
  have h0 : Rel (eI C 2 15 (C.1 2 15)) R := by
    have e : eI C 2 15 (C.1 2 15) = C := by
      unfold eI eC
      refine Prod.ext (funext fun r => ?_) rfl
      dsimp only
      split
      · next q =>
        subst q
        funext k
        simp only [upd]
        split
        · next q => rw [q]
        · rfl
      · rfl
    rw [e]; exact h
  unfold F_X8_closeDay F_X5_pay F_X10_closes
  obtain ⟨coin2, C2, R2, a1, a2, a3, a4, a5⟩ := pay_loop (R.1 1) (fun v1 M =>
      (F_X10_gather (M.1 1 0) M).bind fun q9 =>
      (F_X10_weigh q9).bind fun q10 =>
      eG (eIn (1278 + (6 * ((M.1 1 0) / 24))) 2900) <|
      eG (eIn ((1278 + (6 * ((M.1 1 0) / 24))) + 1) 2900) <|
      eG (eIn ((1278 + (6 * ((M.1 1 0) / 24))) + 2) 2900) <|
      (F_X10_standing (eI (eI (eI q10 1 (1278 + (6 * ((M.1 1 0) / 24))).toNatClampNeg (q10.1 1 3)) 1 ((1278 + (6 * ((M.1 1 0) / 24))) + 1).toNatClampNeg v1) 1 ((1278 + (6 * ((M.1 1 0) / 24))) + 2).toNatClampNeg ((eI (eI q10 1 (1278 + (6 * ((M.1 1 0) / 24))).toNatClampNeg (q10.1 1 3)) 1 ((1278 + (6 * ((M.1 1 0) / 24))) + 1).toNatClampNeg v1).1 1 4))).bind fun q11 =>
      eG (eIn ((1278 + (6 * ((M.1 1 0) / 24))) + 3) 2900) <|
      (F_X10_knownBy ((eI (eI (eI (eI q10 1 (1278 + (6 * ((M.1 1 0) / 24))).toNatClampNeg (q10.1 1 3)) 1 ((1278 + (6 * ((M.1 1 0) / 24))) + 1).toNatClampNeg v1) 1 ((1278 + (6 * ((M.1 1 0) / 24))) + 2).toNatClampNeg ((eI (eI q10 1 (1278 + (6 * ((M.1 1 0) / 24))).toNatClampNeg (q10.1 1 3)) 1 ((1278 + (6 * ((M.1 1 0) / 24))) + 1).toNatClampNeg v1).1 1 4)) 1 ((1278 + (6 * ((M.1 1 0) / 24))) + 3).toNatClampNeg q11).1 1 0) (eI (eI (eI (eI q10 1 (1278 + (6 * ((M.1 1 0) / 24))).toNatClampNeg (q10.1 1 3)) 1 ((1278 + (6 * ((M.1 1 0) / 24))) + 1).toNatClampNeg v1) 1 ((1278 + (6 * ((M.1 1 0) / 24))) + 2).toNatClampNeg ((eI (eI q10 1 (1278 + (6 * ((M.1 1 0) / 24))).toNatClampNeg (q10.1 1 3)) 1 ((1278 + (6 * ((M.1 1 0) / 24))) + 1).toNatClampNeg v1).1 1 4)) 1 ((1278 + (6 * ((M.1 1 0) / 24))) + 3).toNatClampNeg q11)).bind fun q12 =>
      eG (eIn ((1278 + (6 * ((M.1 1 0) / 24))) + 4) 2900) <|
      (F_X10_greatest (eI (eI (eI (eI (eI q10 1 (1278 + (6 * ((M.1 1 0) / 24))).toNatClampNeg (q10.1 1 3)) 1 ((1278 + (6 * ((M.1 1 0) / 24))) + 1).toNatClampNeg v1) 1 ((1278 + (6 * ((M.1 1 0) / 24))) + 2).toNatClampNeg ((eI (eI q10 1 (1278 + (6 * ((M.1 1 0) / 24))).toNatClampNeg (q10.1 1 3)) 1 ((1278 + (6 * ((M.1 1 0) / 24))) + 1).toNatClampNeg v1).1 1 4)) 1 ((1278 + (6 * ((M.1 1 0) / 24))) + 3).toNatClampNeg q11) 1 ((1278 + (6 * ((M.1 1 0) / 24))) + 4).toNatClampNeg q12)).bind fun q13 =>
      eG (eIn ((1278 + (6 * ((M.1 1 0) / 24))) + 5) 2900) <|
      some (eI (eI (eI (eI (eI (eI q10 1 (1278 + (6 * ((M.1 1 0) / 24))).toNatClampNeg (q10.1 1 3)) 1 ((1278 + (6 * ((M.1 1 0) / 24))) + 1).toNatClampNeg v1) 1 ((1278 + (6 * ((M.1 1 0) / 24))) + 2).toNatClampNeg ((eI (eI q10 1 (1278 + (6 * ((M.1 1 0) / 24))).toNatClampNeg (q10.1 1 3)) 1 ((1278 + (6 * ((M.1 1 0) / 24))) + 1).toNatClampNeg v1).1 1 4)) 1 ((1278 + (6 * ((M.1 1 0) / 24))) + 3).toNatClampNeg q11) 1 ((1278 + (6 * ((M.1 1 0) / 24))) + 4).toNatClampNeg q12) 1 ((1278 + (6 * ((M.1 1 0) / 24))) + 5).toNatClampNeg q13)) (nS (R.1 1)) 0 C R (C.1 2 15) h0 (by omega) (fun _ _ => rfl) eFuel eFuel (by unfold eFuel; omega) (by unfold eFuel; omega)
  rw [show nI 0 = 0 from rfl, hsum] at a2
  rw [show nI 0 = 0 from rfl] at a1
  rw [a1, a2]
  simp only [bS]
  clear a1 a2
  -- the row of the book
  have hH := a4.1 0 (by omega) (by omega) (by omega)
  have e11 : C2.1 2 11 = R.1 1 0 := by
    have := a3.1.1.1
    rw [hH] at this
    rw [← this]; simp (disch := omega) only [eIq_ne, eIq_eq, upd_ne, upd_eq]
  have e14 : C2.1 2 14 = R2.1 1 3 := by
    rw [← a3.1.1.2.2.2.1]; simp (disch := omega) only [eIq_ne, eIq_eq, upd_ne, upd_eq]
  have e15 : R2.1 1 4 = coin2 := by
    rw [← a3.1.1.2.2.2.2.1]; simp (disch := omega) only [eIq_ne, eIq_eq, upd_ne, upd_eq]
  obtain ⟨dd, hdd, ed⟩ : ∃ dd, dd ≤ 80 ∧ R.1 1 0 / 24 = nI dd := by
    refine ⟨hr (R.1 1) / 24, by omega, ?_⟩
    rw [z0, show (24 : Int32) = nI 24 from rfl, pk_div (by omega) (by omega) (by omega)]
  rw [e11, e14, hH, ed, isIn_y (n := 81) rfl (by omega), Mul_6, Ladd_1278]
  simp only [bS, i10, ↓reduceIte]
  rw [Rad_1, Rad_2, Rad_3, Rad_4, Rad_5, Rad_1, Rad_2, Rad_3, Rad_4, Rad_5]
  simp (disch := omega) only [eIn_s, eG_tt, cl]
  -- the reference weighs
  obtain ⟨Cx, R3, n, d, b1, b2, b3, b4, b5, b6, b7, b8, b9, b10, b11⟩ := desk_both a3 (R.1 1 0)
  clear b1 b3 b4 b8 b10 b11
  have i5' : iRe (R2.1 1) := a3.1.2.2.2.2.2.2.2.2.2.2.2.2.2.2.2.2.2.2.1
  have y10' : nP (R2.1 1) ≤ 90 := a3.1.2.2.2.2.2.2.2.2.2.2.2.2.2.2.1.2.2.2.2.2.2.1.2
  obtain ⟨k1, k2, k3⟩ := b7
  obtain ⟨R4, g1, g2, g3, g4⟩ := X10_weigh (R := R3) (n := n) (by omega) b9.1 (fun i hi => by
    rw [(b9.2 i hi).2.2.1]
    exact (i5' _ (k3 _ (by omega))).2.2.1)
  rw [b2]
  simp only [bS]
  rw [g1]
  simp only [bS]
  have hfr : frR R2 R4 := by rw [frR, g2]; exact b5
  have h10 : Rel (eI C2 2 15 coin2) R4 := fr_Rel a3 (fun _ _ _ => rfl) hfr
  have r1 : R4.1 1 = R2.1 1 := hfr.1 1 (by omega)
  rw [r1]
  -- the book, number by number
  have hb1 := set_bookj h10 (i := 6 * dd) (j := 1278 + 6 * dd) (by omega) rfl (R2.1 1 3)
  have hS : nS ((eI R4 1 (1278 + 6 * dd) (R2.1 1 3)).1 1) = nS (R.1 1) := by
    rw [← a4.S]; unfold nS; simp (disch := omega) only [eIq_ne, eIq_eq, upd_ne, upd_eq]; rw [r1]
  have e6 : hsum ((eI R4 1 (1278 + 6 * dd) (R2.1 1 3)).1 1) (nS (R.1 1)) = hsum (R.1 1) (nS (R.1 1)) := hsum_cg _ y9 (fun k hk => by simp (disch := omega) only [eIq_ne, eIq_eq, upd_ne, upd_eq]; rw [r1]; exact a5 k hk)
  have eH : F_X5_handsOfAll (eI (eI C2 2 15 coin2) 53 (6 * dd) (R2.1 1 3)) = some (hsum (R.1 1) (nS (R.1 1))) := by
    have := hands_loop hb1.1 (nS (R.1 1)) 0 (by rw [hS]; omega) eFuel (by unfold eFuel; omega)
    rw [hS, e6] at this
    exact this
  rw [eH]
  simp only [bS]
  have hb2 := set_bookj hb1 (i := 6 * dd + 1) (j := 1278 + 6 * dd + 1) (by omega) (by omega) (hsum (R.1 1) (nS (R.1 1)))
  have e4 : (eI (eI R4 1 (1278 + 6 * dd) (R2.1 1 3)) 1 (1278 + 6 * dd + 1) (hsum (R.1 1) (nS (R.1 1)))).1 1 4 = coin2 := by simp (disch := omega) only [eIq_ne, eIq_eq, upd_ne, upd_eq]; rw [r1]; exact e15
  have hb3 := set_bookj hb2 (i := 6 * dd + 2) (j := 1278 + 6 * dd + 2) (by omega) (by omega) coin2
  rw [e4]
  obtain ⟨St, t1, t2⟩ := standing_both hb3.1
  rw [t1, t2]
  simp only [bS]
  have hb4 := set_bookj hb3 (i := 6 * dd + 3) (j := 1278 + 6 * dd + 3) (by omega) (by omega) St
  have e0 : (eI (eI (eI (eI R4 1 (1278 + 6 * dd) (R2.1 1 3)) 1 (1278 + 6 * dd + 1) (hsum (R.1 1) (nS (R.1 1)))) 1 (1278 + 6 * dd + 2) coin2) 1 (1278 + 6 * dd + 3) St).1 1 0 = R.1 1 0 := by simp (disch := omega) only [eIq_ne, eIq_eq, upd_ne, upd_eq]; rw [r1, hH]
  obtain ⟨Kn, w1, w2⟩ := known_both hb4 (R.1 1 0)
  rw [e0, w1, w2]
  simp only [bS]
  have hb5 := set_bookj hb4 (i := 6 * dd + 4) (j := 1278 + 6 * dd + 4) (by omega) (by omega) Kn
  obtain ⟨C6, R3', n', d', x1, x2, x3, x4, x5, x6, x7, x8, x9, x10, x11⟩ := desk_bothX a3 (D := (eI (eI (eI (eI (eI (eI C2 2 15 coin2) 53 (6 * dd) (R2.1 1 3)) 53 (6 * dd + 1) (hsum (R.1 1) (nS (R.1 1)))) 53 (6 * dd + 2) coin2) 53 (6 * dd + 3) St) 53 (6 * dd + 4) Kn)) (fun p p1 p2 p3 => by simp (disch := omega) only [eIq_ne, eIq_eq, upd_ne, upd_eq]) (R.1 1 0)
  rw [b2] at x2
  cases x2
  obtain ⟨m1, m2, m3⟩ := x7
  have en : n = n' := (eqN (by omega) (by omega)).mp (b9.1.symm.trans x9.1)
  subst en
  obtain ⟨C6', -, -, -, y1, -, y3, -⟩ := desk_both hb5 (R.1 1 0)
  rw [x1] at y1
  cases y1
  rw [scales_load] at x1
  rw [x1]
  simp only [bS]
  obtain ⟨u, u1, u2, u3⟩ := heavy_both (C := C6) (R := (eI (eI (eI (eI (eI R4 1 (1278 + 6 * dd) (R2.1 1 3)) 1 (1278 + 6 * dd + 1) (hsum (R.1 1) (nS (R.1 1)))) 1 (1278 + 6 * dd + 2) coin2) 1 (1278 + 6 * dd + 3) St) 1 (1278 + 6 * dd + 4) Kn)) (fun x hx => by
    show C6.2 56 x = R4.2 12 x
    rw [x10 x hx, g4 x hx]
    refine pu_cg _ (fun i hi => ?_)
    obtain ⟨q1, q2, q3, q4⟩ := x9.2 (n - 1 - i) (by omega)
    rw [q2, q3, q4, show n - 1 - (n - 1 - i) = i by omega]
    rfl)
  rw [u2, u3]
  simp only [bS]
  have hb6 := fr_Rel hb5 y3 frR.rf
  exact ⟨_, _, rfl, rfl, set_bookj hb6 (i := 6 * dd + 5) (j := 1278 + 6 * dd + 5) (by omega) (by omega) (nI u), by simp (disch := omega) only [eIq_ne, eIq_eq, upd_ne, upd_eq]; rw [r1, hH]⟩
theorem oneHour_both {C R : eMem} (h : Rel C R) (hh : hr (R.1 1) < 1943) : ∃ C2 R2, F_X8_closeHour C = some C2 ∧ F_X10_oneHour R = some R2 ∧ Rel C2 R2 ∧ hr (R2.1 1) = hr (R.1 1) + 1 := by
  obtain ⟨wSc, -, -, -, -, -, -, -, -, -, -, -, -, -, i1, -⟩ := id h.1
  obtain ⟨⟨z0, y0⟩, -, -, -, ⟨z8, y8⟩, ⟨z9, y9⟩, -, -, ⟨z12, y12⟩, ⟨z13, y13⟩⟩ := id i1
  unfold F_X8_closeHour F_X10_oneHour F_X5_breakBy F_X10_storm
  rw [wSc.2.1]
  obtain ⟨C1, R1, a1, a2, a3, a4⟩ := storm_loop (nS (R.1 1)) 0 C R h (by omega) eFuel eFuel (by unfold eFuel; omega) (by unfold eFuel; omega) (R.1 1 1) rfl
  rw [show nI 0 = 0 from rfl] at a1 a2
  rw [a1, a2]
  simp only [bS]
  obtain ⟨C2, R2, b1, b2, b3, b4⟩ := flights_loop (fun M => F_X8_closeHour_73 (fun M => (F_X8_findPapers M).bind fun q6 => (F_X0_march q6).bind fun q7 => if ((q7.1 2 11) - (q7.1 2 11) / 24 * 24) = 23 then (F_X8_closeDay q7).bind fun q8 => some (eI q8 2 11 ((q8.1 2 11) + 1)) else some (eI q7 2 11 ((q7.1 2 11) + 1))) eFuel 0 M) (fun M => F_X10_oneHour_57 (fun M => (F_X10_papers M).bind fun q4 => (F_X10_marches q4).bind fun q5 => if ((q5.1 1 0) - (q5.1 1 0) / 24 * 24) = 23 then (F_X10_closes q5).bind fun q6 => some (eI q6 1 0 ((q6.1 1 0) + 1)) else some (eI q5 1 0 ((q5.1 1 0) + 1))) eFuel 0 M) (nF (R.1 1)) 0 C1 R1 a3 (by rw [a4.F]; omega) eFuel eFuel (by unfold eFuel; omega) (by unfold eFuel; omega)
  rw [show nI 0 = 0 from rfl] at b1 b2
  rw [b1, b2]
  have k2 := a4.tr b4
  obtain ⟨C3, R3, d1, d2, d3, d4⟩ := listens_loop (fun M => (F_X8_findPapers M).bind fun q6 => (F_X0_march q6).bind fun q7 => if ((q7.1 2 11) - (q7.1 2 11) / 24 * 24) = 23 then (F_X8_closeDay q7).bind fun q8 => some (eI q8 2 11 ((q8.1 2 11) + 1)) else some (eI q7 2 11 ((q7.1 2 11) + 1))) (fun M => (F_X10_papers M).bind fun q4 => (F_X10_marches q4).bind fun q5 => if ((q5.1 1 0) - (q5.1 1 0) / 24 * 24) = 23 then (F_X10_closes q5).bind fun q6 => some (eI q6 1 0 ((q6.1 1 0) + 1)) else some (eI q5 1 0 ((q5.1 1 0) + 1))) (nL (R.1 1)) 0 C2 R2 b3 (by rw [k2.L]; omega) eFuel eFuel (by unfold eFuel; omega) (by unfold eFuel; omega)
  rw [show nI 0 = 0 from rfl] at d1 d2
  rw [d1, d2]
  have k3 := k2.tr d4
  unfold F_X8_findPapers F_X10_papers
  obtain ⟨C4, R4, e1, e2, e3, e4⟩ := papers_loop (nS (R.1 1)) 0 C3 R3 d3 (by rw [k3.S]; omega) eFuel eFuel (by unfold eFuel; omega) (by unfold eFuel; omega)
  rw [show nI 0 = 0 from rfl] at e1 e2
  rw [e1, e2]
  simp only [bS]
  have k4 := k3.tr e4
  unfold F_X0_march F_X10_marches
  obtain ⟨C5, R5, f1, f2, f3, f4⟩ := march_loop (nU (R.1 1)) 0 C4 R4 e3 (by rw [k4.U]; omega) eFuel eFuel (by unfold eFuel; omega) (by unfold eFuel; omega)
  rw [show nI 0 = 0 from rfl] at f1 f2
  rw [f1, f2]
  simp only [bS]
  have k5 := k4.tr f4
  have hH := k5.1 0 (by omega) (by omega) (by omega)
  rw [f3.1.1.1, hH]
  have hend : ∀ (C6 R6 : eMem), Rel C6 R6 → R6.1 1 0 = R.1 1 0 → Rel (eI C6 2 11 (C6.1 2 11 + 1)) (eI R6 1 0 (R6.1 1 0 + 1)) ∧ hr ((eI R6 1 0 (R6.1 1 0 + 1)).1 1) = hr (R.1 1) + 1 := by
    intro C6 R6 h6 hq
    have e : hr (R6.1 1) = hr (R.1 1) := by unfold hr; rw [hq]
    refine ⟨set_hour h6 (by rw [e]; exact hh), ?_⟩
    refine hr_of ?_ (by omega)
    simp (disch := omega) only [eIq_ne, eIq_eq, upd_ne, upd_eq]
    rw [hq, z0, Rad_1]
  by_cases q : R.1 1 0 - R.1 1 0 / 24 * 24 = 23
  · rw [if_pos q, if_pos q]
    obtain ⟨C6, R6, g1, g2, g3, g4⟩ := closeDay_both f3
    rw [g1, g2]
    simp only [bS]
    obtain ⟨p1, p2⟩ := hend C6 R6 g3 (g4.trans hH)
    exact ⟨_, _, rfl, rfl, p1, p2⟩
  · rw [if_neg q, if_neg q]
    obtain ⟨p1, p2⟩ := hend C5 R5 f3 hH
    rw [f3.1.1.1, hH] at p1
    rw [hH] at p2
    exact ⟨_, _, rfl, rfl, p1, p2⟩
theorem tick_loop {n : Nat} (hn : n ≤ 99) : ∀ m j, j + m = n → ∀ (C R : eMem), Rel C R → hr (R.1 1) + m ≤ 1943 → ∀ f1 f2, m < f1 → m < f2 → Step (F_X9_tick_44 f1 (nI n) (nI j) C) (F_X10_tick_38 f2 (nI n) (nI j) R) := by
  intro m
  induction m with
  | zero =>
    intro j hj C R h hh f1 f2 h1 h2
    obtain ⟨f1, rfl⟩ : ∃ x, f1 = x + 1 := ⟨f1 - 1, by omega⟩
    obtain ⟨f2, rfl⟩ : ∃ x, f2 = x + 1 := ⟨f2 - 1, by omega⟩
    rw [F_X9_tick_44, F_X10_tick_38, if_neg (nI_nlt (by omega) (by omega)), if_neg (nI_nlt (by omega) (by omega))]
    exact stepI h.1.1.1 h
  | succ m ih =>
    intro j hj C R h hh f1 f2 h1 h2
    obtain ⟨f1, rfl⟩ : ∃ x, f1 = x + 1 := ⟨f1 - 1, by omega⟩
    obtain ⟨f2, rfl⟩ : ∃ x, f2 = x + 1 := ⟨f2 - 1, by omega⟩
    obtain ⟨C2, R2, a1, a2, a3, a4⟩ := oneHour_both h (by omega)
    rw [F_X9_tick_44, F_X10_tick_38, if_pos (nI_lt (by omega) (by omega)), if_pos (nI_lt (by omega) (by omega)), a1, a2, Rad_1]
    simp only [bS]
    exact ih (j + 1) (by omega) C2 R2 a3 (by omega) f1 f2 (by omega) (by omega)
theorem st_tick {C R : eMem} (h : Rel C R) (x1 : Int32) : Step (F_X9_tick x1 C) (F_X10_tick x1 R) := by
  obtain ⟨wSc, wGr, wRo, wUn, wPl, wHe, wSh, wRe, wFl, wLi, wBo, wTx, wTc, wz, i1, i2, i3, i4, i5, i6⟩ := id h.1; obtain ⟨c0, c1, c2, c3, c4, c5, c6, c7, c8, c9, c10, c11, c12, c13⟩ := id wSc; obtain ⟨⟨z0, y0⟩, ⟨f5, g5, y5, z5⟩, ⟨t6, y6, z6⟩, ⟨z7, y7⟩, ⟨z8, y8⟩, ⟨z9, y9⟩, ⟨z10, y10⟩, ⟨z11, y11⟩, ⟨z12, y12⟩, ⟨z13, y13⟩⟩ := id i1
  unfold F_X9_tick F_X10_tick
  rw [btw]
  rcases inL x1 1 99 1 99 rfl rfl with ⟨k, k1, hk, rfl, e1⟩ | e1 <;> rw [e1]
  · simp only [bS, i10, ↓reduceIte]
    rw [c0, z0, nI_add]
    by_cases q : 1943 < hr (R.1 1) + k
    · have q2 : (1943 : Int32) < nI (hr (R.1 1) + k) := (gt_lit (n := 1943) rfl (by omega)).mpr (by omega)
      rw [if_pos q2, if_pos q2]; exact stf2 h
    · have q2 : ¬ (1943 : Int32) < nI (hr (R.1 1) + k) := fun e => by have := (gt_lit (n := 1943) rfl (by omega)).mp e; omega
      rw [if_neg q2, if_neg q2]
      exact tick_loop hk k 0 (by omega) C R h (by omega) eFuel eFuel (by unfold eFuel; omega) (by unfold eFuel; omega)
  · simp only [bS, i10, i00, ↓reduceIte]
    exact stf1 h
