/-! the desk, where the book has changed -/
def frX (C C2 : eMem) : Prop := (∀ p, p ≠ 55 → p ≠ 57 → p ≠ 53 → C2.1 p = C.1 p)
theorem credit_53 (k : Nat) (M : eMem) (f : Nat → Int32) : F_X1_credit (nI k) (eC M 53 f) = F_X1_credit (nI k) M := by
  unfold F_X1_credit F_X5_has
  have h : ∀ p, p ≠ 53 → (eC M 53 f).1 p = M.1 p := fun p hp => by simp [eC, hp]
  rw [h 30 (by decide), h 35 (by decide), h 12 (by decide), h 16 (by decide)]
theorem load_loopX {C R : eMem} (hW : RelW C.1 (R.1 1)) (T : Int32) (L : Nat → Nat → Int64) (K : eMem → Option eMem) : ∀ m j, j + m = nP (R.1 1) → ∀ f1 f2, m < f1 → m < f2 → ∀ C2 R2 n d, n ≤ j → frX C C2 → C2.2 = L → frR R R2 → R2.2 = R.2 → dkS (R.1 1) (nP (R.1 1)) n d → dkC C2 n d → dkR R2 (R.1 1) n d →
    ∃ C3 R3 n' d', F_X3_load_8 K f1 T (nI j) C2 = K C3 ∧ F_X10_gather_7 f2 T (nI j) R2 = some R3 ∧ frX C C3 ∧ C3.2 = L ∧ frR R R3 ∧ R3.2 = R.2 ∧ dkS (R.1 1) (nP (R.1 1)) n' d' ∧ dkC C3 n' d' ∧ dkR R3 (R.1 1) n' d' := by
  obtain ⟨wSc, -, -, -, -, -, -, wRe, -, -, -, -, -, wz, i1, -, -, -, i5, -⟩ := id hW
  obtain ⟨c0, c1, c2, c3, c4, c5, c6, c7, c8, c9, c10, c11, c12, c13⟩ := id wSc
  obtain ⟨-, -, -, -, -, -, ⟨z10, y10⟩, -⟩ := id i1
  intro m
  induction m with
  | zero =>
    intro j hj f1 f2 h1 h2 C2 R2 n d hn a1 a2 a3 a4 a5 a6 a7
    obtain ⟨f1, rfl⟩ : ∃ x, f1 = x + 1 := ⟨f1 - 1, by omega⟩
    obtain ⟨f2, rfl⟩ : ∃ x, f2 = x + 1 := ⟨f2 - 1, by omega⟩
    rw [F_X3_load_8, F_X10_gather_7, a3.1 1 (by omega), a1 29 (by decide) (by decide) (by decide), c10, z10, if_neg (nI_nlt (by omega) (by omega)), if_neg (nI_nlt (by omega) (by omega))]
    exact ⟨C2, R2, n, d, rfl, rfl, a1, a2, a3, a4, a5, a6, a7⟩
  | succ m ih =>
    intro j hj f1 f2 h1 h2 C2 R2 n d hn a1 a2 a3 a4 a5 a6 a7
    obtain ⟨f1, rfl⟩ : ∃ x, f1 = x + 1 := ⟨f1 - 1, by omega⟩
    obtain ⟨f2, rfl⟩ : ∃ x, f2 = x + 1 := ⟨f2 - 1, by omega⟩
    have hskip := ih (j + 1) (by omega) f1 f2 (by omega) (by omega) C2 R2 n d (by omega) a1 a2 a3 a4 a5 a6 a7
    obtain ⟨r0, r1, r2, r3, r4, r5, r6⟩ := wRe j (by omega)
    obtain ⟨-, x1, x2, -, -, x6⟩ := i5 j (by omega)
    have hR1 : R2.1 1 = R.1 1 := a3.1 1 (by omega)
    rw [F_X3_load_8, F_X10_gather_7, a1 29 (by decide) (by decide) (by decide), c10, hR1, z10, if_pos (nI_lt (by omega) (by omega)), if_pos (nI_lt (by omega) (by omega))]
    unfold F_X1_isCounted
    rw [rep_6 j _ (by omega), rep_4 j _ (by omega), rep_3 j _ (by omega), rep_1 j _ (by omega), rep_2 j _ (by omega), hR1, eIn_s (by omega) (by omega), cl (show j < 2147483648 by omega), a1 36 (by decide) (by decide) (by decide), a1 34 (by decide) (by decide) (by decide), a1 33 (by decide) (by decide) (by decide), a1 29 (by decide) (by decide) (by decide), r6, r4, r3, c5]
    simp only [eG_tt, bS]
    rw [Rad_1]
    rcases x6 with q | q <;> rw [q]
    · rw [if_pos rfl, if_pos rfl]
      by_cases q1 : T < R.1 1 (502 + 7 * j)
      · rw [if_pos q1, if_pos q1]
        simp only [bS, ↓reduceIte]
        exact hskip
      · rw [if_neg q1, if_neg q1]
        by_cases q2 : R.1 1 (501 + 7 * j) < T - 24 * R.1 1 5
        · rw [if_pos q2, if_pos q2]
          simp only [bS, ↓reduceIte]
          exact hskip
        · rw [if_neg q2, if_neg q2]
          simp only [bS, i10, ↓reduceIte]
          obtain ⟨-, k2, v, k3, k4⟩ := credit_val (C := C) (R := R2) (by rw [hR1]; exact hW) (k := j) (by rw [hR1]; omega)
          rw [k2]
          simp only [bS]
          rw [hR1]
          obtain ⟨s1, s2, s3⟩ := a5
          obtain ⟨p, p1, p2, p3⟩ := spot j n s2
          have h33 : ∀ k, k < nP (R.1 1) → C2.1 33 k = nI (gtm (R.1 1) k) ∧ gtm (R.1 1) k ≤ 1943 := fun k hk => by
            obtain ⟨g1, g2⟩ := gtm_val i1 i5 hk
            rw [a1 33 (by decide) (by decide) (by decide), (wRe k hk).2.2.2.1]
            exact ⟨g1, g2⟩
          obtain ⟨C3, b1, b2, b3, b4, b5⟩ := X3_ins y10 (by omega) h33 (show j < nP (R.1 1) by omega) a6.1 (fun i hi => ⟨a6.2 i hi, s3 i (by omega)⟩) p1 p2 p3
          obtain ⟨g1, g2⟩ := gtm_val i1 i5 (show j < nP (R.1 1) by omega)
          obtain ⟨R3, e1, e2, e3, e4, e5, e6⟩ := X10_ins (R := R2) (R.1 1 (501 + 7 * j)) (R.1 1 (499 + 7 * j)) (R.1 1 (500 + 7 * j)) (crd (R.1 1) j) (q := n - p) (n := n) (by omega) (by omega) a7.1 (fun i hi => by
            obtain ⟨l1, l2⟩ := gtm_val i1 i5 (s3 (n - 1 - i) (by omega))
            rw [(a7.2 i hi).1, g1, l1]
            by_cases hq : n - p ≤ i
            · have := p2 (n - 1 - i) (by omega)
              exact ⟨fun _ => hq, fun _ => nI_lt this (by omega)⟩
            · have := p3 (n - 1 - i) (by omega) (by omega)
              exact ⟨fun h => absurd h (nI_nlt this (by omega)), fun h => absurd h hq⟩)
          rw [b1, e1]
          simp only [bS]
          refine ih (j + 1) (by omega) f1 f2 (by omega) (by omega) C3 R3 (n + 1) (ins d p j) (by omega) (fun q h1 h2 h3 => by rw [b2 q h1 h2, a1 q h1 h2 h3]) (b3.trans a2) ⟨fun a ha => by rw [e2 a (by omega), a3.1 a ha], fun i hi => by rw [e4 i hi, a3.2 i hi]⟩ (e3.trans a4) ⟨by omega, srt_ins s2 p1 p2 p3, fun i hi => ?_⟩ ⟨b4, b5⟩ ⟨e5, fun i hi => ?_⟩
          · unfold ins
            by_cases q1 : i < p
            · rw [if_pos q1]; exact s3 i (by omega)
            · rw [if_neg q1]
              by_cases q2 : i = p
              · rw [if_pos q2]; omega
              · rw [if_neg q2]; exact s3 (i - 1) (by omega)
          · obtain ⟨t1, t2, t3, t4⟩ := e6 i (by omega)
            rw [t1, t2, t3, t4]
            unfold ins
            by_cases q1 : i < n - p
            · rw [if_pos q1, if_pos q1, if_pos q1, if_pos q1, if_neg (by omega), if_neg (by omega), show n + 1 - 1 - i - 1 = n - 1 - i by omega]
              exact a7.2 i (by omega)
            · rw [if_neg q1, if_neg q1, if_neg q1, if_neg q1]
              by_cases q2 : i = n - p
              · rw [if_pos q2, if_pos q2, if_pos q2, if_pos q2, if_neg (by omega), if_pos (by omega)]
                exact ⟨rfl, rfl, rfl, rfl⟩
              · rw [if_neg q2, if_neg q2, if_neg q2, if_neg q2, if_pos (by omega), show n + 1 - 1 - i = n - 1 - (i - 1) by omega]
                exact a7.2 (i - 1) (by omega)
    · rw [if_neg (by decide), if_neg (by decide)]
      simp only [bS, ↓reduceIte]
      exact hskip
theorem X3_weighX {C R : eMem} (hW : RelW C.1 (R.1 1)) {N : Nat} {d : Nat → Nat} (hN : N ≤ 12) (hd : ∀ i, i < N → d i < nP (R.1 1)) : ∀ m j, j + m = N → ∀ f, m < f → ∀ C2 : eMem, C2.1 55 2 = nI N → (∀ i, i < N → C2.1 57 i = nI (d i)) → frX C C2 → (∀ x, x < 4 → C2.2 56 x = pu (fun i => fk (R.1 1) (d i) x) j) → (∀ i x, i ≤ j → x < 4 → C2.2 (59 + i) x = pu (fun i => fk (R.1 1) (d i) x) i) →
    ∃ C3, F_X3_load_67 f (nI j) C2 = some C3 ∧ C3.1 = C2.1 ∧ (∀ q, (q < 56 ∨ 56 < q ∧ q < 59 ∨ 71 < q) → C3.2 q = C2.2 q) ∧ (∀ x, x < 4 → C3.2 56 x = pu (fun i => fk (R.1 1) (d i) x) N) ∧ (∀ i x, i ≤ N → x < 4 → C3.2 (59 + i) x = pu (fun i => fk (R.1 1) (d i) x) i) := by
  obtain ⟨-, -, -, -, -, -, -, wRe, -, -, -, -, -, -, i1, -⟩ := id hW
  obtain ⟨-, -, -, -, -, -, ⟨z10, y10⟩, -⟩ := id i1
  intro m
  induction m with
  | zero =>
    intro j hj f hf C2 h55 h57 hfr h56 h59
    obtain ⟨f, rfl⟩ : ∃ x, f = x + 1 := ⟨f - 1, by omega⟩
    rw [F_X3_load_67, h55, if_neg (nI_nlt (by omega) (by omega))]
    have e : j = N := by omega
    subst e
    exact ⟨C2, rfl, rfl, fun _ _ => rfl, h56, h59⟩
  | succ m ih =>
    intro j hj f hf C2 h55 h57 hfr h56 h59
    obtain ⟨f, rfl⟩ : ∃ x, f = x + 1 := ⟨f - 1, by omega⟩
    have hdj := hd j (by omega)
    have hW2 : RelW (eC C2 53 (C.1 53)).1 (R.1 1) := by
      refine hW.agr ?_ (fun j _ => rfl)
      have hq : ∀ p, p ≠ 55 → p ≠ 57 → (eC C2 53 (C.1 53)).1 p = C.1 p := fun p p1 p2 => by
        by_cases e : p = 53
        · subst e; rw [eC_same]
        · have : (eC C2 53 (C.1 53)).1 p = C2.1 p := by simp [eC, e]
          rw [this]; exact hfr p p1 p2 e
      simp [Agr, hq]
    obtain ⟨k1, -, v, k3, k4⟩ := credit_val hW2 hdj
    rw [credit_53] at k1
    obtain ⟨r0, r1, r2, -⟩ := wRe (d j) hdj
    rw [F_X3_load_67, h55, if_pos (nI_lt (by omega) (by omega)), eIn_s (show j < 12 by omega) (by omega), eG_tt, cl (show j < 2147483648 by omega), h57 j (by omega), eIn_s (show d j < 90 by omega) (by omega), k1, cl (show d j < 2147483648 by omega), hfr 31 (by decide) (by decide) (by decide), hfr 32 (by decide) (by decide) (by decide), r1, r2]
    simp only [eG_tt, bS]
    obtain ⟨M2, g1, g2, g3, g4⟩ := X3_put (R.1 1 (499 + 7 * d j)) (R.1 1 (500 + 7 * d j)) (v := v) (by omega) C2
    rw [k4, g1]
    simp only [bS]
    rw [Rad_1, eIn_s (show j + 1 < 13 by omega) (by omega), eG_tt, cl (show j + 1 < 2147483648 by omega)]
    have hpu : ∀ x, x < 4 → M2.2 56 x = pu (fun i => fk (R.1 1) (d i) x) (j + 1) := fun x hx => by
      rw [g4 x hx, h56 x hx, pu]
      unfold fk
      rw [k4]
    have hcp : ∀ q, (eCpyL M2 56 (59 + (j + 1)) 0 0 4).2 q = if q = 59 + (j + 1) then va_cpy (M2.2 56) (M2.2 (59 + (j + 1))) 0 0 4 else M2.2 q := fun q => rfl
    obtain ⟨C3, a1, a2, a3, a4, a5⟩ := ih (j + 1) (by omega) f (by omega) (eCpyL M2 56 (59 + (j + 1)) 0 0 4) (by show M2.1 55 2 = _; rw [g2]; exact h55) (fun i hi => by show M2.1 57 i = _; rw [g2]; exact h57 i hi) (fun p q1 q2 q3 => by show M2.1 p = _; rw [g2]; exact hfr p q1 q2 q3)
      (fun x hx => by rw [hcp, if_neg (by omega)]; exact hpu x hx)
      (fun i x hi hx => by
        rw [hcp]
        by_cases q : i = j + 1
        · subst q
          rw [if_pos rfl, va_cpy, if_pos (by omega)]
          rw [show 0 + (x - 0) = x by omega]
          exact hpu x hx
        · rw [if_neg (by omega), g3 _ (by omega)]
          exact h59 i x (by omega) hx)
    refine ⟨C3, a1, a2.trans g2, fun q hq => ?_, a4, a5⟩
    rw [a3 q hq, hcp, if_neg (by omega), g3 q (by omega)]
theorem desk_bothX {C D R : eMem} (h : Rel C R) (hX : frX C D) (T : Int32) : ∃ C2 R2 n d, F_X8_scalesAt T D = some C2 ∧ F_X10_gather T R = some R2 ∧ frX C C2 ∧ (∀ q, (q < 56 ∨ 56 < q ∧ q < 59 ∨ 71 < q) → C2.2 q = D.2 q) ∧ frR R R2 ∧ R2.2 = R.2 ∧ dkS (R.1 1) (nP (R.1 1)) n d ∧ dkC C2 n d ∧ dkR R2 (R.1 1) n d ∧
    (∀ x, x < 4 → C2.2 56 x = pu (fun i => fk (R.1 1) (d i) x) (min n 12)) ∧ (∀ i x, i ≤ min n 12 → x < 4 → C2.2 (59 + i) x = pu (fun i => fk (R.1 1) (d i) x) i) := by
  have y10 : nP (R.1 1) ≤ 90 := h.1.2.2.2.2.2.2.2.2.2.2.2.2.2.2.1.2.2.2.2.2.2.1.2
  unfold F_X8_scalesAt F_X3_load F_X10_gather
  obtain ⟨C3, R3, n, d, a1, a2, a3, a4, a5, a6, a7, a8, a9⟩ := load_loopX h.1 T D.2 (fun M => F_X3_load_67 eFuel 0 (eCpyL (eFl64 M 56 4 1) 56 59 0 0 4)) (nP (R.1 1)) 0 (by omega) eFuel eFuel (by unfold eFuel; omega) (by unfold eFuel; omega) (eI D 55 2 0) (eI R 0 13 0) 0 (fun _ => 0) (Nat.le_refl _) (fun p p1 p2 p3 => by simp (disch := omega) only [eIq_ne, eIq_eq, upd_ne, upd_eq]; exact hX p p1 p2 p3) rfl ⟨fun p hp => by simp (disch := omega) only [eIq_ne, eIq_eq, upd_ne, upd_eq], fun i hi => by simp (disch := omega) only [eIq_ne, eIq_eq, upd_ne, upd_eq]⟩ rfl ⟨by omega, fun i j h1 h2 => by omega, fun i hi => by omega⟩ ⟨by simp (disch := omega) only [eIq_ne, eIq_eq, upd_ne, upd_eq]; rfl, fun i hi => by omega⟩ ⟨by simp (disch := omega) only [eIq_ne, eIq_eq, upd_ne, upd_eq]; rfl, fun i hi => by omega⟩
  rw [show nI 0 = 0 from rfl] at a1 a2
  rw [a1, a2]
  have hcp : ∀ q, (eCpyL (eFl64 C3 56 4 1) 56 59 0 0 4).2 q = if q = 59 then va_cpy ((eFl64 C3 56 4 1).2 56) ((eFl64 C3 56 4 1).2 59) 0 0 4 else (eFl64 C3 56 4 1).2 q := fun q => rfl
  have hfl : ∀ q, (eFl64 C3 56 4 1).2 q = if q = 56 then eFill 4 1 (C3.2 56) else C3.2 q := fun q => rfl
  have h56 : ∀ x, x < 4 → (eFl64 C3 56 4 1).2 56 x = 1 := fun x hx => by rw [hfl, if_pos rfl, eFill, if_pos hx]
  obtain ⟨C4, b1, b2, b3, b4, b5⟩ := X3_weighX h.1 (N := min n 12) (d := d) (by omega) (fun i hi => a7.2.2 i (by omega)) (min n 12) 0 (by omega) eFuel (by unfold eFuel; omega) (eCpyL (eFl64 C3 56 4 1) 56 59 0 0 4) a8.1 a8.2 a3
    (fun x hx => by rw [hcp, if_neg (by decide), h56 x hx]; rfl)
    (fun i x hi hx => by
      have e : i = 0 := by omega
      subst e
      rw [hcp, if_pos rfl, va_cpy, if_pos (by omega), show 0 + (x - 0) = x by omega, h56 x hx]; rfl)
  rw [show nI 0 = 0 from rfl] at b1
  rw [b1]
  simp only [bS]
  refine ⟨C4, R3, n, d, rfl, rfl, fun p p1 p2 p3 => by rw [b2]; exact a3 p p1 p2 p3, fun q hq => ?_, a5, a6, a7, ⟨by rw [b2]; exact a8.1, fun i hi => by rw [b2]; exact a8.2 i hi⟩, a9, b4, b5⟩
  rw [b3 q hq, hcp, if_neg (by omega), hfl, if_neg (by omega), a4]
