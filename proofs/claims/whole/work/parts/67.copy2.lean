theorem eCp_t {a b n : Nat} (h : a + b ≤ n) (hn : n ≤ 1000) : eCp (nI a) (nI b) n = true := by
  simp only [eCp, Bool.and_eq_true, Bool.not_eq_true', decide_eq_false_iff_not, decide_eq_true_eq]
  rw [cl (by omega), cl (by omega)]
  exact ⟨⟨nI_pos (by omega), nI_pos (by omega)⟩, h⟩
theorem st_copy {C R : eMem} (h : Rel C R) (x1 x2 x3 x4 x5 : Int32) : Step (F_X9_copy x1 x2 x3 x4 x5 C) (F_X10_copy x1 x2 x3 x4 x5 R) := by
  unfold F_X9_copy F_X10_copy
  rw [isSheet_eq, isSheet_eq]
  rcases rng x1 4 3 4 rfl rfl with ⟨k, hk, rfl, f1, f2⟩ | ⟨f1, f2⟩ <;> rw [f1, f2]
  · rcases rng x3 4 3 4 rfl rfl with ⟨g, hg, rfl, e1, e2⟩ | ⟨e1, e2⟩ <;> rw [e1, e2]
    · simp only [bS, i10, ↓reduceIte]
      obtain ⟨b4, b5, b3, ⟨n, hn, h5⟩, b6, b8⟩ := h.2.2.2.1 k hk
      obtain ⟨d4, d5, d3, ⟨m, hm, g5⟩, d6, d8⟩ := h.2.2.2.1 g hg
      unfold F_X4_isMissing
      rw [eIn_s hk (by omega), eIn_s hg (by omega), cl (show k < 2147483648 by omega), cl (show g < 2147483648 by omega), b4, d4, h5, g5]
      simp only [eG_tt]
      by_cases h4 : R.1 4 k = 0
      · rw [if_pos h4, if_pos h4]; simp only [bS, i10, i00, ↓reduceIte]; exact stf6 h
      · rw [if_neg h4, if_neg h4]
        simp only [bS, ↓reduceIte]
        by_cases j4 : R.1 4 g = 0
        · rw [if_pos j4, if_pos j4]; simp only [bS, i10, i00, ↓reduceIte]; exact stf6 h
        · rw [if_neg j4, if_neg j4]
          simp only [bS, ↓reduceIte]
          by_cases hb : R.1 4 k = R.1 4 g
          · rw [if_pos hb, if_pos hb]
            by_cases q5 : x5 < 0
            · rw [if_pos q5]
              have hr : ∀ y p, ∃ v, F_X4_hasRange y p x5 C = v ∧ (p < 0 ∨ ¬ p < 0) := fun y p => ⟨_, rfl, Classical.em _⟩
              unfold F_X4_hasRange
              simp only [if_pos q5, ite_self, bS, ↓reduceIte]
              exact stf1 h
            · by_cases q2 : x2 < 0
              · rw [if_neg q5, if_pos q2]
                unfold F_X4_hasRange
                simp only [if_pos q2, bS, ↓reduceIte]
                exact stf1 h
              · obtain ⟨l, hl, rfl⟩ := nI_of q5
                obtain ⟨p, hp, rfl⟩ := nI_of q2
                rw [range_C hk (b5.trans h5) hn (by omega) (by omega), if_neg q5, if_neg q2]
                by_cases q4 : x4 < 0
                · rw [if_pos q4]
                  unfold F_X4_hasRange
                  by_cases hq : p + l ≤ n
                  · simp only [if_pos hq, if_pos q4, bS, i10, ↓reduceIte]; exact stf1 h
                  · simp only [if_neg hq, bS, ↓reduceIte]; exact stf1 h
                · obtain ⟨r, hr, rfl⟩ := nI_of q4
                  rw [range_C hg (d5.trans g5) hm (by omega) (by omega), if_neg q4]
                  by_cases hq : p + l ≤ n
                  · rw [if_pos hq, if_neg (fun e => (subn hn (by omega) p (by omega)).mp e hq)]
                    simp only [bS, i10, ↓reduceIte]
                    by_cases hw : r + l ≤ m
                    · rw [if_pos hw, if_neg (fun e => (subn hm (by omega) r (by omega)).mp e hw)]
                      simp only [bS, i10, ↓reduceIte]
                      rw [eCp_t (show p + l ≤ 20 by omega) (by omega), eCp_t (show r + l ≤ 20 by omega) (by omega), cl (show p < 2147483648 by omega), cl (show r < 2147483648 by omega), cl (show l < 2147483648 by omega)]
                      simp only [eG_tt]
                      obtain ⟨M1, a1, a2, a4⟩ := cpy1 (fun v3 v4 v5 M => F_X10_copy_153 eFuel v3 v4 v5 0 M) (nI g) (nI r) hk (show p + l ≤ 20 by omega) l 0 (by omega) eFuel (by unfold eFuel; omega) R
                      obtain ⟨M2, c1, c2, c4⟩ := cpy2 hg (show r + l ≤ 20 by omega) l 0 (by omega) eFuel (by unfold eFuel; omega) M1
                      rw [show nI 0 = 0 from rfl] at a1 c1
                      rw [a1, c1]
                      refine stepI rfl (h.sheet (fun q hq => ?_) (fun q hq => ?_) (fun t ht => ?_))
                      · show (if q = 151 + g then _ else C.1 q) = _
                        rw [if_neg (by omega)]
                      · rw [c2 q (by omega), a2 q (by omega)]
                      · obtain ⟨t4, t5, t3, t2, t6, t8⟩ := h.2.2.2.1 t ht
                        have hcp : ∀ q, (eCpy C (151 + k) (151 + g) p r l).1 q = if q = 151 + g then va_cpy (C.1 (151 + k)) (C.1 (151 + g)) p r l else C.1 q := fun q => rfl
                        rw [hcp, hcp, hcp, if_neg (show ¬ 148 = 151 + g by omega), if_neg (show ¬ 149 = 151 + g by omega), c2 4 (by decide), c2 5 (by decide), a2 4 (by decide), a2 5 (by decide)]
                        have hM : ∀ i, M2.1 6 i = if 20 * g + r + 0 ≤ i ∧ i < 20 * g + r + l then R.1 6 (20 * k + p + (i - (20 * g + r))) else R.1 6 i := fun i => by
                          rw [c4 i]
                          by_cases q : 20 * g + r + 0 ≤ i ∧ i < 20 * g + r + l
                          · rw [if_pos q, if_pos q, a4, if_pos (by omega)]
                          · rw [if_neg q, if_neg q, a2 6 (by decide)]
                        by_cases e : t = g
                        · subst e
                          refine ⟨t4, t5, t3, t2, fun i hi => ?_, fun q i hi => ?_⟩
                          · rw [if_pos rfl, hM, va_cpy]
                            by_cases w : r ≤ i ∧ i < r + l
                            · rw [if_pos w, if_pos (by omega), b6 _ (by omega), show 20 * k + p + (20 * t + i - (20 * t + r)) = 20 * k + (p + (i - r)) by omega]
                            · rw [if_neg w, if_neg (by omega)]; exact t6 i hi
                          · rw [hM]
                            by_cases w : r ≤ i ∧ i < r + l
                            · rw [if_pos (by omega), show 20 * k + p + (20 * t + i - (20 * t + r)) = 20 * k + (p + (i - r)) by omega]
                              exact b8 (hb.trans q) _ (by omega)
                            · rw [if_neg (by omega)]; exact t8 q i hi
                        · rw [if_neg (by omega)]
                          refine ⟨t4, t5, t3, t2, fun i hi => ?_, fun q i hi => ?_⟩
                          · rw [hM, if_neg (by omega)]; exact t6 i hi
                          · rw [hM, if_neg (by omega)]; exact t8 q i hi
                    · rw [if_neg hw, if_pos ((subn hm (by omega) r (by omega)).mpr hw)]
                      simp only [bS, ↓reduceIte]
                      exact stf1 h
                  · rw [if_neg hq, if_pos ((subn hn (by omega) p (by omega)).mpr hq)]
                    simp only [bS, ↓reduceIte]
                    exact stf1 h
          · rw [if_neg hb, if_neg hb]; exact stf3 h
    · simp only [bS, i10, i00, ↓reduceIte]
      exact stf1 h
  · simp only [bS, i10, i00, ↓reduceIte]
    exact stf1 h
