/-! copy -/
theorem subn {n l : Nat} (hn : n ≤ 20) (hl : l < 2147483648) (p : Nat) (hp : p < 2147483648) : nI n - nI l < nI p ↔ ¬ p + l ≤ n := by
  rw [Int32.lt_iff_toInt_lt, nI_toInt hp, Int32.toInt_sub, nI_toInt (by omega), nI_toInt hl, Int.bmod_def]
  omega
theorem range_C {C : eMem} {k n p l : Nat} (hk : k < 4) (h : C.1 149 k = nI n) (hn : n ≤ 20) (hp : p < 2147483648) (hl : l < 2147483648) : F_X4_hasRange (nI k) (nI p) (nI l) C = if p + l ≤ n then some 1 else some 0 := by
  unfold F_X4_hasRange
  rw [if_neg (nI_pos hp), if_neg (nI_pos hl), eIn_s hk (by omega), cl (by omega), h]
  simp only [eG_tt]
  by_cases q : n < p
  · rw [if_pos (nI_lt q (by omega)), if_neg (by omega)]
  · rw [if_neg (nI_nlt (by omega) (by omega))]
    by_cases q2 : p + l ≤ n
    · rw [if_neg (fun e => by have := (subn hn (by omega) l hl).mp e; omega), if_pos q2]
    · rw [if_pos ((subn hn (by omega) l hl).mpr (by omega)), if_neg q2]
theorem cpy1 (K : Int32 → Int32 → Int32 → eMem → Option (Int32 × eMem)) (v3 v4 : Int32) {k p l : Nat} (hk : k < 4) (hp : p + l ≤ 20) : ∀ m j, j + m = l → ∀ f, m < f → ∀ M : eMem, ∃ M2, F_X10_copy_116 K f (nI k) (nI p) v3 v4 (nI l) (nI j) M = K v3 v4 (nI l) M2 ∧ (∀ q, q ≠ 15 → M2.1 q = M.1 q) ∧ ∀ i, M2.1 15 i = if j ≤ i ∧ i < l then M.1 6 (20 * k + p + i) else M.1 15 i := by
  intro m
  induction m with
  | zero =>
    intro j hj f hf M
    obtain ⟨f, rfl⟩ : ∃ x, f = x + 1 := ⟨f - 1, by omega⟩
    rw [F_X10_copy_116, if_neg (nI_nlt (by omega) (by omega))]
    exact ⟨M, rfl, fun _ _ => rfl, fun i => by rw [if_neg (by omega)]⟩
  | succ m ih =>
    intro j hj f hf M
    obtain ⟨f, rfl⟩ : ∃ x, f = x + 1 := ⟨f - 1, by omega⟩
    rw [F_X10_copy_116, if_pos (nI_lt (by omega) (by omega))]
    simp (disch := omega) only [eIn_s, eG_tt, cl, nI_add, bS, Ladd_0, Ladd_1, Ladd_2, Ladd_3, Ladd_4, Ladd_5, Ladd_6, Ladd_7, Ladd_8, Ladd_10, Ladd_12, Ladd_14, Ladd_20, Ladd_23, Ladd_24, Ladd_110, Ladd_200, Ladd_230, Ladd_290, Ladd_294, Ladd_298, Ladd_498, Ladd_1128, Ladd_1248, Ladd_1278, Ladd_1764, Rad_0, Rad_1, Rad_2, Rad_3, Rad_4, Rad_5, Rad_6, Rad_7, Rad_8, Rad_10, Rad_12, Rad_14, Rad_20, Rad_23, Rad_24, Rad_110, Rad_200, Rad_230, Rad_290, Rad_294, Rad_298, Rad_498, Rad_1128, Rad_1248, Rad_1278, Rad_1764, Mul_2, Mul_3, Mul_4, Mul_5, Mul_6, Mul_7, Mul_10, Mul_20, Mul_23, Mul_24, Mul_142]
    obtain ⟨M2, e1, e2, e4⟩ := ih (j + 1) (by omega) f (by omega) (eI M 15 j (M.1 6 (20 * k + p + j)))
    refine ⟨M2, e1, fun q hq => by rw [e2 q hq]; simp (disch := omega) only [eIq_ne, eIq_eq, upd_ne, upd_eq], fun i => ?_⟩
    rw [e4 i]
    simp (disch := omega) only [eIq_ne, eIq_eq, upd_ne, upd_eq]
    rw [upd_at]
    by_cases q : i = j
    · subst q; rw [if_neg (by omega), if_pos rfl, if_pos (by omega)]
    · rw [if_neg q]
      by_cases q2 : j + 1 ≤ i ∧ i < l
      · rw [if_pos q2, if_pos (by omega)]
      · rw [if_neg q2, if_neg (by omega)]
theorem cpy2 {k p l : Nat} (hk : k < 4) (hp : p + l ≤ 20) : ∀ m j, j + m = l → ∀ f, m < f → ∀ M : eMem, ∃ M2, F_X10_copy_153 f (nI k) (nI p) (nI l) (nI j) M = some (nI l, M2) ∧ (∀ q, q ≠ 6 → M2.1 q = M.1 q) ∧ ∀ i, M2.1 6 i = if 20 * k + p + j ≤ i ∧ i < 20 * k + p + l then M.1 15 (i - (20 * k + p)) else M.1 6 i := by
  intro m
  induction m with
  | zero =>
    intro j hj f hf M
    obtain ⟨f, rfl⟩ : ∃ x, f = x + 1 := ⟨f - 1, by omega⟩
    rw [F_X10_copy_153, if_neg (nI_nlt (by omega) (by omega))]
    exact ⟨M, rfl, fun _ _ => rfl, fun i => by rw [if_neg (by omega)]⟩
  | succ m ih =>
    intro j hj f hf M
    obtain ⟨f, rfl⟩ : ∃ x, f = x + 1 := ⟨f - 1, by omega⟩
    rw [F_X10_copy_153, if_pos (nI_lt (by omega) (by omega))]
    simp (disch := omega) only [eIn_s, eG_tt, cl, nI_add, bS, Ladd_0, Ladd_1, Ladd_2, Ladd_3, Ladd_4, Ladd_5, Ladd_6, Ladd_7, Ladd_8, Ladd_10, Ladd_12, Ladd_14, Ladd_20, Ladd_23, Ladd_24, Ladd_110, Ladd_200, Ladd_230, Ladd_290, Ladd_294, Ladd_298, Ladd_498, Ladd_1128, Ladd_1248, Ladd_1278, Ladd_1764, Rad_0, Rad_1, Rad_2, Rad_3, Rad_4, Rad_5, Rad_6, Rad_7, Rad_8, Rad_10, Rad_12, Rad_14, Rad_20, Rad_23, Rad_24, Rad_110, Rad_200, Rad_230, Rad_290, Rad_294, Rad_298, Rad_498, Rad_1128, Rad_1248, Rad_1278, Rad_1764, Mul_2, Mul_3, Mul_4, Mul_5, Mul_6, Mul_7, Mul_10, Mul_20, Mul_23, Mul_24, Mul_142]
    obtain ⟨M2, e1, e2, e4⟩ := ih (j + 1) (by omega) f (by omega) (eI M 6 (20 * k + p + j) (M.1 15 j))
    refine ⟨M2, e1, fun q hq => by rw [e2 q hq]; simp (disch := omega) only [eIq_ne, eIq_eq, upd_ne, upd_eq], fun i => ?_⟩
    rw [e4 i]
    simp (disch := omega) only [eIq_ne, eIq_eq, upd_ne, upd_eq]
    rw [upd_at]
    by_cases q : i = 20 * k + p + j
    · subst q; rw [if_neg (by omega), if_pos rfl, if_pos (by omega), show 20 * k + p + j - (20 * k + p) = j by omega]
    · rw [if_neg q]
      by_cases q2 : 20 * k + p + (j + 1) ≤ i ∧ i < 20 * k + p + l
      · rw [if_pos q2, if_pos (by omega)]
      · rw [if_neg q2, if_neg (by omega)]
