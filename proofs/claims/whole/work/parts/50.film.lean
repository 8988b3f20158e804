/-! film -/
def cf (f : Nat → Int32) : Nat → Nat → Nat
  | _, 0 => 0
  | j, m + 1 => (if f j = 1 ∨ f j = 2 then 1 else 0) + cf f (j + 1) m
theorem cf_cg {f g : Nat → Int32} {j m : Nat} (h : ∀ i, f i = g i) : cf f j m = cf g j m := by
  have : f = g := funext h
  rw [this]
theorem cf_le (f : Nat → Int32) : ∀ m j, cf f j m ≤ m := by
  intro m
  induction m with
  | zero => intro j; exact Nat.le_refl _
  | succ m ih =>
    intro j
    have := ih (j + 1)
    rw [cf]
    split <;> omega
theorem film_bad {R : eMem} {k n : Nat} (K : Int32 → Int32 → Int32 → Int32 → eMem → Option (Int32 × eMem)) (B : Option (Int32 × eMem)) (hk : k < 4) (h5 : R.1 5 k = nI n) (hn : n ≤ 20) (v2 : Int32) (hK : ∀ v4, K (nI k) v2 0 v4 R = B) : ∀ m j, j + m = n → ∀ f, m < f → ∀ v4, F_X10_film_71 K f (nI k) v2 0 v4 (nI j) R = B := by
  intro m
  induction m with
  | zero =>
    intro j hj f hf v4
    obtain ⟨f, rfl⟩ : ∃ x, f = x + 1 := ⟨f - 1, by omega⟩
    rw [F_X10_film_71, eIn_s hk (by omega), eG_tt, cl (by omega), h5, if_neg (nI_nlt (by omega) (by omega))]
    exact hK v4
  | succ m ih =>
    intro j hj f hf v4
    obtain ⟨f, rfl⟩ : ∃ x, f = x + 1 := ⟨f - 1, by omega⟩
    rw [F_X10_film_71, eIn_s hk (by omega), eG_tt, cl (show k < 2147483648 by omega), h5, if_pos (nI_lt (by omega) (by omega)), if_pos rfl]
    unfold F_X10_film_133 F_X10_film_134 F_X10_film_149
    simp (disch := omega) only [eIn_s, eG_tt, cl, nI_add, bS, Ladd_0, Ladd_1, Ladd_2, Ladd_3, Ladd_4, Ladd_5, Ladd_6, Ladd_7, Ladd_8, Ladd_10, Ladd_12, Ladd_14, Ladd_20, Ladd_23, Ladd_24, Ladd_110, Ladd_200, Ladd_230, Ladd_290, Ladd_294, Ladd_298, Ladd_498, Ladd_1128, Ladd_1248, Ladd_1278, Ladd_1764, Rad_0, Rad_1, Rad_2, Rad_3, Rad_4, Rad_5, Rad_6, Rad_7, Rad_8, Rad_10, Rad_12, Rad_14, Rad_20, Rad_23, Rad_24, Rad_110, Rad_200, Rad_230, Rad_290, Rad_294, Rad_298, Rad_498, Rad_1128, Rad_1248, Rad_1278, Rad_1764, Mul_2, Mul_3, Mul_4, Mul_5, Mul_6, Mul_7, Mul_10, Mul_20, Mul_23, Mul_24, Mul_142]
    have h := fun w => ih (j + 1) (by omega) f (by omega) w
    split
    · exact h _
    · split
      · exact h _
      · exact h _
theorem film_check {C R : eMem} {k n : Nat} {KC KR : Int32 → Int32 → Int32 → Int32 → eMem → Option (Int32 × eMem)} (hk : k < 4) (hS : rShe C R) (h5 : R.1 5 k = nI n) (h4 : ¬ R.1 4 k = 0) (hn : n ≤ 20) (v2 : Int32) (hK : ∀ v4, KR (nI k) v2 0 v4 R = (F_X10_finding 1 R).bind fun q8 => some (q8.1, q8.2)) : ∀ m j, j + m = n → ∀ f1 f2, m < f1 → m < f2 → ∀ c, c ≤ j →
    (F_X9_film_88 KC f1 (nI k) v2 (nI n) (nI c) (nI j) C = ((F_X9_found (-1000001) C).bind fun q6 => some (q6.1, q6.2)) ∧ F_X10_film_71 KR f2 (nI k) v2 1 (nI c) (nI j) R = (F_X10_finding 1 R).bind fun q8 => some (q8.1, q8.2)) ∨
    (F_X9_film_88 KC f1 (nI k) v2 (nI n) (nI c) (nI j) C = KC (nI k) v2 (nI n) (nI (c + cf (fun i => R.1 6 (20 * k + i)) j m)) C ∧ F_X10_film_71 KR f2 (nI k) v2 1 (nI c) (nI j) R = KR (nI k) v2 1 (nI (c + cf (fun i => R.1 6 (20 * k + i)) j m)) R) := by
  obtain ⟨b4, b5, b3, -, b6, b8⟩ := hS k hk
  intro m
  induction m with
  | zero =>
    intro j hj f1 f2 h1 h2 c hc
    obtain ⟨f1, rfl⟩ : ∃ x, f1 = x + 1 := ⟨f1 - 1, by omega⟩
    obtain ⟨f2, rfl⟩ : ∃ x, f2 = x + 1 := ⟨f2 - 1, by omega⟩
    rw [F_X10_film_71, F_X9_film_88, eIn_s hk (by omega), eG_tt, cl (show k < 2147483648 by omega), h5, if_neg (nI_nlt (by omega) (by omega)), if_neg (nI_nlt (by omega) (by omega)), cf]
    exact Or.inr ⟨rfl, rfl⟩
  | succ m ih =>
    intro j hj f1 f2 h1 h2 c hc
    obtain ⟨f1, rfl⟩ : ∃ x, f1 = x + 1 := ⟨f1 - 1, by omega⟩
    obtain ⟨f2, rfl⟩ : ∃ x, f2 = x + 1 := ⟨f2 - 1, by omega⟩
    have e6 := b6 j (by omega)
    have hbad := film_bad KR _ hk h5 hn v2 hK m (j + 1) (by omega) f2 (by omega)
    have hih := fun c2 h => ih (j + 1) (by omega) f1 f2 (by omega) (by omega) c2 h
    rw [F_X10_film_71, F_X9_film_88, eIn_s hk (by omega), eG_tt, cl (show k < 2147483648 by omega), h5, if_pos (nI_lt (by omega) (by omega)), if_pos (nI_lt (by omega) (by omega)), if_neg (show ¬ (1 : Int32) = 0 by decide), cf]
    simp only [btw]
    simp (disch := omega) only [eIn_s, eG_tt, cl, nI_add, bS, Ladd_0, Ladd_1, Ladd_2, Ladd_3, Ladd_4, Ladd_5, Ladd_6, Ladd_7, Ladd_8, Ladd_10, Ladd_12, Ladd_14, Ladd_20, Ladd_23, Ladd_24, Ladd_110, Ladd_200, Ladd_230, Ladd_290, Ladd_294, Ladd_298, Ladd_498, Ladd_1128, Ladd_1248, Ladd_1278, Ladd_1764, Rad_0, Rad_1, Rad_2, Rad_3, Rad_4, Rad_5, Rad_6, Rad_7, Rad_8, Rad_10, Rad_12, Rad_14, Rad_20, Rad_23, Rad_24, Rad_110, Rad_200, Rad_230, Rad_290, Rad_294, Rad_298, Rad_498, Rad_1128, Rad_1248, Rad_1278, Rad_1764, Mul_2, Mul_3, Mul_4, Mul_5, Mul_6, Mul_7, Mul_10, Mul_20, Mul_23, Mul_24, Mul_142]
    rw [e6]
    have hgo : ∀ x, x = R.1 6 (20 * k + j) →
       ((F_X9_film_133 (fun v1 v2 v3 v4 v5 M => F_X9_film_88 KC f1 v1 v2 v3 v4 v5 M) KC (nI k) v2 (nI n) (nI c) (nI j) x C = ((F_X9_found (-1000001) C).bind fun q6 => some (q6.1, q6.2)) ∧ F_X10_film_129 (fun v1 v2 v3 v4 v5 M => F_X10_film_71 KR f2 v1 v2 v3 v4 v5 M) KR (nI k) v2 (nI c) (nI j) x R = (F_X10_finding 1 R).bind fun q8 => some (q8.1, q8.2)) ∨
       (F_X9_film_133 (fun v1 v2 v3 v4 v5 M => F_X9_film_88 KC f1 v1 v2 v3 v4 v5 M) KC (nI k) v2 (nI n) (nI c) (nI j) x C = KC (nI k) v2 (nI n) (nI (c + ((if R.1 6 (20 * k + j) = 1 ∨ R.1 6 (20 * k + j) = 2 then 1 else 0) + cf (fun i => R.1 6 (20 * k + i)) (j + 1) m))) C ∧ F_X10_film_129 (fun v1 v2 v3 v4 v5 M => F_X10_film_71 KR f2 v1 v2 v3 v4 v5 M) KR (nI k) v2 (nI c) (nI j) x R = KR (nI k) v2 1 (nI (c + ((if R.1 6 (20 * k + j) = 1 ∨ R.1 6 (20 * k + j) = 2 then 1 else 0) + cf (fun i => R.1 6 (20 * k + i)) (j + 1) m))) R)) := by
      intro x hx
      rw [← hx]
      unfold F_X9_film_133 F_X10_film_129 F_X10_film_134 F_X10_film_149
      simp (disch := omega) only [eIn_s, eG_tt, cl, nI_add, bS, Ladd_0, Ladd_1, Ladd_2, Ladd_3, Ladd_4, Ladd_5, Ladd_6, Ladd_7, Ladd_8, Ladd_10, Ladd_12, Ladd_14, Ladd_20, Ladd_23, Ladd_24, Ladd_110, Ladd_200, Ladd_230, Ladd_290, Ladd_294, Ladd_298, Ladd_498, Ladd_1128, Ladd_1248, Ladd_1278, Ladd_1764, Rad_0, Rad_1, Rad_2, Rad_3, Rad_4, Rad_5, Rad_6, Rad_7, Rad_8, Rad_10, Rad_12, Rad_14, Rad_20, Rad_23, Rad_24, Rad_110, Rad_200, Rad_230, Rad_290, Rad_294, Rad_298, Rad_498, Rad_1128, Rad_1248, Rad_1278, Rad_1764, Mul_2, Mul_3, Mul_4, Mul_5, Mul_6, Mul_7, Mul_10, Mul_20, Mul_23, Mul_24, Mul_142]
      have hc1 := hih (c + 1) (by omega)
      have hc0 := hih c (by omega)
      by_cases q1 : x = 1
      · rw [if_pos q1, if_pos q1, if_pos (Or.inl q1), show c + (1 + cf (fun i => R.1 6 (20 * k + i)) (j + 1) m) = c + 1 + cf (fun i => R.1 6 (20 * k + i)) (j + 1) m by omega]
        exact hc1
      · rw [if_neg q1, if_neg q1]
        by_cases q2 : x = 2
        · rw [if_pos q2, if_pos q2, if_pos (Or.inr q2), show c + (1 + cf (fun i => R.1 6 (20 * k + i)) (j + 1) m) = c + 1 + cf (fun i => R.1 6 (20 * k + i)) (j + 1) m by omega]
          exact hc1
        · rw [if_neg q2, if_neg q2, if_neg (fun q => q.elim q1 q2), Nat.zero_add]
          exact hc0
    have hb : ∀ x, F_X10_film_133 (fun v1 v2 v3 v4 v5 M => F_X10_film_71 KR f2 v1 v2 v3 v4 v5 M) KR (nI k) v2 (nI c) (nI j) x R = (F_X10_finding 1 R).bind fun q8 => some (q8.1, q8.2) := by
      intro x
      unfold F_X10_film_133 F_X10_film_134 F_X10_film_149
      simp (disch := omega) only [eIn_s, eG_tt, cl, nI_add, bS, Ladd_0, Ladd_1, Ladd_2, Ladd_3, Ladd_4, Ladd_5, Ladd_6, Ladd_7, Ladd_8, Ladd_10, Ladd_12, Ladd_14, Ladd_20, Ladd_23, Ladd_24, Ladd_110, Ladd_200, Ladd_230, Ladd_290, Ladd_294, Ladd_298, Ladd_498, Ladd_1128, Ladd_1248, Ladd_1278, Ladd_1764, Rad_0, Rad_1, Rad_2, Rad_3, Rad_4, Rad_5, Rad_6, Rad_7, Rad_8, Rad_10, Rad_12, Rad_14, Rad_20, Rad_23, Rad_24, Rad_110, Rad_200, Rad_230, Rad_290, Rad_294, Rad_298, Rad_498, Rad_1128, Rad_1248, Rad_1278, Rad_1764, Mul_2, Mul_3, Mul_4, Mul_5, Mul_6, Mul_7, Mul_10, Mul_20, Mul_23, Mul_24, Mul_142]
      split
      · exact hbad _
      · split
        · exact hbad _
        · exact hbad _
    rcases in01 (R.1 6 (20 * k + j)) 0 2 with ⟨q, -⟩ | q
    · rw [q]
      simp only [bS, i10, ↓reduceIte]
      exact hgo _ rfl
    · rw [q]
      simp only [bS, ↓reduceIte]
      by_cases q9 : R.1 6 (20 * k + j) = 999
      · rw [if_pos q9, if_pos q9]
        rcases b3 with b3 | b3 | b3
        · exact absurd b3 h4
        · exact absurd q9 (b8 b3 j (by omega))
        · rw [if_pos b3]
          exact hgo _ rfl
      · rw [if_neg q9, if_neg q9, hb, ite_self]
        exact Or.inl ⟨rfl, rfl⟩
theorem film_go {k n : Nat} (hk : k < 4) (hn : n ≤ 20) (g : Nat) (v4 : Int32) : ∀ m j, j + m = n → ∀ f1 f2, m < f1 → m < f2 → ∀ C R, Rel C R → R.1 5 k = nI n → n ≤ nS (R.1 1) → g ≤ hr (R.1 1) → nP (R.1 1) + cf (fun i => R.1 6 (20 * k + i)) j m ≤ 90 →
    Step (F_X9_film_179 f1 (nI k) (nI g) (nI n) v4 (nI j) C) (F_X10_film_197 f2 (nI k) (nI g) v4 (nI j) R) := by
  intro m
  induction m with
  | zero =>
    intro j hj f1 f2 h1 h2 C R h h5 hS hg hP
    obtain ⟨f1, rfl⟩ : ∃ x, f1 = x + 1 := ⟨f1 - 1, by omega⟩
    obtain ⟨f2, rfl⟩ : ∃ x, f2 = x + 1 := ⟨f2 - 1, by omega⟩
    rw [F_X10_film_197, F_X9_film_179, eIn_s hk (by omega), eG_tt, cl (show k < 2147483648 by omega), h5, if_neg (nI_nlt (by omega) (by omega)), if_neg (nI_nlt (by omega) (by omega))]
    exact stepI rfl h
  | succ m ih =>
    intro j hj f1 f2 h1 h2 C R h h5 hS hg hP
    obtain ⟨f1, rfl⟩ : ∃ x, f1 = x + 1 := ⟨f1 - 1, by omega⟩
    obtain ⟨f2, rfl⟩ : ∃ x, f2 = x + 1 := ⟨f2 - 1, by omega⟩
    obtain ⟨b4, b5, b3, -, b6, b8⟩ := h.2.2.2.1 k hk
    have e6 := b6 j (by omega)
    rw [F_X10_film_197, F_X9_film_179, eIn_s hk (by omega), eG_tt, cl (show k < 2147483648 by omega), h5, if_pos (nI_lt (by omega) (by omega)), if_pos (nI_lt (by omega) (by omega))]
    rw [cf] at hP
    simp (disch := omega) only [eIn_s, eG_tt, cl, nI_add, bS, Ladd_0, Ladd_1, Ladd_2, Ladd_3, Ladd_4, Ladd_5, Ladd_6, Ladd_7, Ladd_8, Ladd_10, Ladd_12, Ladd_14, Ladd_20, Ladd_23, Ladd_24, Ladd_110, Ladd_200, Ladd_230, Ladd_290, Ladd_294, Ladd_298, Ladd_498, Ladd_1128, Ladd_1248, Ladd_1278, Ladd_1764, Rad_0, Rad_1, Rad_2, Rad_3, Rad_4, Rad_5, Rad_6, Rad_7, Rad_8, Rad_10, Rad_12, Rad_14, Rad_20, Rad_23, Rad_24, Rad_110, Rad_200, Rad_230, Rad_290, Rad_294, Rad_298, Rad_498, Rad_1128, Rad_1248, Rad_1278, Rad_1764, Mul_2, Mul_3, Mul_4, Mul_5, Mul_6, Mul_7, Mul_10, Mul_20, Mul_23, Mul_24, Mul_142]
    rw [e6]
    obtain ⟨wSc, wGr, wRo, wUn, wPl, wHe, wSh, wRe, wFl, wLi, wBo, wTx, wTc, wz, i1, i2, i3, i4, i5, i6⟩ := id h.1; obtain ⟨c0, c1, c2, c3, c4, c5, c6, c7, c8, c9, c10, c11, c12, c13⟩ := id wSc; obtain ⟨⟨z0, y0⟩, ⟨f5, g5, y5, z5⟩, ⟨t6, y6, z6⟩, ⟨z7, y7⟩, ⟨z8, y8⟩, ⟨z9, y9⟩, ⟨z10, y10⟩, ⟨z11, y11⟩, ⟨z12, y12⟩, ⟨z13, y13⟩⟩ := id i1
    obtain ⟨s0, s1, -⟩ := wSh j (by omega)
    obtain ⟨-, ⟨st, hst, x1⟩, -⟩ := i4 j (by omega)
    have hgo : ∀ b : Int32, (b = 0 ∨ b = 1) → nP (R.1 1) + 1 + cf (fun i => R.1 6 (20 * k + i)) (j + 1) m ≤ 90 → Step ((F_X8_develop (nI j) b (nI g) C).bind fun q => F_X9_film_179 f1 (nI k) (nI g) (nI n) v4 (nI (j + 1)) q) ((F_X10_comes 5 (R.1 1 (299 + 10 * j)) b (nI g) (R.1 1 0) (nI j) R).bind fun q => F_X10_film_197 f2 (nI k) (nI g) v4 (nI (j + 1)) q.2) := by
      intro b hb hle
      obtain ⟨C2, R2, p1, p2, p3, p4, p5, p6, p7, p8⟩ := comes_both h rfl (by omega) (k := 5) (st := st) (g := g) (b := b) (kn := R.1 1 0) (x6 := nI j) (by omega) (by omega) hb hg (fun q => by omega)
      rw [show nI 5 = 5 from rfl] at p1 p2
      unfold F_X8_develop
      simp (disch := omega) only [eIn_s, eG_tt, cl, nI_add, bS, Ladd_0, Ladd_1, Ladd_2, Ladd_3, Ladd_4, Ladd_5, Ladd_6, Ladd_7, Ladd_8, Ladd_10, Ladd_12, Ladd_14, Ladd_20, Ladd_23, Ladd_24, Ladd_110, Ladd_200, Ladd_230, Ladd_290, Ladd_294, Ladd_298, Ladd_498, Ladd_1128, Ladd_1248, Ladd_1278, Ladd_1764, Rad_0, Rad_1, Rad_2, Rad_3, Rad_4, Rad_5, Rad_6, Rad_7, Rad_8, Rad_10, Rad_12, Rad_14, Rad_20, Rad_23, Rad_24, Rad_110, Rad_200, Rad_230, Rad_290, Rad_294, Rad_298, Rad_498, Rad_1128, Rad_1248, Rad_1278, Rad_1764, Mul_2, Mul_3, Mul_4, Mul_5, Mul_6, Mul_7, Mul_10, Mul_20, Mul_23, Mul_24, Mul_142]
      rw [s1, x1, c0, p1, p2]
      simp only [bS]
      exact ih (j + 1) (by omega) f1 f2 (by omega) (by omega) C2 R2 p3 (by rw [p5 5 (by decide)]; exact h5) (by omega) (by omega) (by rw [p6, p5 6 (by decide)]; exact hle)
    unfold F_X9_film_211 F_X10_film_234 F_X10_film_254
    rw [show_1 j R (by omega)]
    simp only [bS]
    simp (disch := omega) only [eIn_s, eG_tt, cl, nI_add, bS, Ladd_0, Ladd_1, Ladd_2, Ladd_3, Ladd_4, Ladd_5, Ladd_6, Ladd_7, Ladd_8, Ladd_10, Ladd_12, Ladd_14, Ladd_20, Ladd_23, Ladd_24, Ladd_110, Ladd_200, Ladd_230, Ladd_290, Ladd_294, Ladd_298, Ladd_498, Ladd_1128, Ladd_1248, Ladd_1278, Ladd_1764, Rad_0, Rad_1, Rad_2, Rad_3, Rad_4, Rad_5, Rad_6, Rad_7, Rad_8, Rad_10, Rad_12, Rad_14, Rad_20, Rad_23, Rad_24, Rad_110, Rad_200, Rad_230, Rad_290, Rad_294, Rad_298, Rad_498, Rad_1128, Rad_1248, Rad_1278, Rad_1764, Mul_2, Mul_3, Mul_4, Mul_5, Mul_6, Mul_7, Mul_10, Mul_20, Mul_23, Mul_24, Mul_142]
    by_cases q1 : R.1 6 (20 * k + j) = 1
    · rw [if_pos (Or.inl q1)] at hP
      rw [if_pos q1, if_pos q1, if_pos q1, if_pos q1]
      exact hgo 1 (Or.inr rfl) (by omega)
    · rw [if_neg q1, if_neg q1]
      by_cases q2 : R.1 6 (20 * k + j) = 2
      · rw [if_pos (Or.inr q2)] at hP
        rw [if_pos q2, if_pos q2, if_neg q1, if_neg q1]
        exact hgo 0 (Or.inl rfl) (by omega)
      · rw [if_neg (fun q => q.elim q1 q2), Nat.zero_add] at hP
        simp only [if_neg q1, if_neg q2]
        exact ih (j + 1) (by omega) f1 f2 (by omega) (by omega) C R h h5 hS hg hP
theorem st_film {C R : eMem} (h : Rel C R) (x1 x2 : Int32) : Step (F_X9_film x1 x2 C) (F_X10_film x1 x2 R) := by
  obtain ⟨wSc, wGr, wRo, wUn, wPl, wHe, wSh, wRe, wFl, wLi, wBo, wTx, wTc, wz, i1, i2, i3, i4, i5, i6⟩ := id h.1; obtain ⟨c0, c1, c2, c3, c4, c5, c6, c7, c8, c9, c10, c11, c12, c13⟩ := id wSc; obtain ⟨⟨z0, y0⟩, ⟨f5, g5, y5, z5⟩, ⟨t6, y6, z6⟩, ⟨z7, y7⟩, ⟨z8, y8⟩, ⟨z9, y9⟩, ⟨z10, y10⟩, ⟨z11, y11⟩, ⟨z12, y12⟩, ⟨z13, y13⟩⟩ := id i1
  unfold F_X9_film F_X10_film
  rw [isSheet_eq]
  simp only [btw]
  rcases rng x1 4 3 4 rfl rfl with ⟨k, hk, rfl, e1, e2⟩ | ⟨e1, e2⟩ <;> rw [e1, e2]
  · simp only [bS, i10, ↓reduceIte]
    rw [c0, z0]
    rcases inL x2 0 (nI (hr (R.1 1))) 0 (hr (R.1 1)) rfl (nI_toInt (by omega)) with ⟨g, -, hg, rfl, f1⟩ | f1 <;> rw [f1]
    · simp only [bS, i10, ↓reduceIte]
      obtain ⟨b4, b5, b3, ⟨n, hn, h5⟩, b6, b8⟩ := h.2.2.2.1 k hk
      unfold F_X4_isMissing F_X10_film_64
      rw [eIn_s hk (by omega), cl (show k < 2147483648 by omega), b4, b5, h5]
      simp only [eG_tt]
      by_cases h4 : R.1 4 k = 0
      · rw [if_pos h4, if_pos h4]
        simp only [bS, i10, i00, ↓reduceIte]
        exact stf6 h
      · rw [if_neg h4, if_neg h4]
        simp only [bS, ↓reduceIte]
        rw [c9, z9]
        by_cases hl : nI (nS (R.1 1)) < nI n
        · rw [if_pos hl, if_pos hl]
          have hb := film_bad (fun v1 v2 v3 v4 M => if v3 = 0 then (F_X10_finding 1 M).bind fun q8 => some (q8.1, q8.2) else if 90 < M.1 1 10 + v4 then (F_X10_finding 2 M).bind fun q7 => some (q7.1, q7.2) else F_X10_film_197 eFuel v1 v2 v4 0 M) ((F_X10_finding 1 R).bind fun q8 => some (q8.1, q8.2)) hk h5 hn (nI g) (fun v4 => if_pos rfl) n 0 (by omega) eFuel (by unfold eFuel; omega) 0
          rw [show nI 0 = 0 from rfl] at hb
          rw [hb]
          exact stf1 h
        · rw [if_neg hl, if_neg hl]
          have hns : n ≤ nS (R.1 1) := by
            by_cases hc : n ≤ nS (R.1 1)
            · exact hc
            · exact absurd (nI_lt (by omega) (by omega)) hl
          have hb := film_check (C := C) (KC := fun v1 v2 v3 v4 M => (F_X1_room M).bind fun q7 => if q7 < v4 then (F_X9_found (-1000002) M).bind fun q10 => some (q10.1, q10.2) else F_X9_film_179 eFuel v1 v2 v3 v4 0 M) (KR := fun v1 v2 v3 v4 M => if v3 = 0 then (F_X10_finding 1 M).bind fun q8 => some (q8.1, q8.2) else if 90 < M.1 1 10 + v4 then (F_X10_finding 2 M).bind fun q7 => some (q7.1, q7.2) else F_X10_film_197 eFuel v1 v2 v4 0 M) hk h.2.2.2.1 h5 h4 hn (nI g) (fun v4 => if_pos rfl) n 0 (by omega) eFuel eFuel (by unfold eFuel; omega) (by unfold eFuel; omega) 0 (by omega)
          rw [show nI 0 = 0 from rfl] at hb
          rcases hb with ⟨p1, p2⟩ | ⟨p1, p2⟩
          · rw [p1, p2]; exact stf1 h
          · rw [p1, p2]
            have hcl := cf_le (fun i => R.1 6 (20 * k + i)) n 0
            rw [Nat.zero_add]
            generalize hcf : cf (fun i => R.1 6 (20 * k + i)) 0 n = v at *
            unfold F_X1_room
            rw [c10, z10, if_neg (by decide), nI_add]
            simp only [bS]
            by_cases hq : 90 < nP (R.1 1) + v
            · rw [if_pos ((room_lt y10 (by omega)).mpr hq), if_pos ((gt_lit (n := 90) rfl (by omega)).mpr (by omega))]
              exact stf2 h
            · rw [if_neg (fun q => hq ((room_lt y10 (by omega)).mp q)), if_neg (fun q => by have := (gt_lit (n := 90) rfl (by omega)).mp q; omega)]
              have hgo := film_go hk hn g (nI v) n 0 (by omega) eFuel eFuel (by unfold eFuel; omega) (by unfold eFuel; omega) C R h h5 hns hg (by rw [hcf]; omega)
              rw [show nI 0 = 0 from rfl] at hgo
              exact hgo
    · simp only [bS, i10, i00, ↓reduceIte]
      exact stf1 h
  · simp only [bS, i10, i00, ↓reduceIte]
    exact stf1 h
