/-! THE TEXTS: which clause is about a show; which show is shown. -/
theorem under_eq (a b : Int32) : F_X9_isUnder a b = F_X10_isUnder a b := by
  unfold F_X9_isUnder F_X10_isUnder F_X9_isUnder_19 F_X10_isUnder_19
  by_cases h1 : a = b
  · by_cases h2 : b = 0
    · rw [if_pos h1, if_pos h2]
    · rw [if_pos h1, if_neg h2, if_pos h1]
  · by_cases h2 : b = 0
    · rw [if_neg h1, if_pos h2, if_pos h2]
    · rw [if_neg h1, if_neg h2, if_neg h2, if_neg h1]
      by_cases h3 : b = 1 <;> by_cases h4 : a = 2 <;> simp [h3, h4]
theorem under01 (a b : Int32) : F_X10_isUnder a b = some 0 ∨ F_X10_isUnder a b = some 1 := by
  unfold F_X10_isUnder F_X10_isUnder_19
  split
  · exact Or.inr rfl
  · split
    · exact Or.inr rfl
    · split
      · split
        · exact Or.inr rfl
        · exact Or.inl rfl
      · exact Or.inl rfl
def tval (s : Nat → Int32) (k : Nat) (f : Nat) : Int32 := match f with
  | 0 => s 0 / 24
  | 1 => s 0 - s 0 / 24 * 24
  | 2 => s (306 + 10 * k)
  | 3 => s (299 + 10 * k)
  | _ => s (300 + 10 * k)
def tcmp (s : Nat → Int32) (b k f : Nat) : Prop := (s (b + 2) = 61 ∧ tval s k f = s (b + 3)) ∨ (s (b + 2) = 60 ∧ tval s k f < s (b + 3)) ∨ (¬ s (b + 2) = 61 ∧ ¬ s (b + 2) = 60 ∧ s (b + 3) < tval s k f)
theorem valueOf_eq (R : eMem) (k f : Nat) (hk : k < 20) (hf : f ≤ 4) : F_X10_valueOf (nI f) (nI k) R = some (tval (R.1 1) k f) := by
  unfold F_X10_valueOf
  rcases (show f = 0 ∨ f = 1 ∨ f = 2 ∨ f = 3 ∨ f = 4 by omega) with rfl | rfl | rfl | rfl | rfl
  · rw [if_pos (by decide)]; rfl
  · rw [if_neg (by decide), if_pos (by decide)]; rfl
  · rw [if_neg (by decide), if_neg (by decide), if_pos (by decide), show_8 k R hk]; rfl
  · rw [if_neg (by decide), if_neg (by decide), if_neg (by decide), if_pos (by decide), show_1 k R hk]; rfl
  · rw [if_neg (by decide), if_neg (by decide), if_neg (by decide), if_neg (by decide), show_2 k R hk]; rfl
/-- a test of the reference -/
theorem isSo_cmp (R : eMem) (b k f : Nat) (hb : b < 2896) (hk : k < 20) (hf : f ≤ 4) (h1 : R.1 1 (b + 1) = nI f) : (tcmp (R.1 1) b k f → F_X10_isSo (nI b) (nI k) R = F_X10_isSo_89 (nI b) 1 R) ∧ (¬ tcmp (R.1 1) b k f → F_X10_isSo (nI b) (nI k) R = F_X10_isSo_89 (nI b) 0 R) := by
  have hv := valueOf_eq R k f hk hf
  unfold F_X10_isSo
  simp (disch := omega) only [eIn_s, eG_tt, cl, nI_add, bS, Ladd_0, Ladd_1, Ladd_2, Ladd_3, Ladd_4, Ladd_5, Ladd_6, Ladd_7, Ladd_8, Ladd_10, Ladd_12, Ladd_14, Ladd_20, Ladd_23, Ladd_24, Ladd_110, Ladd_200, Ladd_230, Ladd_290, Ladd_294, Ladd_298, Ladd_498, Ladd_1128, Ladd_1248, Ladd_1278, Ladd_1764, Rad_0, Rad_1, Rad_2, Rad_3, Rad_4, Rad_5, Rad_6, Rad_7, Rad_8, Rad_10, Rad_12, Rad_14, Rad_20, Rad_23, Rad_24, Rad_110, Rad_200, Rad_230, Rad_290, Rad_294, Rad_298, Rad_498, Rad_1128, Rad_1248, Rad_1278, Rad_1764, Mul_2, Mul_3, Mul_4, Mul_5, Mul_6, Mul_7, Mul_10, Mul_20, Mul_23, Mul_24, Mul_142]
  rw [h1, hv]
  simp only [Option.bind_some]
  unfold tcmp
  constructor
  · rintro (⟨q1, q2⟩ | ⟨q1, q2⟩ | ⟨q1, q2, q3⟩)
    · rw [if_pos q1, if_pos q2]
    · rw [if_neg (by rw [q1]; decide), if_pos q1, if_pos q2]
    · rw [if_neg q1, if_neg q2, if_pos q3]
  · intro q
    by_cases q1 : R.1 1 (b + 2) = 61
    · rw [if_pos q1, if_neg (fun e => q (Or.inl ⟨q1, e⟩))]
    · by_cases q2 : R.1 1 (b + 2) = 60
      · rw [if_neg q1, if_pos q2, if_neg (fun e => q (Or.inr (Or.inl ⟨q2, e⟩)))]
      · rw [if_neg q1, if_neg q2, if_neg (fun e => q (Or.inr (Or.inr ⟨q1, q2, e⟩)))]
theorem isSo_89 (R : eMem) (b : Nat) (v : Int32) (hb : b < 2896) (h0 : R.1 1 b = 0 ∨ R.1 1 b = 1) : F_X10_isSo_89 (nI b) v R = if v = R.1 1 b then some 0 else some 1 := by
  unfold F_X10_isSo_89 F_X10_isSo_108
  simp (disch := omega) only [eIn_s, eG_tt, cl, nI_add, bS, Ladd_0, Ladd_1, Ladd_2, Ladd_3, Ladd_4, Ladd_5, Ladd_6, Ladd_7, Ladd_8, Ladd_10, Ladd_12, Ladd_14, Ladd_20, Ladd_23, Ladd_24, Ladd_110, Ladd_200, Ladd_230, Ladd_290, Ladd_294, Ladd_298, Ladd_498, Ladd_1128, Ladd_1248, Ladd_1278, Ladd_1764, Rad_0, Rad_1, Rad_2, Rad_3, Rad_4, Rad_5, Rad_6, Rad_7, Rad_8, Rad_10, Rad_12, Rad_14, Rad_20, Rad_23, Rad_24, Rad_110, Rad_200, Rad_230, Rad_290, Rad_294, Rad_298, Rad_498, Rad_1128, Rad_1248, Rad_1278, Rad_1764, Mul_2, Mul_3, Mul_4, Mul_5, Mul_6, Mul_7, Mul_10, Mul_20, Mul_23, Mul_24, Mul_142]
  rcases h0 with h0 | h0 <;> rw [h0]
  · rw [if_neg (by decide)]
  · rw [if_pos (by decide)]
/-- a test of the class -/
theorem hold_cmp {C : eMem} {s : Nat → Int32} {t c j k f : Nat} (rec : Int32 → Int32 → Int32 → Option Int32) (v1 v3 v4 : Int32) (ht : t < 8) (hc : c < 6) (hj : j < 4) (hf : f ≤ 4) (hT : wTe C.1 s t c j) (h50 : C.1 50 (4 * (10 * t + c) + j) = nI f) (hF : C.1 72 f = tval s k f) :
    (tcmp s (1771 + 142 * t + 23 * c + 5 * j) k f → F_X7_holds_42 rec v1 v3 v4 (nI (4 * (10 * t + c) + j)) C = F_X7_holds_151 rec v1 v3 v4 (nI (4 * (10 * t + c) + j)) 1 C) ∧
    (¬ tcmp s (1771 + 142 * t + 23 * c + 5 * j) k f → F_X7_holds_42 rec v1 v3 v4 (nI (4 * (10 * t + c) + j)) C = F_X7_holds_151 rec v1 v3 v4 (nI (4 * (10 * t + c) + j)) 0 C) := by
  obtain ⟨a1, -, a3, a4, -⟩ := hT
  unfold F_X7_holds_42 F_X7_holds_105 F_X7_holds_127 F_X7_holds_149
  simp (disch := omega) only [eIn_s, eG_tt, cl, nI_add, bS, Ladd_0, Ladd_1, Ladd_2, Ladd_3, Ladd_4, Ladd_5, Ladd_6, Ladd_7, Ladd_8, Ladd_10, Ladd_12, Ladd_14, Ladd_20, Ladd_23, Ladd_24, Ladd_110, Ladd_200, Ladd_230, Ladd_290, Ladd_294, Ladd_298, Ladd_498, Ladd_1128, Ladd_1248, Ladd_1278, Ladd_1764, Rad_0, Rad_1, Rad_2, Rad_3, Rad_4, Rad_5, Rad_6, Rad_7, Rad_8, Rad_10, Rad_12, Rad_14, Rad_20, Rad_23, Rad_24, Rad_110, Rad_200, Rad_230, Rad_290, Rad_294, Rad_298, Rad_498, Rad_1128, Rad_1248, Rad_1278, Rad_1764, Mul_2, Mul_3, Mul_4, Mul_5, Mul_6, Mul_7, Mul_10, Mul_20, Mul_23, Mul_24, Mul_142]
  rw [h50, a4]
  simp (disch := omega) only [eIn_s, eG_tt, cl, nI_add, bS, Ladd_0, Ladd_1, Ladd_2, Ladd_3, Ladd_4, Ladd_5, Ladd_6, Ladd_7, Ladd_8, Ladd_10, Ladd_12, Ladd_14, Ladd_20, Ladd_23, Ladd_24, Ladd_110, Ladd_200, Ladd_230, Ladd_290, Ladd_294, Ladd_298, Ladd_498, Ladd_1128, Ladd_1248, Ladd_1278, Ladd_1764, Rad_0, Rad_1, Rad_2, Rad_3, Rad_4, Rad_5, Rad_6, Rad_7, Rad_8, Rad_10, Rad_12, Rad_14, Rad_20, Rad_23, Rad_24, Rad_110, Rad_200, Rad_230, Rad_290, Rad_294, Rad_298, Rad_498, Rad_1128, Rad_1248, Rad_1278, Rad_1764, Mul_2, Mul_3, Mul_4, Mul_5, Mul_6, Mul_7, Mul_10, Mul_20, Mul_23, Mul_24, Mul_142]
  rw [hF]
  unfold tcmp
  have e2 : 1771 + 142 * t + 23 * c + 5 * j + 2 = 1773 + 142 * t + 23 * c + 5 * j := by omega
  have e3 : 1771 + 142 * t + 23 * c + 5 * j + 3 = 1774 + 142 * t + 23 * c + 5 * j := by omega
  rw [e2, e3]
  rcases a3 with ⟨q1, q2⟩ | ⟨q1, q2⟩ | ⟨q1, q2⟩ <;> rw [q1, q2]
  · rw [if_neg (by decide), if_neg (by decide)]
    constructor
    · rintro (⟨-, e⟩ | ⟨e, -⟩ | ⟨e, -⟩)
      · rw [if_pos e]
      · exact absurd e (by decide)
      · exact absurd rfl e
    · intro q
      rw [if_neg (fun e => q (Or.inl ⟨rfl, e⟩))]
  · rw [if_pos rfl]
    constructor
    · rintro (⟨e, -⟩ | ⟨-, e⟩ | ⟨-, e, -⟩)
      · exact absurd e (by decide)
      · rw [if_pos e]
      · exact absurd rfl e
    · intro q
      rw [if_neg (fun e => q (Or.inr (Or.inl ⟨rfl, e⟩)))]
  · rw [if_neg (by decide), if_pos rfl]
    constructor
    · rintro (⟨e, -⟩ | ⟨e, -⟩ | ⟨-, -, e⟩)
      · exact absurd e (by decide)
      · exact absurd e (by decide)
      · rw [if_pos e]
    · intro q
      rw [if_neg (fun e => q (Or.inr (Or.inr ⟨by decide, by decide, e⟩)))]
def fcts (C : eMem) (s : Nat → Int32) (k : Nat) : Prop := ∀ f, f ≤ 4 → C.1 72 f = tval s k f
/-- a test: so or not so, on both sides -/
theorem test_both {C R : eMem} {t c j k : Nat} (ht : t < 8) (hc : c < 6) (hj : j < 4) (hk : k < 20) (hT : wTe C.1 (R.1 1) t c j) (hF : fcts C (R.1 1) k) :
    (F_X10_isSo (nI (1771 + 142 * t + 23 * c + 5 * j)) (nI k) R = some 1 ∧ ∀ (rec : Int32 → Int32 → Int32 → Option Int32) (v1 v3 v4 : Int32), F_X7_holds_42 rec v1 v3 v4 (nI (4 * (10 * t + c) + j)) C = rec v1 v3 (v4 + 1)) ∨
    (F_X10_isSo (nI (1771 + 142 * t + 23 * c + 5 * j)) (nI k) R = some 0 ∧ ∀ (rec : Int32 → Int32 → Int32 → Option Int32) (v1 v3 v4 : Int32), F_X7_holds_42 rec v1 v3 v4 (nI (4 * (10 * t + c) + j)) C = rec v1 0 (v4 + 1)) := by
  obtain ⟨a1, ⟨f, f1, f2, f3⟩, -, -, a5, -⟩ := id hT
  have e1 : 1771 + 142 * t + 23 * c + 5 * j + 1 = 1772 + 142 * t + 23 * c + 5 * j := by omega
  obtain ⟨g1, g2⟩ := isSo_cmp R (1771 + 142 * t + 23 * c + 5 * j) k f (by omega) hk f1 (by rw [e1]; exact f3)
  have h151 : ∀ (rec : Int32 → Int32 → Int32 → Option Int32) (v1 v3 v4 v : Int32), F_X7_holds_151 rec v1 v3 v4 (nI (4 * (10 * t + c) + j)) v C = if v = R.1 1 (1771 + 142 * t + 23 * c + 5 * j) then rec v1 0 (v4 + 1) else rec v1 v3 (v4 + 1) := by
    intro rec v1 v3 v4 v
    unfold F_X7_holds_151
    simp (disch := omega) only [eIn_s, eG_tt, cl, nI_add, bS, Ladd_0, Ladd_1, Ladd_2, Ladd_3, Ladd_4, Ladd_5, Ladd_6, Ladd_7, Ladd_8, Ladd_10, Ladd_12, Ladd_14, Ladd_20, Ladd_23, Ladd_24, Ladd_110, Ladd_200, Ladd_230, Ladd_290, Ladd_294, Ladd_298, Ladd_498, Ladd_1128, Ladd_1248, Ladd_1278, Ladd_1764, Rad_0, Rad_1, Rad_2, Rad_3, Rad_4, Rad_5, Rad_6, Rad_7, Rad_8, Rad_10, Rad_12, Rad_14, Rad_20, Rad_23, Rad_24, Rad_110, Rad_200, Rad_230, Rad_290, Rad_294, Rad_298, Rad_498, Rad_1128, Rad_1248, Rad_1278, Rad_1764, Mul_2, Mul_3, Mul_4, Mul_5, Mul_6, Mul_7, Mul_10, Mul_20, Mul_23, Mul_24, Mul_142]
    rw [a1]
  by_cases hcm : tcmp (R.1 1) (1771 + 142 * t + 23 * c + 5 * j) k f
  · rw [g1 hcm, isSo_89 R _ _ (by omega) a5]
    rcases a5 with a5 | a5
    · refine Or.inl ⟨by rw [a5, if_neg (by decide)], fun rec v1 v3 v4 => ?_⟩
      rw [(hold_cmp rec v1 v3 v4 ht hc hj f1 hT f2 (hF f f1)).1 hcm, h151, a5, if_neg (by decide)]
    · refine Or.inr ⟨by rw [a5, if_pos rfl], fun rec v1 v3 v4 => ?_⟩
      rw [(hold_cmp rec v1 v3 v4 ht hc hj f1 hT f2 (hF f f1)).1 hcm, h151, a5, if_pos rfl]
  · rw [g2 hcm, isSo_89 R _ _ (by omega) a5]
    rcases a5 with a5 | a5
    · refine Or.inr ⟨by rw [a5, if_pos rfl], fun rec v1 v3 v4 => ?_⟩
      rw [(hold_cmp rec v1 v3 v4 ht hc hj f1 hT f2 (hF f f1)).2 hcm, h151, a5, if_pos rfl]
    · refine Or.inl ⟨by rw [a5, if_neg (by decide)], fun rec v1 v3 v4 => ?_⟩
      rw [(hold_cmp rec v1 v3 v4 ht hc hj f1 hT f2 (hF f f1)).2 hcm, h151, a5, if_neg (by decide)]
def KA : Int32 → Int32 → Option Int32 := fun v3 v4 => if v3 = 0 then if v4 = 0 then some 0 else some 1 else some 1
theorem ab119 {C R : eMem} {t c j k : Nat} (rec : Int32 → Int32 → Int32 → Int32 → Int32 → Option Int32) (K : Int32 → Int32 → Option Int32) (v1 v2 v3 v5 : Int32) : F_X10_isAbout_119 rec K v1 v2 v3 v5 (nI (1771 + 142 * t + 23 * c + 5 * j)) R = (F_X10_isSo (nI (1771 + 142 * t + 23 * c + 5 * j)) v2 R).bind fun q3 => if q3 = 0 then rec v1 v2 v3 0 (v5 + 1) else rec v1 v2 v3 1 (v5 + 1) := rfl
/-- the loops over the tests -/
theorem tests_both {C R : eMem} {t c n k : Nat} (ht : t < 8) (hc : c < 6) (hn : n ≤ 4) (hk : k < 20) (hT : ∀ j, j < n → wTe C.1 (R.1 1) t c j) (hF : fcts C (R.1 1) k) (h47 : C.1 47 (10 * t + c) = nI n) (h70 : R.1 1 (1770 + 142 * t + 23 * c) = nI n) :
    ∀ (m j : Nat), j + m = n → ∀ f1 f2, m < f1 → m < f2 → ∀ v3 any : Int32, (v3 = 0 ∨ v3 = 1) → (any = 0 ∨ any = 1) → (j = 0 → v3 = 1) →
      ((any = 1 → F_X10_isAbout_45 KA f2 R (nI (1768 + 142 * t + 23 * c)) (nI k) any v3 (nI j) = some 1) ∧
       (any = 0 → ∃ v, (v = 0 ∨ v = 1) ∧ F_X7_holds_5 f1 C (nI (10 * t + c)) v3 (nI j) = some v ∧ F_X10_isAbout_45 KA f2 R (nI (1768 + 142 * t + 23 * c)) (nI k) any v3 (nI j) = some v)) := by
  intro m
  induction m with
  | zero =>
    intro j hj f1 f2 h1 h2 v3 any hv ha _
    obtain ⟨f1, rfl⟩ : ∃ x, f1 = x + 1 := ⟨f1 - 1, by omega⟩
    obtain ⟨f2, rfl⟩ : ∃ x, f2 = x + 1 := ⟨f2 - 1, by omega⟩
    have e : j = n := by omega
    subst e
    rw [F_X10_isAbout_45, F_X7_holds_5]
    simp (disch := omega) only [eIn_s, eG_tt, cl, nI_add, bS, Ladd_0, Ladd_1, Ladd_2, Ladd_3, Ladd_4, Ladd_5, Ladd_6, Ladd_7, Ladd_8, Ladd_10, Ladd_12, Ladd_14, Ladd_20, Ladd_23, Ladd_24, Ladd_110, Ladd_200, Ladd_230, Ladd_290, Ladd_294, Ladd_298, Ladd_498, Ladd_1128, Ladd_1248, Ladd_1278, Ladd_1764, Rad_0, Rad_1, Rad_2, Rad_3, Rad_4, Rad_5, Rad_6, Rad_7, Rad_8, Rad_10, Rad_12, Rad_14, Rad_20, Rad_23, Rad_24, Rad_110, Rad_200, Rad_230, Rad_290, Rad_294, Rad_298, Rad_498, Rad_1128, Rad_1248, Rad_1278, Rad_1764, Mul_2, Mul_3, Mul_4, Mul_5, Mul_6, Mul_7, Mul_10, Mul_20, Mul_23, Mul_24, Mul_142]
    rw [show 1768 + 142 * t + 23 * c + 2 = 1770 + 142 * t + 23 * c by omega, h70, h47, if_neg (nI_nlt (Nat.le_refl _) (by omega)), if_neg (nI_nlt (Nat.le_refl _) (by omega))]
    refine ⟨fun e => ?_, fun e => ?_⟩
    · rw [e]; rfl
    · rw [e]
      rcases hv with rfl | rfl
      · exact ⟨0, Or.inl rfl, rfl, rfl⟩
      · exact ⟨1, Or.inr rfl, rfl, rfl⟩
  | succ m ih =>
    intro j hj f1 f2 h1 h2 v3 any hv ha h0
    obtain ⟨f1, rfl⟩ : ∃ x, f1 = x + 1 := ⟨f1 - 1, by omega⟩
    obtain ⟨f2, rfl⟩ : ∃ x, f2 = x + 1 := ⟨f2 - 1, by omega⟩
    have hTj := hT j (by omega)
    obtain ⟨-, -, -, -, -, a6, a7, a8⟩ := id hTj
    have e5 : 1768 + 142 * t + 23 * c + 3 + 5 * j = 1771 + 142 * t + 23 * c + 5 * j := by omega
    have e9 : 1771 + 142 * t + 23 * c + 5 * j + 4 = 1775 + 142 * t + 23 * c + 5 * j := by omega
    have e47 : 4 * (10 * t + c) + j < 320 := by omega
    -- the step of the reference with 'any' as it comes to be and the 'so' that follows
    have hstep : ∀ (w : Int32), (w = 0 ∨ w = 1) → F_X10_isAbout_100 (fun v1 v2 v3 v4 v5 => F_X10_isAbout_45 KA f2 R v1 v2 v3 v4 v5) KA (nI (1768 + 142 * t + 23 * c)) (nI k) v3 (nI j) (nI (1771 + 142 * t + 23 * c + 5 * j)) w R =
        (if R.1 1 (1775 + 142 * t + 23 * c + 5 * j) = 1 then (F_X10_isSo (nI (1771 + 142 * t + 23 * c + 5 * j)) (nI k) R).bind fun q3 => if q3 = 0 then F_X10_isAbout_45 KA f2 R (nI (1768 + 142 * t + 23 * c)) (nI k) w 0 (nI (j + 1)) else F_X10_isAbout_45 KA f2 R (nI (1768 + 142 * t + 23 * c)) (nI k) w 1 (nI (j + 1))
         else if v3 = 0 then F_X10_isAbout_45 KA f2 R (nI (1768 + 142 * t + 23 * c)) (nI k) w 0 (nI (j + 1)) else (F_X10_isSo (nI (1771 + 142 * t + 23 * c + 5 * j)) (nI k) R).bind fun q3 => if q3 = 0 then F_X10_isAbout_45 KA f2 R (nI (1768 + 142 * t + 23 * c)) (nI k) w 0 (nI (j + 1)) else F_X10_isAbout_45 KA f2 R (nI (1768 + 142 * t + 23 * c)) (nI k) w 1 (nI (j + 1))) := by
      intro w hw
      unfold F_X10_isAbout_100 F_X10_isAbout_119
      simp (disch := omega) only [eIn_s, eG_tt, cl, nI_add, bS, Ladd_0, Ladd_1, Ladd_2, Ladd_3, Ladd_4, Ladd_5, Ladd_6, Ladd_7, Ladd_8, Ladd_10, Ladd_12, Ladd_14, Ladd_20, Ladd_23, Ladd_24, Ladd_110, Ladd_200, Ladd_230, Ladd_290, Ladd_294, Ladd_298, Ladd_498, Ladd_1128, Ladd_1248, Ladd_1278, Ladd_1764, Rad_0, Rad_1, Rad_2, Rad_3, Rad_4, Rad_5, Rad_6, Rad_7, Rad_8, Rad_10, Rad_12, Rad_14, Rad_20, Rad_23, Rad_24, Rad_110, Rad_200, Rad_230, Rad_290, Rad_294, Rad_298, Rad_498, Rad_1128, Rad_1248, Rad_1278, Rad_1764, Mul_2, Mul_3, Mul_4, Mul_5, Mul_6, Mul_7, Mul_10, Mul_20, Mul_23, Mul_24, Mul_142]
      rw [e9]
    rw [F_X10_isAbout_45, F_X7_holds_5]
    unfold F_X10_isAbout_95 F_X10_isAbout_99
    simp (disch := omega) only [eIn_s, eG_tt, cl, nI_add, bS, Ladd_0, Ladd_1, Ladd_2, Ladd_3, Ladd_4, Ladd_5, Ladd_6, Ladd_7, Ladd_8, Ladd_10, Ladd_12, Ladd_14, Ladd_20, Ladd_23, Ladd_24, Ladd_110, Ladd_200, Ladd_230, Ladd_290, Ladd_294, Ladd_298, Ladd_498, Ladd_1128, Ladd_1248, Ladd_1278, Ladd_1764, Rad_0, Rad_1, Rad_2, Rad_3, Rad_4, Rad_5, Rad_6, Rad_7, Rad_8, Rad_10, Rad_12, Rad_14, Rad_20, Rad_23, Rad_24, Rad_110, Rad_200, Rad_230, Rad_290, Rad_294, Rad_298, Rad_498, Rad_1128, Rad_1248, Rad_1278, Rad_1764, Mul_2, Mul_3, Mul_4, Mul_5, Mul_6, Mul_7, Mul_10, Mul_20, Mul_23, Mul_24, Mul_142]
    rw [show 1768 + 142 * t + 23 * c + 2 = 1770 + 142 * t + 23 * c by omega, h70, h47, if_pos (nI_lt (show j < n by omega) (by omega)), if_pos (nI_lt (show j < n by omega) (by omega)), e5, e9]
    have hone : ∀ (so : Int32), (so = 0 ∨ so = 1) → F_X10_isAbout_45 KA f2 R (nI (1768 + 142 * t + 23 * c)) (nI k) 1 so (nI (j + 1)) = some 1 := fun so hs => (ih (j + 1) (by omega) f1 f2 (by omega) (by omega) so 1 hs (Or.inr rfl) (fun q => by omega)).1 rfl
    have hzero : ∀ (so : Int32), (so = 0 ∨ so = 1) → ∃ v, (v = 0 ∨ v = 1) ∧ F_X7_holds_5 f1 C (nI (10 * t + c)) so (nI (j + 1)) = some v ∧ F_X10_isAbout_45 KA f2 R (nI (1768 + 142 * t + 23 * c)) (nI k) 0 so (nI (j + 1)) = some v := fun so hs => (ih (j + 1) (by omega) f1 f2 (by omega) (by omega) so 0 hs (Or.inl rfl) (fun q => by omega)).2 rfl
    have h100 : F_X10_isAbout_100 (fun v1 v2 v3 v4 v5 => F_X10_isAbout_45 KA f2 R v1 v2 v3 v4 v5) KA (nI (1768 + 142 * t + 23 * c)) (nI k) v3 (nI j) (nI (1771 + 142 * t + 23 * c + 5 * j)) 1 R = some 1 := by
      rw [hstep 1 (Or.inr rfl)]
      have hs : ((F_X10_isSo (nI (1771 + 142 * t + 23 * c + 5 * j)) (nI k) R).bind fun q3 => if q3 = 0 then F_X10_isAbout_45 KA f2 R (nI (1768 + 142 * t + 23 * c)) (nI k) 1 0 (nI (j + 1)) else F_X10_isAbout_45 KA f2 R (nI (1768 + 142 * t + 23 * c)) (nI k) 1 1 (nI (j + 1))) = some 1 := by
        rcases test_both ht hc (show j < 4 by omega) hk hTj hF with ⟨q, -⟩ | ⟨q, -⟩ <;> rw [q] <;> simp only [bS, i10, i00, ↓reduceIte]
        · exact hone 1 (Or.inr rfl)
        · exact hone 0 (Or.inl rfl)
      rw [hs]
      split
      · rfl
      · split
        · exact hone 0 (Or.inl rfl)
        · rfl
    refine ⟨fun e => ?_, fun e => ?_⟩
    · rw [e, if_neg (by decide), h100]
    · rw [e, if_pos rfl]
      -- the class's step
      rcases Nat.eq_zero_or_pos j with j0 | j0
      · subst j0
        obtain ⟨b1, b2⟩ := a7 rfl
        rw [b1, if_pos rfl, if_neg (show ¬ (0 : Int32) < nI 0 from nI_nlt (a := 0) (b := 0) (Nat.le_refl _) (by decide)), hstep 0 (Or.inl rfl), b2, if_pos rfl, h0 rfl]
        rcases test_both ht hc (show 0 < 4 by omega) hk hTj hF with ⟨q, q2⟩ | ⟨q, q2⟩ <;> rw [q, q2] <;> simp only [bS, i10, i00, ↓reduceIte]
        · simp (disch := omega) only [eIn_s, eG_tt, cl, nI_add, bS, Ladd_0, Ladd_1, Ladd_2, Ladd_3, Ladd_4, Ladd_5, Ladd_6, Ladd_7, Ladd_8, Ladd_10, Ladd_12, Ladd_14, Ladd_20, Ladd_23, Ladd_24, Ladd_110, Ladd_200, Ladd_230, Ladd_290, Ladd_294, Ladd_298, Ladd_498, Ladd_1128, Ladd_1248, Ladd_1278, Ladd_1764, Rad_0, Rad_1, Rad_2, Rad_3, Rad_4, Rad_5, Rad_6, Rad_7, Rad_8, Rad_10, Rad_12, Rad_14, Rad_20, Rad_23, Rad_24, Rad_110, Rad_200, Rad_230, Rad_290, Rad_294, Rad_298, Rad_498, Rad_1128, Rad_1248, Rad_1278, Rad_1764, Mul_2, Mul_3, Mul_4, Mul_5, Mul_6, Mul_7, Mul_10, Mul_20, Mul_23, Mul_24, Mul_142]; exact hzero 1 (Or.inr rfl)
        · simp (disch := omega) only [eIn_s, eG_tt, cl, nI_add, bS, Ladd_0, Ladd_1, Ladd_2, Ladd_3, Ladd_4, Ladd_5, Ladd_6, Ladd_7, Ladd_8, Ladd_10, Ladd_12, Ladd_14, Ladd_20, Ladd_23, Ladd_24, Ladd_110, Ladd_200, Ladd_230, Ladd_290, Ladd_294, Ladd_298, Ladd_498, Ladd_1128, Ladd_1248, Ladd_1278, Ladd_1764, Rad_0, Rad_1, Rad_2, Rad_3, Rad_4, Rad_5, Rad_6, Rad_7, Rad_8, Rad_10, Rad_12, Rad_14, Rad_20, Rad_23, Rad_24, Rad_110, Rad_200, Rad_230, Rad_290, Rad_294, Rad_298, Rad_498, Rad_1128, Rad_1248, Rad_1278, Rad_1764, Mul_2, Mul_3, Mul_4, Mul_5, Mul_6, Mul_7, Mul_10, Mul_20, Mul_23, Mul_24, Mul_142]; exact hzero 0 (Or.inl rfl)
      · rw [a8 j0, if_pos (show (0 : Int32) < nI j from nI_lt (a := 0) j0 (by omega))]
        rcases a6 with a6 | a6 <;> rw [a6]
        · rw [if_pos rfl, if_neg (by decide), hstep 0 (Or.inl rfl), a6, if_neg (by decide)]
          rcases hv with rfl | rfl
          · rw [if_pos rfl]
            rcases test_both ht hc (show j < 4 by omega) hk hTj hF with ⟨q, q2⟩ | ⟨q, q2⟩ <;> rw [q2] <;> simp (disch := omega) only [eIn_s, eG_tt, cl, nI_add, bS, Ladd_0, Ladd_1, Ladd_2, Ladd_3, Ladd_4, Ladd_5, Ladd_6, Ladd_7, Ladd_8, Ladd_10, Ladd_12, Ladd_14, Ladd_20, Ladd_23, Ladd_24, Ladd_110, Ladd_200, Ladd_230, Ladd_290, Ladd_294, Ladd_298, Ladd_498, Ladd_1128, Ladd_1248, Ladd_1278, Ladd_1764, Rad_0, Rad_1, Rad_2, Rad_3, Rad_4, Rad_5, Rad_6, Rad_7, Rad_8, Rad_10, Rad_12, Rad_14, Rad_20, Rad_23, Rad_24, Rad_110, Rad_200, Rad_230, Rad_290, Rad_294, Rad_298, Rad_498, Rad_1128, Rad_1248, Rad_1278, Rad_1764, Mul_2, Mul_3, Mul_4, Mul_5, Mul_6, Mul_7, Mul_10, Mul_20, Mul_23, Mul_24, Mul_142] <;> exact hzero 0 (Or.inl rfl)
          · rw [if_neg (by decide)]
            rcases test_both ht hc (show j < 4 by omega) hk hTj hF with ⟨q, q2⟩ | ⟨q, q2⟩ <;> rw [q, q2] <;> simp only [bS, i10, i00, ↓reduceIte]
            · simp (disch := omega) only [eIn_s, eG_tt, cl, nI_add, bS, Ladd_0, Ladd_1, Ladd_2, Ladd_3, Ladd_4, Ladd_5, Ladd_6, Ladd_7, Ladd_8, Ladd_10, Ladd_12, Ladd_14, Ladd_20, Ladd_23, Ladd_24, Ladd_110, Ladd_200, Ladd_230, Ladd_290, Ladd_294, Ladd_298, Ladd_498, Ladd_1128, Ladd_1248, Ladd_1278, Ladd_1764, Rad_0, Rad_1, Rad_2, Rad_3, Rad_4, Rad_5, Rad_6, Rad_7, Rad_8, Rad_10, Rad_12, Rad_14, Rad_20, Rad_23, Rad_24, Rad_110, Rad_200, Rad_230, Rad_290, Rad_294, Rad_298, Rad_498, Rad_1128, Rad_1248, Rad_1278, Rad_1764, Mul_2, Mul_3, Mul_4, Mul_5, Mul_6, Mul_7, Mul_10, Mul_20, Mul_23, Mul_24, Mul_142]; exact hzero 1 (Or.inr rfl)
            · simp (disch := omega) only [eIn_s, eG_tt, cl, nI_add, bS, Ladd_0, Ladd_1, Ladd_2, Ladd_3, Ladd_4, Ladd_5, Ladd_6, Ladd_7, Ladd_8, Ladd_10, Ladd_12, Ladd_14, Ladd_20, Ladd_23, Ladd_24, Ladd_110, Ladd_200, Ladd_230, Ladd_290, Ladd_294, Ladd_298, Ladd_498, Ladd_1128, Ladd_1248, Ladd_1278, Ladd_1764, Rad_0, Rad_1, Rad_2, Rad_3, Rad_4, Rad_5, Rad_6, Rad_7, Rad_8, Rad_10, Rad_12, Rad_14, Rad_20, Rad_23, Rad_24, Rad_110, Rad_200, Rad_230, Rad_290, Rad_294, Rad_298, Rad_498, Rad_1128, Rad_1248, Rad_1278, Rad_1764, Mul_2, Mul_3, Mul_4, Mul_5, Mul_6, Mul_7, Mul_10, Mul_20, Mul_23, Mul_24, Mul_142]; exact hzero 0 (Or.inl rfl)
        · rw [if_neg (by decide), if_pos rfl]
          rcases hv with rfl | rfl
          · rw [if_pos rfl, if_pos rfl, hstep 0 (Or.inl rfl), a6, if_pos rfl]
            rcases test_both ht hc (show j < 4 by omega) hk hTj hF with ⟨q, q2⟩ | ⟨q, q2⟩ <;> rw [q, q2] <;> simp only [bS, i10, i00, ↓reduceIte]
            · simp (disch := omega) only [eIn_s, eG_tt, cl, nI_add, bS, Ladd_0, Ladd_1, Ladd_2, Ladd_3, Ladd_4, Ladd_5, Ladd_6, Ladd_7, Ladd_8, Ladd_10, Ladd_12, Ladd_14, Ladd_20, Ladd_23, Ladd_24, Ladd_110, Ladd_200, Ladd_230, Ladd_290, Ladd_294, Ladd_298, Ladd_498, Ladd_1128, Ladd_1248, Ladd_1278, Ladd_1764, Rad_0, Rad_1, Rad_2, Rad_3, Rad_4, Rad_5, Rad_6, Rad_7, Rad_8, Rad_10, Rad_12, Rad_14, Rad_20, Rad_23, Rad_24, Rad_110, Rad_200, Rad_230, Rad_290, Rad_294, Rad_298, Rad_498, Rad_1128, Rad_1248, Rad_1278, Rad_1764, Mul_2, Mul_3, Mul_4, Mul_5, Mul_6, Mul_7, Mul_10, Mul_20, Mul_23, Mul_24, Mul_142]; exact hzero 1 (Or.inr rfl)
            · simp (disch := omega) only [eIn_s, eG_tt, cl, nI_add, bS, Ladd_0, Ladd_1, Ladd_2, Ladd_3, Ladd_4, Ladd_5, Ladd_6, Ladd_7, Ladd_8, Ladd_10, Ladd_12, Ladd_14, Ladd_20, Ladd_23, Ladd_24, Ladd_110, Ladd_200, Ladd_230, Ladd_290, Ladd_294, Ladd_298, Ladd_498, Ladd_1128, Ladd_1248, Ladd_1278, Ladd_1764, Rad_0, Rad_1, Rad_2, Rad_3, Rad_4, Rad_5, Rad_6, Rad_7, Rad_8, Rad_10, Rad_12, Rad_14, Rad_20, Rad_23, Rad_24, Rad_110, Rad_200, Rad_230, Rad_290, Rad_294, Rad_298, Rad_498, Rad_1128, Rad_1248, Rad_1278, Rad_1764, Mul_2, Mul_3, Mul_4, Mul_5, Mul_6, Mul_7, Mul_10, Mul_20, Mul_23, Mul_24, Mul_142]; exact hzero 0 (Or.inl rfl)
          · rw [if_neg (by decide), if_neg (by decide), h100]
            exact ⟨1, Or.inr rfl, rfl, rfl⟩
