/-! the calls on the desk -/
/-- the weights, as numbers -/
def nfac (st b : Int32) (v x : Nat) : Nat := if (if nI x = st then (1 : Int32) else 0) = b then 1 + v else 1
theorem fac_nat (st b : Int32) {v : Nat} (hv : v ≤ 1000) (x : Nat) : fac st b (nI v) x = Int64.ofNat (nfac st b v x) := by
  unfold fac nfac
  generalize (if nI x = st then (1 : Int32) else 0) = w
  by_cases q : w = b
  · rw [if_pos q, if_pos q]
    rw [← Int64.toInt_inj, lg_ofNat_toInt (by omega), Int64.toInt_add, Int32.toInt_toInt64, nI_toInt (by omega), show (1 : Int64).toInt = 1 from rfl, Int.bmod_def]
    omega
  · rw [if_neg q, if_neg q]; rfl
theorem nfac_le (st b : Int32) (v x : Nat) : 1 ≤ nfac st b v x ∧ nfac st b v x ≤ 1 + v := by
  unfold nfac
  generalize (if nI x = st then (1 : Int32) else 0) = w
  by_cases q : w = b
  · rw [if_pos q]; omega
  · rw [if_neg q]; omega
theorem pu_nat {f : Nat → Int64} {B : Nat} (hB : 1 ≤ B) : ∀ m, (∀ i, i < m → ∃ g, 1 ≤ g ∧ g ≤ B ∧ f i = Int64.ofNat g) → ∃ w, 1 ≤ w ∧ w ≤ B ^ m ∧ pu f m = Int64.ofNat w := by
  intro m
  induction m with
  | zero => intro _; exact ⟨1, Nat.le_refl _, by simp, rfl⟩
  | succ m ih =>
    intro h
    obtain ⟨w, w1, w2, w3⟩ := ih (fun i hi => h i (by omega))
    obtain ⟨g, g1, g2, g3⟩ := h m (by omega)
    refine ⟨w * g, Nat.mul_pos w1 g1, ?_, ?_⟩
    · rw [Nat.pow_succ]; exact Nat.mul_le_mul w2 g2
    · rw [pu, w3, g3, Int64.ofNat_mul]
/-- both sides weigh alike -/
theorem weigh_both {C R : eMem} (h : Rel C R) (T : Int32) : ∃ C2 R2 R3 n, F_X8_scalesAt T C = some C2 ∧ F_X10_gather T R = some R2 ∧ F_X10_weigh R2 = some R3 ∧ Rel C2 R2 ∧ Rel C2 R3 ∧ n ≤ 90 ∧ C2.1 55 2 = nI (min n 12) ∧ R2.1 0 13 = nI n ∧ (∀ x, x < 4 → C2.2 56 x = R3.2 12 x) ∧ (∀ x, x < 4 → ∃ w, 1 ≤ w ∧ w ≤ 12 ^ 12 ∧ C2.2 56 x = Int64.ofNat w) ∧ frC C C2 ∧ R3.1 = R2.1 ∧ frR R R2 := by
  obtain ⟨C2, R2, n, d, a1, a2, a3, a4, a5, a6, ⟨b1, b2, b3⟩, a8, a9, e1, e2⟩ := desk_both h T
  obtain ⟨-, -, -, -, -, -, -, -, -, -, -, -, -, -, i1, -, -, -, i5, -⟩ := id h.1
  have y10 := i1.2.2.2.2.2.2.1.2
  obtain ⟨R3, g1, g2, g3, g4⟩ := X10_weigh (R := R2) (n := n) (by omega) a9.1 (fun i hi => by
    rw [(a9.2 i hi).2.2.1]
    exact (i5 _ (b3 _ (by omega))).2.2.1)
  have hr := fr_Rel h a3 a5
  refine ⟨C2, R2, R3, n, a1, a2, g1, hr, ?_, by omega, a8.1, a9.1, fun x hx => ?_, fun x hx => ?_, a3, g2, a5⟩
  · exact fr_Rel h a3 (by rw [frR, g2]; exact a5)
  · rw [e1 x hx, g4 x hx]
    refine pu_cg _ (fun i hi => ?_)
    obtain ⟨q1, q2, q3, q4⟩ := a9.2 (n - 1 - i) (by omega)
    rw [q2, q3, q4, show n - 1 - (n - 1 - i) = i by omega]
    rfl
  · rw [e1 x hx]
    obtain ⟨w, w1, w2, w3⟩ := pu_nat (f := fun i => fk (R.1 1) (d i) x) (B := 12) (by omega) (min n 12) (fun i hi => by
      obtain ⟨-, -, v, v1, v2⟩ := credit_val h.1 (b3 i (by omega))
      refine ⟨nfac (R.1 1 (499 + 7 * d i)) (R.1 1 (500 + 7 * d i)) v x, ?_, ?_, ?_⟩
      · exact (nfac_le _ _ _ _).1
      · exact Nat.le_trans (nfac_le _ _ _ _).2 (by omega)
      · show fk (R.1 1) (d i) x = _
        unfold fk
        rw [v2, fac_nat _ _ (by omega)])
    exact ⟨w, w1, Nat.le_trans w2 (Nat.pow_le_pow_right (by omega) (by omega)), w3⟩
theorem st_weight {C R : eMem} (h : Rel C R) (x1 : Int32) : Step (F_X9_weight x1 C) (F_X10_weight x1 R) := by
  unfold F_X9_weight F_X10_weight
  rw [isStory_eq, h.1.1.1]
  rcases rng x1 4 3 4 rfl rfl with ⟨k, hk, rfl, e1, e2⟩ | ⟨e1, e2⟩ <;> rw [e1, e2]
  · simp only [bS, i10, ↓reduceIte]
    obtain ⟨C2, R2, R3, n, a1, a2, a3, a4, a5, a6, a7, a8, a9, -⟩ := weigh_both h (R.1 1 0)
    rw [a1, a2]
    simp only [bS]
    rw [a3]
    simp only [bS]
    simp (disch := omega) only [eIn_s, eG_tt, cl, nI_add, bS, Ladd_0, Ladd_1, Ladd_2, Ladd_3, Ladd_4, Ladd_5, Ladd_6, Ladd_7, Ladd_8, Ladd_10, Ladd_12, Ladd_14, Ladd_20, Ladd_23, Ladd_24, Ladd_110, Ladd_200, Ladd_230, Ladd_290, Ladd_294, Ladd_298, Ladd_498, Ladd_1128, Ladd_1248, Ladd_1278, Ladd_1764, Rad_0, Rad_1, Rad_2, Rad_3, Rad_4, Rad_5, Rad_6, Rad_7, Rad_8, Rad_10, Rad_12, Rad_14, Rad_20, Rad_23, Rad_24, Rad_110, Rad_200, Rad_230, Rad_290, Rad_294, Rad_298, Rad_498, Rad_1128, Rad_1248, Rad_1278, Rad_1764, Mul_2, Mul_3, Mul_4, Mul_5, Mul_6, Mul_7, Mul_10, Mul_20, Mul_23, Mul_24, Mul_142]
    exact stepI (a9 k hk) a5
  · simp only [bS, i10, i00, ↓reduceIte]
    exact stfl1 h
theorem st_counted {C R : eMem} (h : Rel C R) (x1 : Int32) : Step (F_X9_counted x1 C) (F_X10_counted x1 R) := by
  unfold F_X9_counted F_X10_counted
  rw [isHour_eq]
  simp only [btw]
  rcases in01 x1 0 1943 with ⟨e, -⟩ | e <;> rw [e]
  · simp only [bS, i10, ↓reduceIte]
    obtain ⟨C2, R2, R3, n, a1, a2, a3, a4, a5, a6, a7, a8, a9, -⟩ := weigh_both h x1
    rw [a1, a2]
    simp only [bS]
    rw [a7, a8]
    by_cases q : n < 12
    · rw [if_pos ((lt_lit (n := 12) rfl (by omega)).mpr q)]
      exact stepI (by rw [show min n 12 = n by omega]) a4
    · rw [if_neg (fun e => q ((lt_lit (n := 12) rfl (by omega)).mp e))]
      exact stepI (by rw [show min n 12 = 12 by omega]; rfl) a4
  · simp only [bS, i10, i00, ↓reduceIte]
    exact stf1 h
theorem heavy_loop {C R : eMem} (hw : ∀ x, x < 4 → C.2 56 x = R.2 12 x) : ∀ m j, j + m = 4 → ∀ f1 f2, m < f1 → m < f2 → ∀ v, v < 4 → ∃ u, u < 4 ∧ F_X3_heaviest_4 f1 C (nI v) (nI j) = some (nI u) ∧ F_X10_greatest_4 f2 R (nI v) (nI j) = some (nI u) := by
  intro m
  induction m with
  | zero =>
    intro j hj f1 f2 h1 h2 v hv
    obtain ⟨f1, rfl⟩ : ∃ x, f1 = x + 1 := ⟨f1 - 1, by omega⟩
    obtain ⟨f2, rfl⟩ : ∃ x, f2 = x + 1 := ⟨f2 - 1, by omega⟩
    have hn : ¬ nI j < 4 := fun q => by have := (lt_lit (n := 4) rfl (by omega)).mp q; omega
    rw [F_X3_heaviest_4, F_X10_greatest_4, if_neg hn, if_neg hn]
    exact ⟨v, hv, rfl, rfl⟩
  | succ m ih =>
    intro j hj f1 f2 h1 h2 v hv
    obtain ⟨f1, rfl⟩ : ∃ x, f1 = x + 1 := ⟨f1 - 1, by omega⟩
    obtain ⟨f2, rfl⟩ : ∃ x, f2 = x + 1 := ⟨f2 - 1, by omega⟩
    have hn : nI j < 4 := (lt_lit (n := 4) rfl (by omega)).mpr (by omega)
    rw [F_X3_heaviest_4, F_X10_greatest_4, if_pos hn, if_pos hn, eIn_s (show j < 4 by omega) (by omega), eIn_s (show v < 4 by omega) (by omega), cl (show j < 2147483648 by omega), cl (show v < 2147483648 by omega), hw j (by omega), hw v hv]
    simp only [eG_tt]
    rw [Rad_1]
    by_cases q : 0 < lg_cmp (R.2 12 j) (R.2 12 v)
    · rw [if_pos q, if_pos q]; exact ih (j + 1) (by omega) f1 f2 (by omega) (by omega) j (by omega)
    · rw [if_neg q, if_neg q]; exact ih (j + 1) (by omega) f1 f2 (by omega) (by omega) v hv
theorem heavy_both {C R : eMem} (hw : ∀ x, x < 4 → C.2 56 x = R.2 12 x) : ∃ u, u < 4 ∧ F_X3_heaviest C = some (nI u) ∧ F_X10_greatest R = some (nI u) := by
  unfold F_X3_heaviest F_X10_greatest
  have := heavy_loop hw 3 1 rfl eFuel eFuel (by unfold eFuel; omega) (by unfold eFuel; omega) 0 (by omega)
  rw [show nI 0 = 0 from rfl, show nI 1 = 1 from rfl] at this
  exact this
theorem st_likeliest {C R : eMem} (h : Rel C R) (x1 : Int32) : Step (F_X9_likeliest x1 C) (F_X10_likeliest x1 R) := by
  unfold F_X9_likeliest F_X10_likeliest
  rw [isHour_eq]
  simp only [btw]
  rcases in01 x1 0 1943 with ⟨e, -⟩ | e <;> rw [e]
  · simp only [bS, i10, ↓reduceIte]
    obtain ⟨C2, R2, R3, n, a1, a2, a3, a4, a5, a6, a7, a8, a9, -⟩ := weigh_both h x1
    rw [a1, a2]
    simp only [bS]
    rw [a3]
    simp only [bS]
    obtain ⟨u, -, u1, u2⟩ := heavy_both a9
    rw [u1, u2]
    exact stepI rfl a5
  · simp only [bS, i10, i00, ↓reduceIte]
    exact stf1 h
theorem st_troops {C R : eMem} (h : Rel C R) (x1 : Int32) : Step (F_X9_troops x1 C) (F_X10_troops x1 R) := by
  obtain ⟨wSc, wGr, wRo, wUn, wPl, wHe, wSh, wRe, wFl, wLi, wBo, wTx, wTc, wz, i1, i2, i3, i4, i5, i6⟩ := id h.1; obtain ⟨c0, c1, c2, c3, c4, c5, c6, c7, c8, c9, c10, c11, c12, c13⟩ := id wSc; obtain ⟨⟨z0, y0⟩, ⟨f5, g5, y5, z5⟩, ⟨t6, y6, z6⟩, ⟨z7, y7⟩, ⟨z8, y8⟩, ⟨z9, y9⟩, ⟨z10, y10⟩, ⟨z11, y11⟩, ⟨z12, y12⟩, ⟨z13, y13⟩⟩ := id i1
  unfold F_X9_troops F_X10_troops
  simp only [btw]
  rcases inL x1 0 900 0 900 rfl rfl with ⟨k, -, hk, rfl, e⟩ | e <;> rw [e] <;> simp only [bS, i10, i00, ↓reduceIte]
  · refine stepI c6 ?_
    refine h.now (by simp (disch := omega) only [eIq_ne, eIq_eq, upd_ne, upd_eq]) (fun p hp => by simp (disch := omega) only [eIq_ne, eIq_eq, upd_ne, upd_eq]) (by simp (disch := omega) only [eIq_ne, eIq_eq, upd_ne, upd_eq]) (by simp (disch := omega) only [eIq_ne, eIq_eq, upd_ne, upd_eq]) (fun p p1 p2 => by simp (disch := omega) only [eIq_ne, eIq_eq, upd_ne, upd_eq]) (h.1.scal (fun p p1 p2 => by simp (disch := omega) only [eIq_ne, eIq_eq, upd_ne, upd_eq]) (fun j hj => by simp (disch := omega) only [eIq_ne, eIq_eq, upd_ne, upd_eq]) (by refine ⟨?_, ?_, ?_, ?_, ?_, ?_, ?_, ?_, ?_, ?_, ?_, ?_, ?_, ?_⟩ <;> (simp (disch := omega) only [eIq_ne, eIq_eq, upd_ne, upd_eq] <;> first | assumption | (simp only [*]; done))) ?_)
    exact (iSc_mk (h := hr (R.1 1)) (f := f5) (t := k) (a := nR (R.1 1)) (b := nU (R.1 1)) (c := nS (R.1 1)) (d := nP (R.1 1)) (e := nT (R.1 1)) (g := nF (R.1 1)) (i := nL (R.1 1)) (by simp (disch := omega) only [eIq_ne, eIq_eq, upd_ne, upd_eq]; exact z0) y0 (by simp (disch := omega) only [eIq_ne, eIq_eq, upd_ne, upd_eq]; exact z5) g5 y5 (by simp (disch := omega) only [eIq_ne, eIq_eq, upd_ne, upd_eq]) hk (by simp (disch := omega) only [eIq_ne, eIq_eq, upd_ne, upd_eq]; exact z7) y7 (by simp (disch := omega) only [eIq_ne, eIq_eq, upd_ne, upd_eq]; exact z8) y8 (by simp (disch := omega) only [eIq_ne, eIq_eq, upd_ne, upd_eq]; exact z9) y9 (by simp (disch := omega) only [eIq_ne, eIq_eq, upd_ne, upd_eq]; exact z10) y10 (by simp (disch := omega) only [eIq_ne, eIq_eq, upd_ne, upd_eq]; exact z11) y11 (by simp (disch := omega) only [eIq_ne, eIq_eq, upd_ne, upd_eq]; exact z12) y12 (by simp (disch := omega) only [eIq_ne, eIq_eq, upd_ne, upd_eq]; exact z13) y13)
  · exact stf1 h
theorem st_held {C R : eMem} (h : Rel C R) (x1 : Int32) : Step (F_X9_held x1 C) (F_X10_held x1 R) := by
  obtain ⟨wSc, wGr, wRo, wUn, wPl, wHe, wSh, wRe, wFl, wLi, wBo, wTx, wTc, wz, i1, i2, i3, i4, i5, i6⟩ := id h.1; obtain ⟨c0, c1, c2, c3, c4, c5, c6, c7, c8, c9, c10, c11, c12, c13⟩ := id wSc; obtain ⟨⟨z0, y0⟩, ⟨f5, g5, y5, z5⟩, ⟨t6, y6, z6⟩, ⟨z7, y7⟩, ⟨z8, y8⟩, ⟨z9, y9⟩, ⟨z10, y10⟩, ⟨z11, y11⟩, ⟨z12, y12⟩, ⟨z13, y13⟩⟩ := id i1
  unfold F_X9_held F_X10_held
  rw [isStory_eq]
  rcases rng x1 4 3 4 rfl rfl with ⟨k, hk, rfl, e1, e2⟩ | ⟨e1, e2⟩ <;> rw [e1, e2] <;> simp only [bS, i10, i00, ↓reduceIte]
  · simp (disch := omega) only [eIn_s, eG_tt, cl, nI_add, bS, Ladd_0, Ladd_1, Ladd_2, Ladd_3, Ladd_4, Ladd_5, Ladd_6, Ladd_7, Ladd_8, Ladd_10, Ladd_12, Ladd_14, Ladd_20, Ladd_23, Ladd_24, Ladd_110, Ladd_200, Ladd_230, Ladd_290, Ladd_294, Ladd_298, Ladd_498, Ladd_1128, Ladd_1248, Ladd_1278, Ladd_1764, Rad_0, Rad_1, Rad_2, Rad_3, Rad_4, Rad_5, Rad_6, Rad_7, Rad_8, Rad_10, Rad_12, Rad_14, Rad_20, Rad_23, Rad_24, Rad_110, Rad_200, Rad_230, Rad_290, Rad_294, Rad_298, Rad_498, Rad_1128, Rad_1248, Rad_1278, Rad_1764, Mul_2, Mul_3, Mul_4, Mul_5, Mul_6, Mul_7, Mul_10, Mul_20, Mul_23, Mul_24, Mul_142]
    exact stepI (wHe k hk) h
  · exact stf1 h
/-! the common divisor -/
theorem o64_mod {a b : Nat} (ha : a < 2 ^ 62) (hb : b < 2 ^ 62) : Int64.ofNat a - Int64.ofNat a / Int64.ofNat b * Int64.ofNat b = Int64.ofNat (a % b) := by
  have hm : a % b ≤ a := Nat.mod_le a b
  rw [← Int64.toInt_inj, Jvm.Kit.i64_rem_nonneg (by rw [lg_ofNat_toInt (by omega)]; omega), lg_ofNat_toInt (by omega), lg_ofNat_toInt (by omega), lg_ofNat_toInt (by omega)]
  omega
theorem o64_zero {b : Nat} (hb : b < 2 ^ 62) : Int64.ofNat b = 0 ↔ b = 0 := by
  rw [← Int64.toInt_inj, lg_ofNat_toInt (by omega), Int64.toInt_zero]
  omega
theorem o64_pos {b : Nat} (hb : b < 2 ^ 62) : 0 < lg_cmp (Int64.ofNat b) 0 ↔ 0 < b := by
  rw [lg_cmp_gt, Int64.lt_iff_toInt_lt, lg_ofNat_toInt (by omega), Int64.toInt_zero]
  omega
theorem gcd_step {a b k : Nat} (hb : 0 < b) (hab : b ≤ a) (h : a * b < 2 ^ (k + 1)) : b * (a % b) < 2 ^ k := by
  have h1 : 2 * (a % b) < a + 1 := by
    have e := Nat.div_add_mod a b
    have hq : 1 ≤ a / b := Nat.div_pos hab hb
    have hl := Nat.mod_lt a hb
    have : b * 1 ≤ b * (a / b) := Nat.mul_le_mul_left b hq
    omega
  have h2 : 2 * (a % b) * b ≤ a * b := Nat.mul_le_mul_right b (by omega)
  have h3 : 2 * (b * (a % b)) = 2 * (a % b) * b := by rw [Nat.mul_comm b, Nat.mul_assoc]
  rw [Nat.pow_succ] at h
  omega
theorem gcdC (K : Int32 → Int32 → Int64 → Option Int64) (M : eMem) (v1 v2 : Int32) : ∀ k a b, b ≤ a → a < 2 ^ 62 → a * b < 2 ^ k → ∀ v7 f, v7 + k ≤ 128 → k < f → F_X3_cleared_16 K f M v1 v2 (Int64.ofNat a) (Int64.ofNat b) (nI v7) = K v1 v2 (Int64.ofNat (Nat.gcd a b)) := by
  intro k
  induction k with
  | zero =>
    intro a b hab ha h v7 f h7 hf
    obtain ⟨f, rfl⟩ : ∃ x, f = x + 1 := ⟨f - 1, by omega⟩
    have hb : b = 0 := by
      rcases Nat.eq_zero_or_pos b with q | q
      · exact q
      · have : 1 * 1 ≤ a * b := Nat.mul_le_mul (by omega) q
        omega
    subst hb
    rw [F_X3_cleared_16, Nat.gcd_zero_right, if_neg (show ¬ 0 < lg_cmp (Int64.ofNat 0) 0 by decide), ite_self]
  | succ k ih =>
    intro a b hab ha h v7 f h7 hf
    obtain ⟨f, rfl⟩ : ∃ x, f = x + 1 := ⟨f - 1, by omega⟩
    rw [F_X3_cleared_16, if_pos ((lt_lit (n := 128) rfl (by omega)).mpr (by omega))]
    rcases Nat.eq_zero_or_pos b with q | q
    · subst q
      rw [Nat.gcd_zero_right, if_neg (fun q => by have := (o64_pos (b := 0) (by omega)).mp q; omega)]
    · rw [if_pos ((o64_pos (by omega)).mpr q), if_neg (fun e => by have := (o64_zero (by omega)).mp e; omega), o64_mod (by omega) (by omega), Rad_1]
      rw [ih b (a % b) (Nat.le_of_lt (Nat.mod_lt a q)) (by omega) (gcd_step q hab h) (v7 + 1) f (by omega) (by omega)]
      rw [Nat.gcd_comm a b, Nat.gcd_rec b a, Nat.gcd_comm (a % b) b]
theorem gcdR : ∀ k a b, b ≤ a → a < 2 ^ 62 → a * b < 2 ^ k → ∀ f, k < f → F_X10_common_6 f (Int64.ofNat a) (Int64.ofNat b) = some (Int64.ofNat (Nat.gcd a b)) := by
  intro k
  induction k with
  | zero =>
    intro a b hab ha h f hf
    obtain ⟨f, rfl⟩ : ∃ x, f = x + 1 := ⟨f - 1, by omega⟩
    have hb : b = 0 := by
      rcases Nat.eq_zero_or_pos b with q | q
      · exact q
      · have : 1 * 1 ≤ a * b := Nat.mul_le_mul (by omega) q
        omega
    subst hb
    rw [F_X10_common_6, Nat.gcd_zero_right, if_pos (by decide)]
  | succ k ih =>
    intro a b hab ha h f hf
    obtain ⟨f, rfl⟩ : ∃ x, f = x + 1 := ⟨f - 1, by omega⟩
    rw [F_X10_common_6]
    rcases Nat.eq_zero_or_pos b with q | q
    · subst q
      rw [Nat.gcd_zero_right, if_pos (by decide)]
    · rw [if_neg (fun e => by rw [lg_cmp_eq] at e; have := (o64_zero (by omega)).mp e; omega), if_neg (fun e => by have := (o64_zero (by omega)).mp e; omega), o64_mod (by omega) (by omega)]
      rw [ih b (a % b) (Nat.le_of_lt (Nat.mod_lt a q)) (by omega) (gcd_step q hab h) f (by omega)]
      rw [Nat.gcd_comm a b, Nat.gcd_rec b a, Nat.gcd_comm (a % b) b]
/-- four weights together -/
theorem all_nat {a b c d : Nat} (ha : a < 2 ^ 58) (hb : b < 2 ^ 58) (hc : c < 2 ^ 58) (hd : d < 2 ^ 58) : Int64.ofNat a + Int64.ofNat b + Int64.ofNat c + Int64.ofNat d = Int64.ofNat (a + b + c + d) := by
  rw [Int64.ofNat_add, Int64.ofNat_add, Int64.ofNat_add]
theorem sum_C {C : eMem} {a b c d : Int64} (h0 : C.2 56 0 = a) (h1 : C.2 56 1 = b) (h2 : C.2 56 2 = c) (h3 : C.2 56 3 = d) : F_X3_sum C = some (a + b + c + d) := by
  have e : ∀ f (v : Int64) (j : Nat), j < 4 → F_X3_sum_4 (f + 1) C v (nI j) = F_X3_sum_4 f C (v + C.2 56 j) (nI (j + 1)) := by
    intro f v j hj
    rw [F_X3_sum_4, if_pos ((lt_lit (n := 4) rfl (by omega)).mpr hj), eIn_s hj (by omega), eG_tt, cl (by omega), Rad_1]
  have e4 : ∀ f (v : Int64), F_X3_sum_4 (f + 1) C v (nI 4) = some v := fun f v => by
    rw [F_X3_sum_4, if_neg (by decide)]
  obtain ⟨f, hf⟩ : ∃ f, eFuel = f + 1 + 1 + 1 + 1 + 1 := ⟨eFuel - 5, by unfold eFuel; omega⟩
  unfold F_X3_sum
  rw [hf, show (0 : Int32) = nI 0 from rfl, e _ _ 0 (by omega), e _ _ (0 + 1) (by omega), e _ _ (0 + 1 + 1) (by omega), e _ _ (0 + 1 + 1 + 1) (by omega), show 0 + 1 + 1 + 1 + 1 = 4 from rfl, e4, h0]
  show some (0 + a + C.2 56 1 + C.2 56 2 + C.2 56 3) = _
  rw [h1, h2, h3, Int64.zero_add]
theorem gcd_bound {a b : Nat} (ha : a < 2 ^ 60) (hb : b < 2 ^ 60) : a * b < 2 ^ 120 := by
  have h1 : a * b ≤ 2 ^ 60 * 2 ^ 60 := Nat.mul_le_mul (Nat.le_of_lt ha) (Nat.le_of_lt hb)
  rcases Nat.eq_zero_or_pos b with q | q
  · subst q; rw [Nat.mul_zero]; decide
  · have h2 : a * b < 2 ^ 60 * b := Nat.mul_lt_mul_of_pos_right ha q
    have h3 : 2 ^ 60 * b ≤ 2 ^ 60 * 2 ^ 60 := Nat.mul_le_mul_left _ (Nat.le_of_lt hb)
    have h4 : (2 : Nat) ^ 60 * 2 ^ 60 = 2 ^ 120 := by decide
    omega
theorem st_likely {C R : eMem} (h : Rel C R) (x1 x2 : Int32) : Step (F_X9_likely x1 x2 C) (F_X10_likely x1 x2 R) := by
  unfold F_X9_likely F_X10_likely
  rw [isStory_eq, h.1.1.1]
  rcases rng x1 4 3 4 rfl rfl with ⟨k, hk, rfl, e1, e2⟩ | ⟨e1, e2⟩ <;> rw [e1, e2]
  · simp only [bS, i10, ↓reduceIte]
    obtain ⟨C2, R2, R3, n, a1, a2, a3, a4, a5, a6, a7, a8, a9, a10, -⟩ := weigh_both h (R.1 1 0)
    rw [a1, a2]
    simp only [bS]
    rw [a3]
    simp only [bS]
    obtain ⟨p0, l0, u0, q0⟩ := a10 0 (by omega)
    obtain ⟨p1, l1, u1, q1⟩ := a10 1 (by omega)
    obtain ⟨p2, l2, u2, q2⟩ := a10 2 (by omega)
    obtain ⟨p3, l3, u3, q3⟩ := a10 3 (by omega)
    have hB : (12 : Nat) ^ 12 < 2 ^ 58 := by decide
    have hs : F_X3_sum C2 = some (Int64.ofNat (p0 + p1 + p2 + p3)) := by
      rw [sum_C q0 q1 q2 q3, all_nat (by omega) (by omega) (by omega) (by omega)]
    have hr : F_X10_all R3 = some (Int64.ofNat (p0 + p1 + p2 + p3)) := by
      unfold F_X10_all
      rw [← a9 0 (by omega), ← a9 1 (by omega), ← a9 2 (by omega), ← a9 3 (by omega), q0, q1, q2, q3, all_nat (by omega) (by omega) (by omega) (by omega)]
    obtain ⟨w, w1, w2, w3, w4⟩ : ∃ w, 1 ≤ w ∧ w ≤ 12 ^ 12 ∧ C2.2 56 k = Int64.ofNat w ∧ w ≤ p0 + p1 + p2 + p3 := by
      rcases (show k = 0 ∨ k = 1 ∨ k = 2 ∨ k = 3 by omega) with rfl | rfl | rfl | rfl
      · exact ⟨p0, l0, u0, q0, by omega⟩
      · exact ⟨p1, l1, u1, q1, by omega⟩
      · exact ⟨p2, l2, u2, q2, by omega⟩
      · exact ⟨p3, l3, u3, q3, by omega⟩
    generalize hS : p0 + p1 + p2 + p3 = S at *
    have hS1 : S < 2 ^ 60 := by omega
    have hw1 : w < 2 ^ 60 := by omega
    have hg0 : 0 < Nat.gcd S w := Nat.gcd_pos_of_pos_right S (by omega)
    have hg1 : Nat.gcd S w ≤ w := Nat.gcd_le_right S (by omega)
    -- the first turn swaps them
    have hC : ∀ K : Int32 → Int32 → Int64 → Option Int64, F_X3_cleared_16 K eFuel C2 (nI k) x2 (Int64.ofNat w) (Int64.ofNat S) 0 = K (nI k) x2 (Int64.ofNat (Nat.gcd S w)) := by
      intro K
      obtain ⟨f, hf⟩ : ∃ f, eFuel = f + 1 := ⟨eFuel - 1, by unfold eFuel; omega⟩
      have hf2 : 200 < f := by unfold eFuel at hf; omega
      by_cases e : w = S
      · subst e
        have := gcdC K C2 (nI k) x2 120 w w (Nat.le_refl _) (by omega) (gcd_bound hw1 hw1) 0 eFuel (by omega) (by omega)
        rw [show nI 0 = 0 from rfl] at this
        exact this
      · rw [hf, F_X3_cleared_16, if_pos (by decide), if_pos ((o64_pos (by omega)).mpr (by omega)), if_neg (fun e => by have := (o64_zero (by omega)).mp e; omega), o64_mod (by omega) (by omega), Nat.mod_eq_of_lt (by omega)]
        exact gcdC K C2 (nI k) x2 120 S w w4 (by omega) (gcd_bound hS1 hw1) 1 f (by omega) (by omega)
    have hR : F_X10_common (Int64.ofNat w) (Int64.ofNat S) = some (Int64.ofNat (Nat.gcd S w)) := by
      unfold F_X10_common
      obtain ⟨f, hf⟩ : ∃ f, eFuel = f + 1 := ⟨eFuel - 1, by unfold eFuel; omega⟩
      have hf2 : 200 < f := by unfold eFuel at hf; omega
      by_cases e : w = S
      · subst e
        exact gcdR 120 w w (Nat.le_refl _) (by omega) (gcd_bound hw1 hw1) eFuel (by omega)
      · rw [hf, F_X10_common_6, if_neg (fun e => by rw [lg_cmp_eq] at e; have := (o64_zero (by omega)).mp e; omega), if_neg (fun e => by have := (o64_zero (by omega)).mp e; omega), o64_mod (by omega) (by omega), Nat.mod_eq_of_lt (by omega)]
        exact gcdR 120 S w w4 (by omega) (gcd_bound hS1 hw1) f (by omega)
    have hm : eMaxL 1 (Int64.ofNat (Nat.gcd S w)) = Int64.ofNat (Nat.gcd S w) := by
      unfold eMaxL
      by_cases q : Int64.ofNat (Nat.gcd S w) < 1
      · rw [Int64.lt_iff_toInt_lt, lg_ofNat_toInt (by omega), show (1 : Int64).toInt = 1 from rfl] at q
        omega
      · rw [if_neg q]
    have hz : ¬ Int64.ofNat (Nat.gcd S w) = 0 := fun e => by have := (o64_zero (by omega)).mp e; omega
    unfold F_X3_cleared F_X10_likelyOf
    rw [eIn_s hk (by omega), cl (by omega), hs, hr, w3]
    simp only [eG_tt, bS]
    rw [hC, ← a9 k hk, w3, hR]
    simp only [bS]
    rw [hm]
    by_cases q : x2 = 0
    · rw [if_pos q, if_pos q, if_neg hz, if_neg hz, eIn_s hk (by omega), cl (by omega), w3]
      simp only [eG_tt, bS]
      exact stepI rfl a5
    · rw [if_neg q, if_neg q, if_neg hz]
      simp only [bS]
      exact stepI rfl a5
  · simp only [bS, i10, i00, ↓reduceIte]
    exact stfl1 h
