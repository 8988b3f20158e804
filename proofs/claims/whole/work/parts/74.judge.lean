/-! judge -/
theorem sums_both {C R : eMem} (hw : ∀ x, x < 4 → C.2 56 x = R.2 12 x) (hn : ∀ x, x < 4 → ∃ w, 1 ≤ w ∧ w ≤ 12 ^ 12 ∧ C.2 56 x = Int64.ofNat w) : ∃ S, F_X3_sum C = some S ∧ F_X10_all R = some S := by
  obtain ⟨p0, l0, u0, q0⟩ := hn 0 (by omega)
  obtain ⟨p1, l1, u1, q1⟩ := hn 1 (by omega)
  obtain ⟨p2, l2, u2, q2⟩ := hn 2 (by omega)
  obtain ⟨p3, l3, u3, q3⟩ := hn 3 (by omega)
  refine ⟨_, sum_C q0 q1 q2 q3, ?_⟩
  unfold F_X10_all
  rw [← hw 0 (by omega), ← hw 1 (by omega), ← hw 2 (by omega), ← hw 3 (by omega), q0, q1, q2, q3]
theorem likely_both {C R : eMem} (hw : ∀ x, x < 4 → C.2 56 x = R.2 12 x) (hn : ∀ x, x < 4 → ∃ w, 1 ≤ w ∧ w ≤ 12 ^ 12 ∧ C.2 56 x = Int64.ofNat w) {k : Nat} (hk : k < 4) (x2 : Int32) : ∃ v, F_X3_cleared (nI k) x2 C = some v ∧ F_X10_likelyOf (nI k) x2 R = some v := by
  obtain ⟨p0, l0, u0, q0⟩ := hn 0 (by omega)
  obtain ⟨p1, l1, u1, q1⟩ := hn 1 (by omega)
  obtain ⟨p2, l2, u2, q2⟩ := hn 2 (by omega)
  obtain ⟨p3, l3, u3, q3⟩ := hn 3 (by omega)
  have hB : (12 : Nat) ^ 12 < 2 ^ 58 := by decide
  have hs : F_X3_sum C = some (Int64.ofNat (p0 + p1 + p2 + p3)) := by
    rw [sum_C q0 q1 q2 q3, all_nat (by omega) (by omega) (by omega) (by omega)]
  have hr : F_X10_all R = some (Int64.ofNat (p0 + p1 + p2 + p3)) := by
    unfold F_X10_all
    rw [← hw 0 (by omega), ← hw 1 (by omega), ← hw 2 (by omega), ← hw 3 (by omega), q0, q1, q2, q3, all_nat (by omega) (by omega) (by omega) (by omega)]
  obtain ⟨w, w1, w2, w3, w4⟩ : ∃ w, 1 ≤ w ∧ w ≤ 12 ^ 12 ∧ C.2 56 k = Int64.ofNat w ∧ w ≤ p0 + p1 + p2 + p3 := by
    rcases (show k = 0 ∨ k = 1 ∨ k = 2 ∨ k = 3 by omega) with rfl | rfl | rfl | rfl
    · exact ⟨p0, l0, u0, q0, by omega⟩
    · exact ⟨p1, l1, u1, q1, by omega⟩
    · exact ⟨p2, l2, u2, q2, by omega⟩
    · exact ⟨p3, l3, u3, q3, by omega⟩
  generalize hS : p0 + p1 + p2 + p3 = S at *
  have hS1 : S < 2 ^ 60 := by omega
  have hw1 : w < 2 ^ 60 := by omega
  have hg0 : 0 < Nat.gcd S w := Nat.gcd_pos_of_pos_right S (by omega)
  have hg1 : Nat.gcd S w ≤ w := Nat.gcd_le_right S (by omega)
  -- the first turn swaps them
  have hC : ∀ K : Int32 → Int32 → Int64 → Option Int64, F_X3_cleared_16 K eFuel C (nI k) x2 (Int64.ofNat w) (Int64.ofNat S) 0 = K (nI k) x2 (Int64.ofNat (Nat.gcd S w)) := by
    intro K
    obtain ⟨f, hf⟩ : ∃ f, eFuel = f + 1 := ⟨eFuel - 1, by unfold eFuel; omega⟩
    have hf2 : 200 < f := by unfold eFuel at hf; omega
    by_cases e : w = S
    · subst e
      have := gcdC K C (nI k) x2 120 w w (Nat.le_refl _) (by omega) (gcd_bound hw1 hw1) 0 eFuel (by omega) (by omega)
      rw [show nI 0 = 0 from rfl] at this
      exact this
    · rw [hf, F_X3_cleared_16, if_pos (by decide), if_pos ((o64_pos (by omega)).mpr (by omega)), if_neg (fun e => by have := (o64_zero (by omega)).mp e; omega), o64_mod (by omega) (by omega), Nat.mod_eq_of_lt (by omega)]
      exact gcdC K C (nI k) x2 120 S w w4 (by omega) (gcd_bound hS1 hw1) 1 f (by omega) (by omega)
  have hR : F_X10_common (Int64.ofNat w) (Int64.ofNat S) = some (Int64.ofNat (Nat.gcd S w)) := by
    unfold F_X10_common
    obtain ⟨f, hf⟩ : ∃ f, eFuel = f + 1 := ⟨eFuel - 1, by unfold eFuel; omega⟩
    have hf2 : 200 < f := by unfold eFuel at hf; omega
    by_cases e : w = S
    · subst e
      exact gcdR 120 w w (Nat.le_refl _) (by omega) (gcd_bound hw1 hw1) eFuel (by omega)
    · rw [hf, F_X10_common_6, if_neg (fun e => by rw [lg_cmp_eq] at e; have := (o64_zero (by omega)).mp e; omega), if_neg (fun e => by have := (o64_zero (by omega)).mp e; omega), o64_mod (by omega) (by omega), Nat.mod_eq_of_lt (by omega)]
      exact gcdR 120 S w w4 (by omega) (gcd_bound hS1 hw1) f (by omega)
  have hm : eMaxL 1 (Int64.ofNat (Nat.gcd S w)) = Int64.ofNat (Nat.gcd S w) := by
    unfold eMaxL
    by_cases q : Int64.ofNat (Nat.gcd S w) < 1
    · rw [Int64.lt_iff_toInt_lt, lg_ofNat_toInt (by omega), show (1 : Int64).toInt = 1 from rfl] at q
      omega
    · rw [if_neg q]
  have hz : ¬ Int64.ofNat (Nat.gcd S w) = 0 := fun e => by have := (o64_zero (by omega)).mp e; omega
  unfold F_X3_cleared F_X10_likelyOf
  rw [eIn_s hk (by omega), cl (by omega), hs, hr, w3]
  simp only [eG_tt, bS]
  rw [hC, ← hw k hk, w3, hR]
  simp only [bS]
  rw [hm]
  by_cases q : x2 = 0
  · rw [if_pos q, if_pos q, if_neg hz, if_neg hz, eIn_s hk (by omega), cl (by omega), w3]
    simp only [eG_tt, bS]
    exact ⟨_, rfl, rfl⟩
  · rw [if_neg q, if_neg q, if_neg hz]
    exact ⟨_, rfl, rfl⟩
theorem nI9 {p : Nat} (hp : p < 2147483648) : 9 < nI p ↔ 9 < p := gt_lit (n := 9) rfl hp |>.trans (by omega)
theorem st_judge {C R : eMem} (h : Rel C R) (x1 x2 x3 : Int32) : Step (F_X9_judge x1 x2 x3 C) (F_X10_judge x1 x2 x3 R) := by
  obtain ⟨wSc, wGr, wRo, wUn, wPl, wHe, wSh, wRe, wFl, wLi, wBo, wTx, wTc, wz, i1, i2, i3, i4, i5, i6⟩ := id h.1; obtain ⟨c0, c1, c2, c3, c4, c5, c6, c7, c8, c9, c10, c11, c12, c13⟩ := id wSc; obtain ⟨⟨z0, y0⟩, ⟨f5, g5, y5, z5⟩, ⟨t6, y6, z6⟩, ⟨z7, y7⟩, ⟨z8, y8⟩, ⟨z9, y9⟩, ⟨z10, y10⟩, ⟨z11, y11⟩, ⟨z12, y12⟩, ⟨z13, y13⟩⟩ := id i1
  unfold F_X9_judge F_X10_judge
  rw [isStory_eq]
  rcases rng x1 4 3 4 rfl rfl with ⟨k, hk, rfl, e1, e2⟩ | ⟨e1, e2⟩ <;> rw [e1, e2]
  · simp only [bS, i10, ↓reduceIte]
    rcases set_both h.1 x2 with ⟨w, rfl, w1, w2, w3, w4⟩ | ⟨w3, w4⟩ <;> rw [w3, w4]
    · simp only [bS, i10, ↓reduceIte]
      rw [bc_eq w2, ones_eq (by omega)]
      simp only [bS]
      have hpc := pcn_le w 20
      by_cases q : 9 < pcn w 20
      · rw [if_pos ((nI9 (by omega)).mpr q), if_pos ((nI9 (by omega)).mpr q)]
        exact stfl7 h
      · rw [if_neg (fun e => q ((nI9 (by omega)).mp e)), if_neg (fun e => q ((nI9 (by omega)).mp e)), c0, z0]
        obtain ⟨C2, hC2⟩ : ∃ C2, F_X8_scalesAt (nI (hr (R.1 1))) C = some C2 := by
          obtain ⟨C2, R2, n, a1, -⟩ := desk_fb h (hr (R.1 1))
          exact ⟨C2, a1⟩
        obtain ⟨M3, R2, R3, R4, a1, a2, a3, a4, a5, a6, a7, a8, a9, a10, a11⟩ := given_both h hC2 rfl (fun _ _ => rfl) w1 w2 (by omega)
        rw [hC2, a4]
        simp only [bS]
        rw [a7, z0, a1, a5]
        simp only [bS]
        rw [a6]
        simp only [bS]
        obtain ⟨v, v1, v2⟩ := likely_both a10 a11 hk x3
        rw [v1, v2]
        refine stepI rfl (fr_Rel h ?_ a8)
        intro p p1 p2
        rw [a2]
        exact a9 p p1 p2
    · simp only [bS, i10, i00, ↓reduceIte]
      exact stfl1 h
  · simp only [bS, i10, i00, ↓reduceIte]
    exact stfl1 h
/-! plan: what a set needs -/
theorem lasts_loop {C R : eMem} (hW : RelW C.1 (R.1 1)) {w : Nat} (hw : w < 2147483648) (x3 x4 : Int32) (K : Int32 → Int32 → Int32 → Int32 → Option Int32) : ∀ m j, j + m = nS (R.1 1) → ∀ f1 f2 f3, m < f1 → m < f2 → m < f3 → ∀ a b : Int32, ∃ a' b', F_X5_needsOf_4 f1 C (nI w) a (nI j) = some a' ∧ F_X5_pricesOf_4 f2 C (nI w) b (nI j) = some b' ∧ F_X10_lasts_9 K f3 R (nI w) x3 x4 a b (nI j) = K x3 x4 a' b' ∧ (w = 0 → a' = a ∧ b' = b) := by
  obtain ⟨wSc, -, -, -, -, -, -, -, -, -, -, -, -, -, i1, -⟩ := id hW
  obtain ⟨-, -, -, -, -, ⟨z9, y9⟩, -⟩ := id i1
  have c9 := wSc.2.2.2.2.2.2.2.2.2.1
  intro m
  induction m with
  | zero =>
    intro j hj f1 f2 f3 h1 h2 h3 a b
    obtain ⟨f1, rfl⟩ : ∃ x, f1 = x + 1 := ⟨f1 - 1, by omega⟩
    obtain ⟨f2, rfl⟩ : ∃ x, f2 = x + 1 := ⟨f2 - 1, by omega⟩
    obtain ⟨f3, rfl⟩ : ∃ x, f3 = x + 1 := ⟨f3 - 1, by omega⟩
    rw [F_X5_needsOf_4, F_X5_pricesOf_4, F_X10_lasts_9, c9, z9, if_neg (nI_nlt (by omega) (by omega)), if_neg (nI_nlt (by omega) (by omega)), if_neg (nI_nlt (by omega) (by omega))]
    exact ⟨a, b, rfl, rfl, rfl, fun _ => ⟨rfl, rfl⟩⟩
  | succ m ih =>
    intro j hj f1 f2 f3 h1 h2 h3 a b
    obtain ⟨f1, rfl⟩ : ∃ x, f1 = x + 1 := ⟨f1 - 1, by omega⟩
    obtain ⟨f2, rfl⟩ : ∃ x, f2 = x + 1 := ⟨f2 - 1, by omega⟩
    obtain ⟨f3, rfl⟩ : ∃ x, f3 = x + 1 := ⟨f3 - 1, by omega⟩
    obtain ⟨u, -, u1, u2⟩ := need_eq hW (k := j) (by omega)
    obtain ⟨v, v1, v2⟩ := price_eq hW (k := j) (by omega)
    have hn := fun a b => ih (j + 1) (by omega) f1 f2 f3 (by omega) (by omega) (by omega) a b
    rw [F_X5_needsOf_4, F_X5_pricesOf_4, F_X10_lasts_9, c9, z9, if_pos (nI_lt (by omega) (by omega)), if_pos (nI_lt (by omega) (by omega)), if_pos (nI_lt (by omega) (by omega))]
    unfold F_X10_lasts_43
    rw [bit_n hw (by omega), u1, u2, v1, v2]
    simp only [bS]
    rw [Rad_1]
    by_cases q : w.testBit j = true
    · rw [if_pos q, if_neg (by decide), if_neg (by decide), if_pos rfl, if_pos rfl]
      obtain ⟨a', b', n1, n2, n3, -⟩ := hn (a + nI u) (b + v)
      exact ⟨a', b', n1, n2, n3, fun e => by subst e; rw [Nat.zero_testBit] at q; cases q⟩
    · rw [if_neg q, if_pos rfl, if_pos rfl, if_neg (by decide), if_neg (by decide), show a + 0 = a from Int32.add_zero a, show b + 0 = b from Int32.add_zero b]
      exact hn a b
theorem lasts_both {C R : eMem} (hW : RelW C.1 (R.1 1)) {w : Nat} (hw : w < 2147483648) (x3 x4 : Int32) : ∃ a b, F_X5_needsOf (nI w) C = some a ∧ F_X5_pricesOf (nI w) C = some b ∧ F_X10_lasts (nI w) x3 x4 R = (if x3 < a then some 0 else if x4 < b then some 0 else some 1) ∧ (w = 0 → a = 0 ∧ b = 0) := by
  have y9 : nS (R.1 1) ≤ 20 := hW.2.2.2.2.2.2.2.2.2.2.2.2.2.2.1.2.2.2.2.2.1.2
  obtain ⟨a, b, n1, n2, n3, n4⟩ := lasts_loop hW hw x3 x4 (fun v2 v3 v4 v5 => if v2 < v4 then some 0 else if v3 < v5 then some 0 else some 1) (nS (R.1 1)) 0 (by omega) eFuel eFuel eFuel (by unfold eFuel; omega) (by unfold eFuel; omega) (by unfold eFuel; omega) 0 0
  exact ⟨a, b, n1, n2, n3, n4⟩
/-! the subsets of a set, one behind the other: d is what is left out -/
theorem not_and_add (x s : Int32) : (~~~x &&& s) + (x &&& s) = s := by
  rw [← Int32.toBitVec_inj, Int32.toBitVec_add, Int32.toBitVec_and, Int32.toBitVec_and, Int32.toBitVec_not]
  rw [BitVec.add_eq_or_of_and_eq_zero]
  · apply BitVec.eq_of_getLsbD_eq
    intro i hi
    rw [BitVec.getLsbD_or, BitVec.getLsbD_and, BitVec.getLsbD_and, BitVec.getLsbD_not]
    cases x.toBitVec.getLsbD i <;> cases s.toBitVec.getLsbD i <;> simp [hi]
  · apply BitVec.eq_of_getLsbD_eq
    intro i hi
    rw [BitVec.getLsbD_and, BitVec.getLsbD_and, BitVec.getLsbD_and, BitVec.getLsbD_not, BitVec.getLsbD_zero]
    cases x.toBitVec.getLsbD i <;> cases s.toBitVec.getLsbD i <;> simp
theorem sub_next {set d : Nat} (hs : set < 2147483648) (h1 : 0 < d) (h2 : d ≤ set) : (nI (set - d) - nI set) &&& nI set = nI (set - ((d - 1) &&& set)) := by
  have e1 : nI (set - d) - nI set = ~~~(nI (d - 1)) := by
    rw [← Int32.toInt_inj, Int32.toInt_sub, Int32.toInt_not, nI_toInt (by omega), nI_toInt (by omega), nI_toInt (by omega), Int.bmod_def, Int.bmod_def]
    omega
  have hle : (d - 1) &&& set ≤ set := Nat.and_le_right
  have e2 := not_and_add (nI (d - 1)) (nI set)
  rw [and_n _ _ (by omega) (by omega)] at e2
  rw [e1, ← nI_sub hle, ← e2, Int32.add_sub_cancel, e2]
theorem sub_last (set : Nat) : (nI set - nI set) &&& nI set = 0 := by
  rw [Int32.sub_self, Int32.zero_and]
def rk : Nat → Nat → Nat → Nat
  | 0, _, _ => 0
  | n + 1, s, d => if s % 2 = 1 then 2 * rk n (s / 2) (d / 2) + d % 2 else rk n (s / 2) (d / 2)
theorem rk_dec : ∀ n s d, s < 2 ^ n → d &&& s = d → 0 < d → rk n s ((d - 1) &&& s) + 1 = rk n s d := by
  intro n
  induction n with
  | zero =>
    intro s d hs hd h0
    have : s = 0 := by rw [Nat.pow_zero] at hs; omega
    subst this
    rw [Nat.and_zero] at hd
    omega
  | succ n ih =>
    intro s d hs hd h0
    obtain ⟨b, t, hb, rfl⟩ : ∃ b t, b < 2 ∧ s = b + 2 ^ 1 * t := ⟨s % 2, s / 2, by omega, by omega⟩
    obtain ⟨c, e, hc, rfl⟩ : ∃ c e, c < 2 ∧ d = c + 2 ^ 1 * e := ⟨d % 2, d / 2, by omega, by omega⟩
    rw [and_split (k := 1) (by omega) (by omega)] at hd
    have hcb : c &&& b < 2 := Nat.lt_of_le_of_lt Nat.and_le_left hc
    have ht : t < 2 ^ n := by rw [Nat.pow_succ] at hs; omega
    have hd1 : c &&& b = c := by omega
    have hd2 : e &&& t = e := by omega
    rcases (show c = 0 ∨ c = 1 by omega) with rfl | rfl
    · have he : 0 < e := by omega
      have i1 := ih t e ht hd2 he
      rw [show 0 + 2 ^ 1 * e - 1 = 1 + 2 ^ 1 * (e - 1) by omega, and_split (k := 1) (by omega) (by omega), rk, rk]
      have hb1 : 1 &&& b < 2 := Nat.lt_of_le_of_lt Nat.and_le_left (by omega)
      rw [show (b + 2 ^ 1 * t) % 2 = b by omega, show (b + 2 ^ 1 * t) / 2 = t by omega, show (0 + 2 ^ 1 * e) / 2 = e by omega, show (0 + 2 ^ 1 * e) % 2 = 0 by omega, show ((1 &&& b) + 2 ^ 1 * (e - 1 &&& t)) / 2 = (e - 1 &&& t) by omega, show ((1 &&& b) + 2 ^ 1 * (e - 1 &&& t)) % 2 = (1 &&& b) by omega]
      rcases (show b = 0 ∨ b = 1 by omega) with rfl | rfl
      · rw [if_neg (by omega), if_neg (by omega)]; exact i1
      · rw [if_pos rfl, if_pos rfl, show (1 &&& 1 : Nat) = 1 from rfl]; omega
    · have hb1 : b = 1 := by
        rcases (show b = 0 ∨ b = 1 by omega) with rfl | rfl
        · rw [Nat.and_zero] at hd1; omega
        · rfl
      subst hb1
      rw [show 1 + 2 ^ 1 * e - 1 = 0 + 2 ^ 1 * e by omega, and_split (k := 1) (by omega) (by omega), hd2, rk, rk]
      rw [show (1 + 2 ^ 1 * t) % 2 = 1 by omega, show (1 + 2 ^ 1 * t) / 2 = t by omega, show (1 + 2 ^ 1 * e) / 2 = e by omega, show (1 + 2 ^ 1 * e) % 2 = 1 by omega, show (0 &&& 1 : Nat) = 0 from rfl, show (0 + 2 ^ 1 * e) / 2 = e by omega, show (0 + 2 ^ 1 * e) % 2 = 0 by omega, if_pos rfl, if_pos rfl]
theorem rk_lt : ∀ n s d, rk n s d < 2 ^ pcn s n := by
  intro n
  induction n with
  | zero => intro s d; rw [rk, pcn]; decide
  | succ n ih =>
    intro s d
    have h := pcn_add s 1 n
    rw [Nat.add_comm 1 n] at h
    have h1 : pcn s 1 = s % 2 := by
      rw [pcn, pcn, Nat.testBit_eq_decide_div_mod_eq, Nat.pow_zero, Nat.div_one, Nat.zero_add]
      by_cases q : s % 2 = 1
      · rw [if_pos (by simp [q]), q]
      · rw [if_neg (by simp [q])]; omega
    have i1 := ih (s / 2) (d / 2)
    rw [Nat.pow_one] at h
    rw [rk, h, h1, Nat.pow_add]
    by_cases q : s % 2 = 1
    · rw [if_pos q, q]; omega
    · rw [if_neg q, show s % 2 = 0 by omega]; omega
/-! plan -/
theorem plan_loop {C C2 R : eMem} (h : Rel C R) (hC2 : F_X8_scalesAt (nI (hr (R.1 1))) C = some C2) (hfr : frC C C2) {st set : Nat} (hst : st < 4) (hset : set < 2 ^ nS (R.1 1)) (hset2 : set < 1048576) (hpc : ∀ w, w ≤ set → w &&& set = w → pcn w 20 ≤ 9) (x3 x4 : Int32) :
    ∀ r d, rk 20 set d = r → d &&& set = d → ∀ f1 f2, r + 1 < f1 → r + 2 < f2 → ∀ (bb : Option Nat) (i : Nat) (W S : Int64) (M Rk : eMem), (match bb with | some b => b ≤ set | none => d = set ∧ W = 0 ∧ S = 1 ∧ ¬ x3 < 0 ∧ ¬ x4 < 0) → i + r < 512 → M.1 = C2.1 → (∀ q, q ≠ 56 → M.2 q = C2.2 q) → frR R Rk →
      ∃ v M2 R2, F_X8_planFor_37 (fun v5 M => some (v5, M)) f1 (nI st) (nI set) x3 x4 (nI (bb.getD 0)) W S (nI (set - d)) (nI i) M = some (v, M2) ∧ F_X10_plan_61 f2 (nI st) (nI set) x3 x4 (match bb with | some b => nI b | none => -1) W S (nI (set - d)) 1 Rk = some (v, R2) ∧ M2.1 = C2.1 ∧ frR R R2 := by
  intro r
  induction r using Nat.strongRecOn with
  | ind r ih =>
    intro d hrr hd f1 f2 h1 h2 bb i W S M Rk hbb hi hM1 hM2 hRk
    obtain ⟨f1, rfl⟩ : ∃ x, f1 = x + 1 := ⟨f1 - 1, by omega⟩
    obtain ⟨f2, rfl⟩ : ∃ x, f2 = x + 1 := ⟨f2 - 1, by omega⟩
    have hdle : d ≤ set := by rw [← hd]; exact Nat.and_le_right
    have hRk1 : Rk.1 1 = R.1 1 := hRk.1 1 (by omega)
    have hRelk : Rel C Rk := fr_Rel h (fun _ _ _ => rfl) hRk
    have hWC : RelW C2.1 (R.1 1) := by
      have hq := hfr
      unfold frC at hq
      refine h.1.agr ?_ (fun j _ => rfl)
      simp [Agr, hq]
    have hWM : RelW M.1 (Rk.1 1) := by rw [hM1, hRk1]; exact hWC
    have htail : ∀ (b : Nat) (W S : Int64) (M Rk : eMem), b ≤ set → M.1 = C2.1 → (∀ q, q ≠ 56 → M.2 q = C2.2 q) → frR R Rk →
        ∃ v M2 R2, F_X8_planFor_169 (fun v1 v2 v3 v4 v5 v6 v8 v10 v11 M => F_X8_planFor_37 (fun v5 M => some (v5, M)) f1 v1 v2 v3 v4 v5 v6 v8 v10 v11 M) (fun v5 M => some (v5, M)) (nI st) (nI set) x3 x4 (nI b) W S (nI (set - d)) (nI i) M = some (v, M2) ∧ F_X10_plan_173 (fun v1 v2 v3 v4 v5 v6 v8 v10 v11 M => F_X10_plan_61 f2 v1 v2 v3 v4 v5 v6 v8 v10 v11 M) (nI st) (nI set) x3 x4 (nI b) W S (nI (set - d)) Rk = some (v, R2) ∧ M2.1 = C2.1 ∧ frR R R2 := by
      intro b W S M Rk hb hM1 hM2 hRk
      unfold F_X8_planFor_169 F_X10_plan_173 F_X10_plan_184
      rcases Nat.eq_zero_or_pos d with q | q
      · subst q
        obtain ⟨f2, rfl⟩ : ∃ x, f2 = x + 1 := ⟨f2 - 1, by omega⟩
        rw [Nat.sub_zero, sub_last, if_pos rfl, if_pos rfl]
        simp only [F_X10_plan_61, ↓reduceIte]
        exact ⟨_, M, Rk, rfl, rfl, hM1, hRk⟩
      · have hand : (d - 1) &&& set ≤ d - 1 := Nat.and_le_left
        have hdec := rk_dec 20 set d (by omega) hd q
        rw [sub_next (by omega) q hdle, if_neg (nI_ne0 (by omega) (by omega)), if_neg (fun e => by have := (eqN (by omega) (by omega)).mp e; omega), Rad_1]
        exact ih (r - 1) (by omega) ((d - 1) &&& set) (by omega) (by rw [Nat.and_assoc, Nat.and_self]) f1 f2 (by omega) (by omega) (some b) (i + 1) W S M Rk hb (by omega) hM1 hM2 hRk
    have hsub : (set - d) &&& set = set - d := by
      have e2 := not_and_add (nI d) (nI set)
      rw [and_n _ _ (by omega) (by omega), hd] at e2
      have e3 : ~~~(nI d) &&& nI set = nI (set - d) := by
        rw [← nI_sub hdle, ← e2, Int32.add_sub_cancel, e2]
      have e4 : nI ((set - d) &&& set) = nI (set - d) := by
        rw [← and_n _ _ (by omega) (by omega), ← e3, Int32.and_assoc, Int32.and_self]
      have hle : (set - d) &&& set ≤ set := Nat.and_le_right
      exact (eqN (by omega) (by omega)).mp e4
    have hpw := hpc (set - d) (Nat.sub_le _ _) hsub
    obtain ⟨a, b, l1, l2, l3, l4⟩ := lasts_both hWM (w := set - d) (by omega) x3 x4
    rw [F_X8_planFor_37, F_X10_plan_61, if_pos ((lt_lit (n := 512) rfl (by omega)).mpr (by omega)), if_neg (show ¬ (1 : Int32) = 0 by decide), l1, l2, l3]
    simp only [bS]
    by_cases e3 : x3 < a
    · rw [if_pos e3, if_pos e3]
      simp only [bS, ↓reduceIte]
      cases bb with
      | none =>
        obtain ⟨q1, q2, q3, q4, q5⟩ := hbb
        rw [(l4 (by omega)).1] at e3
        exact absurd e3 q4
      | some b' => exact htail b' W S M Rk hbb hM1 hM2 hRk
    · rw [if_neg e3, if_neg e3]
      by_cases e4 : x4 < b
      · rw [if_pos e4, if_pos e4]
        simp only [bS, ↓reduceIte]
        cases bb with
        | none =>
          obtain ⟨q1, q2, q3, q4, q5⟩ := hbb
          rw [(l4 (by omega)).2] at e4
          exact absurd e4 q5
        | some b' => exact htail b' W S M Rk hbb hM1 hM2 hRk
      · rw [if_neg e4, if_neg e4]
        simp only [bS, i10, ↓reduceIte]
        obtain ⟨M3, R2, R3, R4, a1, a2, a3, a4, a5, a6, a7, a8, a9, a10, a11⟩ := given_both hRelk (C2 := C2) (M := M) (w := set - d) (by rw [hRk1]; exact hC2) hM1 hM2 (by rw [hRk1]; omega) (by omega) hpw
        have z0 : Rk.1 1 0 = nI (hr (Rk.1 1)) := hRelk.1.2.2.2.2.2.2.2.2.2.2.2.2.2.2.1.1.1
        have hbl : bb.getD 0 ≤ set := by
          cases bb with
          | none => exact Nat.zero_le _
          | some b' => exact hbb
        rw [a1, z0, a4]
        simp only [bS]
        rw [a7, z0, a5]
        simp only [bS]
        rw [a6]
        simp only [bS]
        obtain ⟨SS, s1, s2⟩ := sums_both a10 a11
        rw [eIn_s hst (by omega), cl (show st < 2147483648 by omega), s1, s2]
        simp only [eG_tt, bS]
        rw [bc_eq (w := set - d) (by omega), bc_eq (w := bb.getD 0) (by omega), ones_eq (w := set - d) (by omega)]
        simp only [bS]
        rw [a10 st hst]
        have hR4 : frR R R4 := hRk.tr a8
        have hupd := htail (set - d) (R4.2 12 st) SS M3 R4 (Nat.sub_le _ _) a2 a3 hR4
        have h155 : F_X10_plan_155 (fun v1 v2 v3 v4 v5 v6 v8 v10 v11 M => F_X10_plan_61 f2 v1 v2 v3 v4 v5 v6 v8 v10 v11 M) (nI st) (nI set) x3 x4 (nI (set - d)) R4 = F_X10_plan_173 (fun v1 v2 v3 v4 v5 v6 v8 v10 v11 M => F_X10_plan_61 f2 v1 v2 v3 v4 v5 v6 v8 v10 v11 M) (nI st) (nI set) x3 x4 (nI (set - d)) (R4.2 12 st) SS (nI (set - d)) R4 := by
          unfold F_X10_plan_155
          rw [eIn_s hst (by omega), cl (show st < 2147483648 by omega), s2]
          simp only [eG_tt, bS]
        rw [h155]
        unfold F_X8_planFor_136 F_X8_planFor_157
        cases bb with
        | none =>
          obtain ⟨q1, q2, q3, q4, q5⟩ := hbb
          subst q2 q3
          obtain ⟨u, u1, u2, u3⟩ := a11 st hst
          have hpos : 0 < lg_cmp (R4.2 12 st * 1 - 0 * SS) 0 := by
            rw [Int64.mul_one, Int64.zero_mul, Int64.sub_zero, ← a10 st hst, u3]
            exact (o64_pos (by omega)).mpr (by omega)
          simp only [if_pos hpos, ite_self, if_pos (show (-1 : Int32) < 0 by decide)]
          exact hupd
        | some b' =>
          have hkeep := htail b' W S M3 R4 hbb a2 a3 hR4
          have hbl2 : b' ≤ set := hbl
          simp only [Option.getD_some]
          rw [if_neg (nI_pos (by omega)), ones_eq (w := b') (by omega)]
          simp only [bS]
          by_cases c1 : 0 < lg_cmp (R4.2 12 st * S - W * SS) 0
          · simp only [if_pos c1, ite_self]
            exact hupd
          · simp only [if_neg c1]
            by_cases c2 : lg_cmp (R4.2 12 st * S - W * SS) 0 = 0
            · simp only [if_pos c2]
              by_cases c3 : nI (pcn (set - d) 20) < nI (pcn b' 20)
              · simp only [if_pos c3, i10, ↓reduceIte]
                exact hupd
              · simp only [if_neg c3, ↓reduceIte]
                exact hkeep
            · simp only [if_neg c2, ite_self]
              exact hkeep
theorem pcn_mono {w set : Nat} (h : w &&& set = w) : ∀ k, pcn w k ≤ pcn set k := by
  intro k
  induction k with
  | zero => exact Nat.le_refl _
  | succ k ih =>
    rw [pcn, pcn]
    have e : w.testBit k = (w.testBit k && set.testBit k) := by rw [← Nat.testBit_and, h]
    by_cases q : w.testBit k = true
    · rw [q, Bool.true_and] at e
      rw [if_pos q, if_pos e.symm]; omega
    · rw [if_neg q]; split <;> omega
theorem st_plan {C R : eMem} (h : Rel C R) (x1 x2 x3 x4 : Int32) : Step (F_X9_plan x1 x2 x3 x4 C) (F_X10_plan x1 x2 x3 x4 R) := by
  obtain ⟨wSc, wGr, wRo, wUn, wPl, wHe, wSh, wRe, wFl, wLi, wBo, wTx, wTc, wz, i1, i2, i3, i4, i5, i6⟩ := id h.1; obtain ⟨c0, c1, c2, c3, c4, c5, c6, c7, c8, c9, c10, c11, c12, c13⟩ := id wSc; obtain ⟨⟨z0, y0⟩, ⟨f5, g5, y5, z5⟩, ⟨t6, y6, z6⟩, ⟨z7, y7⟩, ⟨z8, y8⟩, ⟨z9, y9⟩, ⟨z10, y10⟩, ⟨z11, y11⟩, ⟨z12, y12⟩, ⟨z13, y13⟩⟩ := id i1
  unfold F_X9_plan F_X10_plan
  rw [isStory_eq]
  rcases rng x1 4 3 4 rfl rfl with ⟨k, hk, rfl, e1, e2⟩ | ⟨e1, e2⟩ <;> rw [e1, e2]
  · simp only [bS, i10, ↓reduceIte]
    rcases set_both h.1 x2 with ⟨w, rfl, w1, w2, w3, w4⟩ | ⟨w3, w4⟩ <;> rw [w3, w4]
    · simp only [bS, i10, ↓reduceIte]
      by_cases h3 : x3 < 0
      · rw [if_pos h3, if_pos h3]; exact stf1 h
      · rw [if_neg h3, if_neg h3]
        by_cases h4 : x4 < 0
        · rw [if_pos h4, if_pos h4]; exact stf1 h
        · rw [if_neg h4, if_neg h4, bc_eq w2, ones_eq (by omega)]
          simp only [bS]
          have hpc := pcn_le w 20
          by_cases q : 9 < pcn w 20
          · rw [if_pos ((nI9 (by omega)).mpr q), if_pos ((nI9 (by omega)).mpr q)]
            exact stf7 h
          · rw [if_neg (fun e => q ((nI9 (by omega)).mp e)), if_neg (fun e => q ((nI9 (by omega)).mp e))]
            unfold F_X8_planFor
            obtain ⟨C2, R2, n, a1, a2, a3, a4, -⟩ := desk_fb h (hr (R.1 1))
            have a1' := a1
            rw [scales_load] at a1'
            rw [c0, z0, a1']
            simp only [bS]
            have hrk := rk_lt 20 w w
            have hp9 : 2 ^ pcn w 20 ≤ 2 ^ 9 := Nat.pow_le_pow_right (by omega) (by omega)
            obtain ⟨v, M2, R3, b1, b2, b3, b4⟩ := plan_loop h a1 a4 hk w1 w2 (fun u u1 u2 => Nat.le_trans (pcn_mono u2 20) (by omega)) x3 x4 (rk 20 w w) w rfl (Nat.and_self w) eFuel eFuel (by unfold eFuel; omega) (by unfold eFuel; omega) none 0 0 1 C2 R ⟨rfl, rfl, rfl, h3, h4⟩ (by omega) rfl (fun _ _ => rfl) frR.rf
            rw [Nat.sub_self, show nI 0 = 0 from rfl] at b1 b2
            simp only [Option.getD_none] at b1
            rw [show nI 0 = 0 from rfl] at b1
            rw [b1, b2]
            refine stepI rfl (fr_Rel h ?_ b4)
            intro p p1 p2
            rw [b3]
            exact a4 p p1 p2
    · simp only [bS, i10, i00, ↓reduceIte]
      exact stf1 h
  · simp only [bS, i10, i00, ↓reduceIte]
    exact stf1 h
