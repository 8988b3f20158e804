/-! how many bits a set has -/
def pcn (w : Nat) : Nat → Nat
  | 0 => 0
  | k + 1 => pcn w k + (if w.testBit k = true then 1 else 0)
theorem pcn_le (w : Nat) : ∀ k, pcn w k ≤ k := by
  intro k
  induction k with
  | zero => exact Nat.le_refl _
  | succ k ih => rw [pcn]; split <;> omega
theorem pcn_out {w n : Nat} (hw : w < 2 ^ n) : ∀ m, pcn w (n + m) = pcn w n := by
  intro m
  induction m with
  | zero => rfl
  | succ m ih => rw [← Nat.add_assoc, pcn, tb_out hw (by omega), ih]; rfl
theorem pcn_add (w a : Nat) : ∀ b, pcn w (a + b) = pcn w a + pcn (w / 2 ^ a) b := by
  intro b
  induction b with
  | zero => rfl
  | succ b ih => rw [← Nat.add_assoc, pcn, pcn, ih, Nat.testBit_div_two_pow, Nat.add_comm b a, Nat.add_assoc]
theorem pcn_cg {w v : Nat} : ∀ k, (∀ i, i < k → w.testBit i = v.testBit i) → pcn w k = pcn v k := by
  intro k
  induction k with
  | zero => intro _; rfl
  | succ k ih => intro h; rw [pcn, pcn, ih (fun i hi => h i (by omega)), h k (by omega)]
theorem pcn_mod (w k : Nat) : pcn (w % 2 ^ k) k = pcn w k := pcn_cg k (fun i hi => by rw [Nat.testBit_mod_two_pow, decide_eq_true hi, Bool.true_and])
theorem ones_R {w : Nat} (hw : w < 2147483648) : ∀ m j, j + m = 20 → ∀ f, m < f → F_X10_ones_4 f (nI w) (nI (pcn w j)) (nI j) = some (nI (pcn w 20)) := by
  intro m
  induction m with
  | zero =>
    intro j hj f hf
    obtain ⟨f, rfl⟩ : ∃ x, f = x + 1 := ⟨f - 1, by omega⟩
    have e : j = 20 := by omega
    subst e
    rw [F_X10_ones_4, if_neg (by decide)]
  | succ m ih =>
    intro j hj f hf
    obtain ⟨f, rfl⟩ : ∃ x, f = x + 1 := ⟨f - 1, by omega⟩
    rw [F_X10_ones_4, if_pos ((lt_lit (n := 20) rfl (by omega)).mpr (by omega)), bit_n hw (by omega), Rad_1]
    have := ih (j + 1) (by omega) f (by omega)
    rw [pcn] at this
    by_cases q : w.testBit j = true
    · rw [if_pos q] at this ⊢
      rw [Rad_1]; exact this
    · rw [if_neg q] at this ⊢
      rw [show nI (pcn w j) + 0 = nI (pcn w j) from Int32.add_zero _]; exact this
theorem ones_eq {w : Nat} (hw : w < 2147483648) : F_X10_ones (nI w) = some (nI (pcn w 20)) := ones_R hw 20 0 rfl eFuel (by unfold eFuel; omega)
/-! the class's count, byte by byte -/
theorem and_split {a b y m k : Nat} (ha : a < 2 ^ k) (hb : b < 2 ^ k) : (a + 2 ^ k * y) &&& (b + 2 ^ k * m) = (a &&& b) + 2 ^ k * (y &&& m) := by
  have hab : a &&& b < 2 ^ k := Nat.lt_of_le_of_lt Nat.and_le_left ha
  apply Nat.eq_of_testBit_eq
  intro i
  rw [Nat.testBit_and, Nat.add_comm a, Nat.add_comm b, Nat.add_comm (a &&& b)]
  rw [Nat.testBit_two_pow_mul_add _ ha, Nat.testBit_two_pow_mul_add _ hb, Nat.testBit_two_pow_mul_add _ hab]
  split
  · rw [Nat.testBit_and]
  · rw [Nat.testBit_and]
def cA (M x : Nat) : Nat := x - (x / 2 &&& M)
def cB (M x : Nat) : Nat := (x &&& M) + (x / 4 &&& M)
def cC (M x : Nat) : Nat := (x + x / 16) &&& M
theorem cA_split (l h M : Nat) (hl : l < 256) : cA (85 + 256 * M) (l + 256 * h) = cA 85 l + 256 * cA M h := by
  have hd : ∀ l, l < 256 → ∀ b, b < 2 → (l / 2 + 128 * b) &&& 85 = l / 2 &&& 85 := by decide +kernel
  have e : (l + 256 * h) / 2 = (l / 2 + 128 * (h % 2)) + 2 ^ 8 * (h / 2) := by omega
  have s := and_split (a := l / 2 + 128 * (h % 2)) (b := 85) (y := h / 2) (m := M) (k := 8) (by omega) (by omega)
  have h1 : l / 2 &&& 85 ≤ l / 2 := Nat.and_le_left
  have h2 : h / 2 &&& M ≤ h / 2 := Nat.and_le_left
  unfold cA
  rw [e, show 85 + 256 * M = 85 + 2 ^ 8 * M by omega, s, hd l hl (h % 2) (by omega)]
  omega
theorem cB_split (l h M : Nat) (hl : l < 256) : cB (51 + 256 * M) (l + 256 * h) = cB 51 l + 256 * cB M h := by
  have hd : ∀ l, l < 256 → ∀ b, b < 4 → (l / 4 + 64 * b) &&& 51 = l / 4 &&& 51 := by decide +kernel
  have e : (l + 256 * h) / 4 = (l / 4 + 64 * (h % 4)) + 2 ^ 8 * (h / 4) := by omega
  have s := and_split (a := l / 4 + 64 * (h % 4)) (b := 51) (y := h / 4) (m := M) (k := 8) (by omega) (by omega)
  have s2 := and_split (a := l) (b := 51) (y := h) (m := M) (k := 8) (by omega) (by omega)
  unfold cB
  rw [e, show 51 + 256 * M = 51 + 2 ^ 8 * M by omega, s, hd l hl (h % 4) (by omega), show l + 256 * h = l + 2 ^ 8 * h by omega, s2]
  omega
theorem cC_split (l h M : Nat) (hl : l ≤ 68) (hh : h % 16 ≤ 4) : cC (15 + 256 * M) (l + 256 * h) = cC 15 l + 256 * cC M h := by
  have hd : ∀ l, l ≤ 68 → ∀ b, b ≤ 4 → (l + l / 16 + 16 * b) &&& 15 = (l + l / 16) &&& 15 := by decide +kernel
  have e : (l + 256 * h) + (l + 256 * h) / 16 = (l + l / 16 + 16 * (h % 16)) + 2 ^ 8 * (h + h / 16) := by omega
  have s := and_split (a := l + l / 16 + 16 * (h % 16)) (b := 15) (y := h + h / 16) (m := M) (k := 8) (by omega) (by omega)
  unfold cC
  rw [e, show 15 + 256 * M = 15 + 2 ^ 8 * M by omega, s, hd l hl (h % 16) hh]
def bcN (w : Nat) : Nat :=
  let x := cC 252645135 (cB 858993459 (cA 1431655765 w))
  ((x + x / 256) + (x + x / 256) / 65536) % 64
theorem byte_ok : ∀ v, v < 256 → cA 85 v < 256 ∧ cB 51 (cA 85 v) ≤ 68 ∧ cB 51 (cA 85 v) % 16 ≤ 4 ∧ cC 15 (cB 51 (cA 85 v)) = pcn v 8 := by decide +kernel
theorem bcN_eq {w : Nat} (hw : w < 1048576) : bcN w = pcn w 20 := by
  obtain ⟨a, b, c, ha, hb, hc, e⟩ : ∃ a b c, a < 256 ∧ b < 256 ∧ c < 16 ∧ w = a + 256 * (b + 256 * c) := ⟨w % 256, w / 256 % 256, w / 65536, by omega, by omega, by omega, by omega⟩
  obtain ⟨a1, a2, a3, a4⟩ := byte_ok a ha
  obtain ⟨b1, b2, b3, b4⟩ := byte_ok b hb
  obtain ⟨c1, c2, c3, c4⟩ := byte_ok c (by omega)
  have hc16 : ∀ c, c < 16 → cA 21845 c = cA 85 c ∧ cB 13107 (cA 85 c) = cB 51 (cA 85 c) ∧ cC 3855 (cB 51 (cA 85 c)) = cC 15 (cB 51 (cA 85 c)) := by decide +kernel
  obtain ⟨d1, d2, d3⟩ := hc16 c hc
  have eA : cA 1431655765 w = cA 85 a + 256 * (cA 85 b + 256 * cA 85 c) := by
    rw [e, show 1431655765 = 85 + 256 * (85 + 256 * 21845) from rfl, cA_split a _ _ ha, cA_split b _ _ hb, d1]
  have eB : cB 858993459 (cA 1431655765 w) = cB 51 (cA 85 a) + 256 * (cB 51 (cA 85 b) + 256 * cB 51 (cA 85 c)) := by
    rw [eA, show 858993459 = 51 + 256 * (51 + 256 * 13107) from rfl, cB_split _ _ _ a1, cB_split _ _ _ b1, d2]
  have eC : cC 252645135 (cB 858993459 (cA 1431655765 w)) = pcn a 8 + 256 * (pcn b 8 + 256 * pcn c 8) := by
    rw [eB, show 252645135 = 15 + 256 * (15 + 256 * 3855) from rfl, cC_split _ _ _ a2 (by omega), cC_split _ _ _ b2 (by omega), d3, a4, b4, c4]
  have l1 := pcn_le a 8
  have l2 := pcn_le b 8
  have l3 := pcn_le c 8
  have ew : pcn w 20 = pcn a 8 + pcn b 8 + pcn c 4 := by
    have p1 := pcn_add w 8 12
    have p2 := pcn_add (w / 2 ^ 8) 8 4
    have p3 := pcn_mod w 8
    have p4 := pcn_mod (w / 2 ^ 8) 8
    rw [show w % 2 ^ 8 = a by omega] at p3
    rw [show w / 2 ^ 8 % 2 ^ 8 = b by omega] at p4
    rw [show w / 2 ^ 8 / 2 ^ 8 = c by omega] at p2
    rw [show 8 + 12 = 20 from rfl] at p1
    rw [show 8 + 4 = 12 from rfl] at p2
    omega
  have ec : pcn c 8 = pcn c 4 := pcn_out (n := 4) (by omega) 4
  have hfin : ∀ p q r, p ≤ 8 → q ≤ 8 → r ≤ 8 → ((p + 256 * (q + 256 * r)) + (p + 256 * (q + 256 * r)) / 256 + ((p + 256 * (q + 256 * r)) + (p + 256 * (q + 256 * r)) / 256) / 65536) % 64 = p + q + r := by
    intro p q r hp hq hr
    have h1 : (p + 256 * (q + 256 * r)) / 256 = q + 256 * r := by omega
    rw [h1]
    have h2 : (p + 256 * (q + 256 * r) + (q + 256 * r)) / 65536 = r := by omega
    rw [h2]
    omega
  unfold bcN
  simp only [eC]
  rw [ew, hfin _ _ _ l1 l2 l3, ec]
theorem ush_n {w : Nat} (hw : w < 4294967296) (s : Int32) (k : Nat) (hs : ((s.toUInt32 &&& Int32.toUInt32 31).toBitVec % 32).toNat = k) : ((nI w).toUInt32 >>> (s.toUInt32 &&& Int32.toUInt32 31)).toInt32 = nI (w / 2 ^ k) := pk_ushrN hw s k hs
theorem bc_eq {w : Nat} (hw : w < 1048576) : F_J6_bitCount_0f7a4 (nI w) = some (nI (pcn w 20)) := by
  unfold F_J6_bitCount_0f7a4
  rw [show (1431655765 : Int32) = nI 1431655765 from rfl, show (858993459 : Int32) = nI 858993459 from rfl, show (252645135 : Int32) = nI 252645135 from rfl, show (63 : Int32) = nI 63 from rfl]
  have hA : cA 1431655765 w ≤ w := Nat.sub_le _ _
  have hl : w / 2 &&& 1431655765 ≤ w / 2 := Nat.and_le_left
  have e1 : nI w - (((nI w).toUInt32 >>> ((1 : Int32).toUInt32 &&& Int32.toUInt32 31)).toInt32 &&& nI 1431655765) = nI (cA 1431655765 w) := by
    rw [ush_n (by omega) 1 1 (by decide), show (2 : Nat) ^ 1 = 2 from rfl, and_n _ _ (by omega) (by omega), nI_sub (by omega)]; rfl
  rw [e1]
  generalize hx1 : cA 1431655765 w = x1 at *
  have b1 : x1 &&& 858993459 ≤ x1 := Nat.and_le_left
  have b2 : x1 / 4 &&& 858993459 ≤ x1 / 4 := Nat.and_le_left
  have hB : cB 858993459 x1 ≤ 2 * x1 := by unfold cB; omega
  have e2 : (nI x1 &&& nI 858993459) + (((nI x1).toUInt32 >>> ((2 : Int32).toUInt32 &&& Int32.toUInt32 31)).toInt32 &&& nI 858993459) = nI (cB 858993459 x1) := by
    rw [ush_n (by omega) 2 2 (by decide), show (2 : Nat) ^ 2 = 4 from rfl, and_n _ _ (by omega) (by omega), and_n _ _ (by omega) (by omega), nI_add]; rfl
  rw [e2]
  generalize hx2 : cB 858993459 x1 = x2 at *
  have c1 : (x2 + x2 / 16) &&& 252645135 ≤ x2 + x2 / 16 := Nat.and_le_left
  have e3 : (nI x2 + ((nI x2).toUInt32 >>> ((4 : Int32).toUInt32 &&& Int32.toUInt32 31)).toInt32) &&& nI 252645135 = nI (cC 252645135 x2) := by
    rw [ush_n (by omega) 4 4 (by decide), show (2 : Nat) ^ 4 = 16 from rfl, nI_add, and_n _ _ (by omega) (by omega)]; rfl
  rw [e3]
  have hC : cC 252645135 x2 ≤ x2 + x2 / 16 := c1
  have e6 := bcN_eq hw
  unfold bcN at e6
  simp only [hx1, hx2] at e6
  generalize hx3 : cC 252645135 x2 = x3 at *
  rw [ush_n (w := x3) (by omega) 8 8 (by decide), show (2 : Nat) ^ 8 = 256 from rfl, nI_add, ush_n (w := x3 + x3 / 256) (by omega) 16 16 (by decide), show (2 : Nat) ^ 16 = 65536 from rfl, nI_add, and_n _ _ (by omega) (by omega), ← e6]
  congr 1
  congr 1
  rw [show (63 : Nat) = 2 ^ 6 - 1 from rfl, Nat.and_two_pow_sub_one_eq_mod]
/-- sets of shows -/
theorem set_both {C R : eMem} (hW : RelW C.1 (R.1 1)) (x : Int32) : (∃ w, x = nI w ∧ w < 2 ^ nS (R.1 1) ∧ w < 1048576 ∧ F_X5_hasAll x C = some 1 ∧ F_X10_isSet x R = some 1) ∨ (F_X5_hasAll x C = some 0 ∧ F_X10_isSet x R = some 0) := by
  obtain ⟨wSc, -, -, -, -, -, -, -, -, -, -, -, -, -, i1, -⟩ := id hW
  obtain ⟨-, -, -, -, -, ⟨z9, y9⟩, -⟩ := id i1
  have c9 := wSc.2.2.2.2.2.2.2.2.2.1
  unfold F_X5_hasAll F_X10_isSet
  rw [c9, z9, shl_n _ (by omega)]
  by_cases q : x < 0
  · rw [if_pos q, if_pos q]; exact Or.inr ⟨rfl, rfl⟩
  · rw [if_neg q, if_neg q]
    obtain ⟨w, hw, rfl⟩ := nI_of q
    have hp := pw_lt (k := nS (R.1 1)) (by omega)
    rw [shr_n (by omega) (by omega)]
    by_cases q2 : w < 2 ^ nS (R.1 1)
    · rw [if_pos (nI_lt q2 (by omega)), Nat.div_eq_of_lt q2, if_pos (by decide)]
      have : 2 ^ nS (R.1 1) ≤ 2 ^ 20 := Nat.pow_le_pow_right (by omega) y9
      exact Or.inl ⟨w, rfl, q2, by omega, rfl, rfl⟩
    · rw [if_neg (nI_nlt (by omega) (by omega)), if_neg (fun e => q2 (by
        have h0 : w / 2 ^ nS (R.1 1) = 0 := (eq_lit (n := 0) rfl (Nat.lt_of_le_of_lt (Nat.div_le_self _ _) (by omega))).mp e
        exact (Nat.div_eq_zero_iff_lt (Nat.two_pow_pos _)).mp h0))]
      exact Or.inr ⟨rfl, rfl⟩
