/-! bits of sets -/
theorem sm_l : ∀ n, n < 32 → ((nI n &&& 31).toBitVec.smod 32).toNat = n := by decide +kernel
theorem shr_n {w k : Nat} (hw : w < 2147483648) (hk : k < 32) : nI w >>> (nI k &&& 31) = nI (w / 2 ^ k) := pk_shrN hw _ k (sm_l k hk)
theorem and_n (a b : Nat) (ha : a < 2147483648) (hb : b < 2147483648) : nI a &&& nI b = nI (a &&& b) := by
  rw [← Int32.toBitVec_inj]
  apply BitVec.eq_of_toNat_eq
  rw [Int32.toBitVec_and, BitVec.toNat_and]
  show (BitVec.ofNat 32 a).toNat &&& (BitVec.ofNat 32 b).toNat = (BitVec.ofNat 32 (a &&& b)).toNat
  have hab : a &&& b ≤ a := Nat.and_le_left
  rw [BitVec.toNat_ofNat, BitVec.toNat_ofNat, BitVec.toNat_ofNat, Nat.mod_eq_of_lt (by omega), Nat.mod_eq_of_lt (by omega), Nat.mod_eq_of_lt (by omega)]
theorem or_n (a b : Nat) (ha : a < 2147483648) (hb : b < 2147483648) : nI a ||| nI b = nI (a ||| b) := by
  rw [← Int32.toBitVec_inj]
  apply BitVec.eq_of_toNat_eq
  rw [Int32.toBitVec_or, BitVec.toNat_or]
  show (BitVec.ofNat 32 a).toNat ||| (BitVec.ofNat 32 b).toNat = (BitVec.ofNat 32 (a ||| b)).toNat
  have hab : a ||| b < 2 ^ 31 := Nat.or_lt_two_pow ha hb
  rw [BitVec.toNat_ofNat, BitVec.toNat_ofNat, BitVec.toNat_ofNat, Nat.mod_eq_of_lt (by omega), Nat.mod_eq_of_lt (by omega), Nat.mod_eq_of_lt (by omega)]
theorem and1_n (a : Nat) (ha : a < 2147483648) : nI a &&& 1 = nI (a % 2) := by
  rw [show (1 : Int32) = nI 1 from rfl, and_n a 1 ha (by omega), Nat.and_one_is_mod]
theorem bit_n {w k : Nat} (hw : w < 2147483648) (hk : k < 32) : (nI w >>> (nI k &&& 31)) &&& 1 = if w.testBit k = true then 1 else 0 := by
  rw [shr_n hw hk, and1_n _ (Nat.lt_of_le_of_lt (Nat.div_le_self _ _) hw), Nat.testBit_eq_decide_div_mod_eq]
  by_cases q : w / 2 ^ k % 2 = 1
  · rw [q, if_pos (by simp)]; rfl
  · rw [show w / 2 ^ k % 2 = 0 by omega, if_neg (by simp)]; rfl
theorem shl_n : ∀ k, k < 31 → (1 : Int32) <<< (nI k &&& 31) = nI (2 ^ k) := by decide +kernel
theorem pw_lt {k : Nat} (hk : k < 31) : 2 ^ k < 2147483648 := by
  have : 2 ^ k < 2 ^ 31 := Nat.pow_lt_pow_right (by omega) hk
  omega
theorem or_bit {w k : Nat} (hw : w < 2 ^ k) (hk : k < 31) : nI w ||| (1 <<< (nI k &&& 31)) = nI (2 ^ k + w) := by
  have h1 := pw_lt hk
  rw [shl_n k hk, or_n w (2 ^ k) (by omega) h1]
  congr 1
  have := Nat.two_pow_add_eq_or_of_lt hw 1
  rw [Nat.mul_one] at this
  rw [this, Nat.or_comm]
theorem tb_new {w k : Nat} (hw : w < 2 ^ k) : (2 ^ k + w).testBit k = true := by
  rw [Nat.testBit_two_pow_add_eq, Nat.testBit_lt_two_pow hw]; rfl
theorem tb_old {w k j : Nat} (hj : j < k) : (2 ^ k + w).testBit j = w.testBit j := Nat.testBit_two_pow_add_gt hj w
theorem tb_out {w k j : Nat} (hw : w < 2 ^ k) (hj : k ≤ j) : w.testBit j = false := Nat.testBit_lt_two_pow (Nat.lt_of_lt_of_le hw (Nat.pow_le_pow_right (by omega) hj))
def bv (b : Bool) : Int32 := if b = true then 1 else 0
theorem shown_set {C R : eMem} (hW : RelW C.1 (R.1 1)) : ∀ m j, j + m = nS (R.1 1) → ∀ f, m < f → ∀ (D : eMem) (w : Nat), scr C D → w < 2 ^ j → (∀ k, k < j → F_X10_isShown (nI k) R = some (bv (w.testBit k))) →
    ∃ u C2, F_X8_shownSet_4 f (nI w) (nI j) D = some (nI u, C2) ∧ scr C C2 ∧ u < 2 ^ nS (R.1 1) ∧ ∀ k, k < nS (R.1 1) → F_X10_isShown (nI k) R = some (bv (u.testBit k)) := by
  intro m
  induction m with
  | zero =>
    intro j hj f hf D w hD hw hs
    obtain ⟨f, rfl⟩ : ∃ x, f = x + 1 := ⟨f - 1, by omega⟩
    obtain ⟨wSc, -, -, -, -, -, -, -, -, -, -, -, -, -, i1, -⟩ := hD.W hW
    obtain ⟨-, -, -, -, -, ⟨z9, y9⟩, -⟩ := id i1
    have e : j = nS (R.1 1) := by omega
    subst e
    rw [F_X8_shownSet_4, wSc.2.2.2.2.2.2.2.2.2.1, z9, if_neg (nI_nlt (by omega) (by omega))]
    exact ⟨w, D, rfl, hD, hw, hs⟩
  | succ m ih =>
    intro j hj f hf D w hD hw hs
    obtain ⟨f, rfl⟩ : ∃ x, f = x + 1 := ⟨f - 1, by omega⟩
    have hW2 := hD.W hW
    obtain ⟨wSc, -, -, -, -, -, -, -, -, -, -, -, -, -, i1, -⟩ := id hW2
    obtain ⟨-, -, -, -, -, ⟨z9, y9⟩, -⟩ := id i1
    obtain ⟨v, C2, hv, q1, q2, q3⟩ := shown_both hW2 (k := j) (by omega)
    have hp : 2 ^ (j + 1) = 2 ^ j + 2 ^ j := by rw [Nat.pow_succ]; omega
    rw [F_X8_shownSet_4, wSc.2.2.2.2.2.2.2.2.2.1, z9, if_pos (nI_lt (by omega) (by omega)), q1]
    simp only [bS]
    rw [Rad_1]
    rcases hv with rfl | rfl
    · rw [if_pos rfl]
      refine ih (j + 1) (by omega) f (by omega) C2 w (hD.tr q3) (by omega) (fun k hk => ?_)
      by_cases e : k = j
      · subst e; rw [q2, tb_out hw (Nat.le_refl _)]; rfl
      · exact hs k (by omega)
    · rw [if_neg (by decide), or_bit hw (by omega)]
      refine ih (j + 1) (by omega) f (by omega) C2 (2 ^ j + w) (hD.tr q3) (by omega) (fun k hk => ?_)
      by_cases e : k = j
      · subst e; rw [q2, tb_new hw]; rfl
      · rw [tb_old (by omega)]; exact hs k (by omega)
theorem shownSet_both {C R : eMem} (hW : RelW C.1 (R.1 1)) : ∃ u C2, F_X8_shownSet C = some (nI u, C2) ∧ scr C C2 ∧ u < 2 ^ nS (R.1 1) ∧ ∀ k, k < nS (R.1 1) → F_X10_isShown (nI k) R = some (bv (u.testBit k)) := by
  have y9 : nS (R.1 1) ≤ 20 := hW.2.2.2.2.2.2.2.2.2.2.2.2.2.2.1.2.2.2.2.2.1.2
  exact shown_set hW (nS (R.1 1)) 0 (by omega) eFuel (by unfold eFuel; omega) C 0 scr.rf (by omega) (fun k hk => by omega)
/-- what is shown hangs on the row of the reference alone -/
theorem shown_cg {C R R2 : eMem} (hW : RelW C.1 (R.1 1)) (h : R2.1 1 = R.1 1) {k : Nat} (hk : k < nS (R.1 1)) : F_X10_isShown (nI k) R2 = F_X10_isShown (nI k) R := by
  obtain ⟨v, C2, -, a1, a2, -⟩ := shown_both hW hk
  obtain ⟨v', C2', -, b1, b2, -⟩ := shown_both (C := C) (R := R2) (by rw [h]; exact hW) (k := k) (by rw [h]; exact hk)
  rw [a1] at b1
  cases b1
  rw [a2, b2]
/-! pairs -/
def eye2 (s : Nat → Int32) (i j : Nat) : Option Int32 :=
  if 2 < s (298 + 10 * i) ∨ 2 < s (298 + 10 * j) then
    if s (298 + 10 * i) = 3 ∧ s (298 + 10 * j) = 3 then
      if s (302 + 10 * j) < s (301 + 10 * i) ∨ s (302 + 10 * i) < s (301 + 10 * j) then some (-1) else some 1
    else if s (298 + 10 * i) = 4 ∧ s (298 + 10 * j) = 4 then some 2 else some (-1)
  else if s (300 + 10 * i) = s (300 + 10 * j) then some 0 else some (-1)
theorem eye2_v (s : Nat → Int32) (i j : Nat) : eye2 s i j = some (-1) ∨ ∃ e, e ≤ 2 ∧ eye2 s i j = some (nI e) := by
  unfold eye2
  split
  · split
    · split
      · exact Or.inl rfl
      · exact Or.inr ⟨1, by omega, rfl⟩
    · split
      · exact Or.inr ⟨2, by omega, rfl⟩
      · exact Or.inl rfl
  · split
    · exact Or.inr ⟨0, by omega, rfl⟩
    · exact Or.inl rfl
theorem ite_or2 {α : Type} {P Q : Prop} [Decidable P] [Decidable Q] (x y : α) : (if P then x else if Q then x else y) = if P ∨ Q then x else y := by
  by_cases p : P <;> by_cases q : Q <;> simp [p, q]
theorem ite_and2 {α : Type} {P Q : Prop} [Decidable P] [Decidable Q] (x y : α) : (if P then if Q then x else y else y) = if P ∧ Q then x else y := by
  by_cases p : P <;> by_cases q : Q <;> simp [p, q]
theorem eye_C {C R : eMem} (hW : RelW C.1 (R.1 1)) {i j : Nat} (hi : i < nS (R.1 1)) (hj : j < nS (R.1 1)) : F_X8_eyeOn (nI i) (nI j) C = if R.1 1 (299 + 10 * i) = R.1 1 (299 + 10 * j) then some (-1) else eye2 (R.1 1) i j := by
  obtain ⟨-, -, -, -, -, -, wSh, -, -, -, -, -, -, -, i1, -⟩ := id hW
  obtain ⟨-, -, -, -, -, ⟨z9, y9⟩, -⟩ := id i1
  obtain ⟨a0, a1, a2, a3, a4, -⟩ := wSh i hi
  obtain ⟨b0, b1, b2, b3, b4, -⟩ := wSh j hj
  unfold F_X8_eyeOn F_X8_eyeOn_82 F_X8_eyeOn_139 F_X8_eyeOn_140 F_X8_eyeOn_153
  rw [eIn_s (show i < 20 by omega) (by omega), eIn_s (show j < 20 by omega) (by omega), cl (show i < 2147483648 by omega), cl (show j < 2147483648 by omega), a0, a1, a2, a3, a4, b0, b1, b2, b3, b4]
  simp only [eG_tt, i10, ↓reduceIte]
  unfold eye2
  by_cases e1 : R.1 1 (299 + 10 * i) = R.1 1 (299 + 10 * j)
  · rw [if_pos e1, if_pos e1]
  · rw [if_neg e1, if_neg e1]
    simp only [ite_or2, ite_and2]
theorem eye_R {R : eMem} {i j : Nat} (hi : i < 20) (hj : j < 20) {a b : Bool} (ha : F_X10_isShown (nI i) R = some (bv a)) (hb : F_X10_isShown (nI j) R = some (bv b)) : F_X10_eyeOf (nI i) (nI j) R = if R.1 1 (299 + 10 * i) = R.1 1 (299 + 10 * j) then some (-1) else if (a && b) = true then eye2 (R.1 1) i j else some (-1) := by
  unfold F_X10_eyeOf F_X10_eyeOf_80 F_X10_eyeOf_127
  rw [show_0 i R hi, show_0 j R hj, show_1 i R hi, show_1 j R hj, show_2 i R hi, show_2 j R hj, show_3 i R hi, show_3 j R hj, show_4 i R hi, show_4 j R hj, ha, hb]
  simp only [bS]
  unfold eye2 bv
  by_cases e1 : R.1 1 (299 + 10 * i) = R.1 1 (299 + 10 * j)
  · rw [if_pos e1, if_pos e1]
  · rw [if_neg e1, if_neg e1]
    cases a with
    | false => simp
    | true =>
      cases b with
      | false => simp
      | true =>
        simp only [i10, ↓reduceIte, Bool.and_self]
        simp only [ite_or2, ite_and2]
def tri : Nat → Nat
  | 0 => 0
  | k + 1 => tri k + k
theorem tri_le : ∀ n, n ≤ 20 → tri n ≤ 190 := by decide
/-- the pair that is wanted -/
def prW (R0 : eMem) (v1 : Int32) (cnt : Nat) (C R : eMem) : Prop := ∀ x, x < cnt → v1 = nI x → ∃ a b e, a < nS (R0.1 1) ∧ b < nS (R0.1 1) ∧ e ≤ 2 ∧ C.1 54 x = nI ((e * 20 + a) * 20 + b) ∧ R.1 0 19 = nI a ∧ R.1 0 20 = nI b ∧ F_X10_eyeOf (nI a) (nI b) R0 = some (nI e)
def prC (C C2 : eMem) : Prop := ∀ p, p ≠ 54 → C2.1 p = C.1 p
def prR (R R2 : eMem) : Prop := (∀ p, p ≠ 0 → R2.1 p = R.1 p) ∧ (∀ i, i ≠ 19 → i ≠ 20 → R2.1 0 i = R.1 0 i)
theorem prC.W {C C2 : eMem} {s : Nat → Int32} (h : prC C C2) (hW : RelW C.1 s) : RelW C2.1 s := by
  unfold prC at h
  refine hW.agr ?_ (fun j _ => rfl)
  simp [Agr, h]
theorem pair_in {C R : eMem} (hW : RelW C.1 (R.1 1)) {w : Nat} (hw : w < 2 ^ nS (R.1 1)) (hs : ∀ k, k < nS (R.1 1) → F_X10_isShown (nI k) R = some (bv (w.testBit k))) (v1 : Int32) (KC : Int32 → Int32 → Int32 → eMem → Option (Int32 × eMem)) (KR : Int32 → Int32 → Int32 → eMem → Option (Int32 × eMem)) {i T : Nat} (hi : i < nS (R.1 1)) :
    ∀ m j, j + m = nS (R.1 1) → ∀ f1 f2, m < f1 → m < f2 → ∀ (C1 R1 : eMem) (cnt : Nat), prC C C1 → prR R R1 → cnt + m + T ≤ 190 → prW R v1 cnt C1 R1 →
      ∃ C2 R2 c2, F_X8_collectPairs_25 KC f1 (nI w) (nI cnt) (nI i) (nI j) C1 = KC (nI w) (nI c2) (nI i) C2 ∧ F_X10_pairs_20 KR f2 v1 (nI cnt) (nI i) (nI j) R1 = KR v1 (nI c2) (nI i) R2 ∧ prC C C2 ∧ prR R R2 ∧ c2 + T ≤ 190 ∧ prW R v1 c2 C2 R2 := by
  obtain ⟨wSc, -, -, -, -, -, -, -, -, -, -, -, -, -, i1, -⟩ := id hW
  obtain ⟨-, -, -, -, -, ⟨z9, y9⟩, -⟩ := id i1
  have c9 := wSc.2.2.2.2.2.2.2.2.2.1
  intro m
  induction m with
  | zero =>
    intro j hj f1 f2 h1 h2 C1 R1 cnt hC hR hc hp
    obtain ⟨f1, rfl⟩ : ∃ x, f1 = x + 1 := ⟨f1 - 1, by omega⟩
    obtain ⟨f2, rfl⟩ : ∃ x, f2 = x + 1 := ⟨f2 - 1, by omega⟩
    rw [F_X8_collectPairs_25, F_X10_pairs_20, hC 12 (by decide), c9, hR.1 1 (by decide), z9, if_neg (nI_nlt (by omega) (by omega)), if_neg (nI_nlt (by omega) (by omega))]
    exact ⟨C1, R1, cnt, rfl, rfl, hC, hR, by omega, hp⟩
  | succ m ih =>
    intro j hj f1 f2 h1 h2 C1 R1 cnt hC hR hc hp
    obtain ⟨f1, rfl⟩ : ∃ x, f1 = x + 1 := ⟨f1 - 1, by omega⟩
    obtain ⟨f2, rfl⟩ : ∃ x, f2 = x + 1 := ⟨f2 - 1, by omega⟩
    have hR1 : R1.1 1 = R.1 1 := hR.1 1 (by decide)
    have hW1 : RelW C1.1 (R1.1 1) := by rw [hR1]; exact hC.W hW
    have hwb : w < 2147483648 := Nat.lt_of_lt_of_le hw (Nat.le_trans (Nat.pow_le_pow_right (by omega) y9) (by decide))
    have hskip := ih (j + 1) (by omega) f1 f2 (by omega) (by omega) C1 R1 cnt hC hR (by omega) hp
    have hsh : ∀ k, k < nS (R.1 1) → F_X10_isShown (nI k) R1 = some (bv (w.testBit k)) := fun k hk => by rw [shown_cg hW hR1 hk]; exact hs k hk
    have eR := eye_R (R := R1) (show i < 20 by omega) (show j < 20 by omega) (hsh i hi) (hsh j (by omega))
    have eR0 := eye_R (R := R) (show i < 20 by omega) (show j < 20 by omega) (hs i hi) (hs j (by omega))
    have eC := eye_C hW1 (i := i) (j := j) (by rw [hR1]; exact hi) (by rw [hR1]; omega)
    rw [hR1] at eR eC
    have hand : ((nI w >>> (nI i &&& 31)) &&& (nI w >>> (nI j &&& 31))) &&& 1 = if (w.testBit i && w.testBit j) = true then 1 else 0 := by
      have a1 : w / 2 ^ i < 2147483648 := Nat.lt_of_le_of_lt (Nat.div_le_self _ _) hwb
      have a2 : w / 2 ^ j < 2147483648 := Nat.lt_of_le_of_lt (Nat.div_le_self _ _) hwb
      rw [shr_n hwb (by omega), shr_n hwb (by omega), and_n _ _ a1 a2, and1_n _ (Nat.lt_of_le_of_lt Nat.and_le_left a1)]
      have e : ((w / 2 ^ i) &&& (w / 2 ^ j)) % 2 = if (w.testBit i && w.testBit j) = true then 1 else 0 := by
        have t : (((w / 2 ^ i) &&& (w / 2 ^ j)).testBit 0) = (w.testBit i && w.testBit j) := by
          rw [Nat.testBit_and, Nat.testBit_div_two_pow, Nat.testBit_div_two_pow, Nat.zero_add, Nat.zero_add]
        rw [← t, Nat.testBit_eq_decide_div_mod_eq]
        by_cases q : ((w / 2 ^ i) &&& (w / 2 ^ j)) % 2 = 1
        · rw [q, if_pos (by simp [q])]
        · rw [if_neg (by simp [q])]; omega
      rw [e]
      split <;> rfl
    rw [F_X8_collectPairs_25, F_X10_pairs_20, hC 12 (by decide), c9, hR1, z9, if_pos (nI_lt (by omega) (by omega)), if_pos (nI_lt (by omega) (by omega)), hand, eR, eC, Rad_1]
    by_cases e1 : R.1 1 (299 + 10 * i) = R.1 1 (299 + 10 * j)
    · rw [if_pos e1, if_pos e1]
      simp only [bS, ↓reduceIte, show ((-1 : Int32) < 0) = True by decide, ite_self]
      exact hskip
    · rw [if_neg e1, if_neg e1]
      rw [if_neg e1] at eR0
      by_cases e2 : (w.testBit i && w.testBit j) = true
      · rw [if_pos e2, if_pos e2, if_neg (by decide)]
        rw [if_pos e2] at eR0
        rcases eye2_v (R.1 1) i j with q | ⟨e, he, q⟩
        · rw [q]
          simp only [bS, ↓reduceIte, show ((-1 : Int32) < 0) = True by decide]
          exact hskip
        · rw [q]
          rw [q] at eR0
          simp only [bS]
          rw [if_neg (fun h => by have := nI_pos (n := e) (by omega); rw [h] at this; exact this (by decide)), if_neg (nI_pos (by omega)), isIn_y (n := 190) rfl (show cnt < 190 by omega)]
          simp only [bS, i10, ↓reduceIte]
          rw [eIn_s (show cnt < 190 by omega) (by omega), eG_tt, cl (show cnt < 2147483648 by omega), Rad_1, show (20 : Int32) = nI 20 from rfl, nI_mul, nI_add, nI_mul, nI_add]
          have hnew : ∀ s0 s1 : Int32, (v1 = nI cnt → s0 = nI i ∧ s1 = nI j) → (¬ v1 = nI cnt → s0 = R1.1 0 19 ∧ s1 = R1.1 0 20) →
              ∃ C2 R2 c2, F_X8_collectPairs_25 KC f1 (nI w) (nI (cnt + 1)) (nI i) (nI (j + 1)) (eI C1 54 cnt (nI ((e * 20 + i) * 20 + j))) = KC (nI w) (nI c2) (nI i) C2 ∧ F_X10_pairs_20 KR f2 v1 (nI (cnt + 1)) (nI i) (nI (j + 1)) (eI (eI R1 0 19 s0) 0 20 s1) = KR v1 (nI c2) (nI i) R2 ∧ prC C C2 ∧ prR R R2 ∧ c2 + T ≤ 190 ∧ prW R v1 c2 C2 R2 := by
            intro s0 s1 g1 g2
            refine ih (j + 1) (by omega) f1 f2 (by omega) (by omega) _ _ (cnt + 1) (fun p hp => by simp (disch := omega) only [eIq_ne, eIq_eq, upd_ne, upd_eq]; exact hC p hp) ⟨fun p hp => by simp (disch := omega) only [eIq_ne, eIq_eq, upd_ne, upd_eq]; exact hR.1 p hp, fun k k1 k2 => by simp (disch := omega) only [eIq_ne, eIq_eq, upd_ne, upd_eq]; exact hR.2 k k1 k2⟩ (by omega) (fun x hx hv => ?_)
            by_cases e3 : x = cnt
            · subst e3
              obtain ⟨t1, t2⟩ := g1 hv
              exact ⟨i, j, e, hi, by omega, he, by simp (disch := omega) only [eIq_ne, eIq_eq, upd_ne, upd_eq], by simp (disch := omega) only [eIq_ne, eIq_eq, upd_ne, upd_eq]; exact t1, by simp (disch := omega) only [eIq_ne, eIq_eq, upd_ne, upd_eq]; exact t2, eR0⟩
            · have hne : ¬ v1 = nI cnt := fun h => e3 ((eqN (by omega) (by omega)).mp (hv.symm.trans h))
              obtain ⟨t1, t2⟩ := g2 hne
              obtain ⟨a, b, e', b1, b2, b3, b4, b5, b6, b7⟩ := hp x (by omega) hv
              exact ⟨a, b, e', b1, b2, b3, by simp (disch := omega) only [eIq_ne, eIq_eq, upd_ne, upd_eq]; exact b4, by simp (disch := omega) only [eIq_ne, eIq_eq, upd_ne, upd_eq]; rw [t1]; exact b5, by simp (disch := omega) only [eIq_ne, eIq_eq, upd_ne, upd_eq]; rw [t2]; exact b6, b7⟩
          unfold F_X10_pairs_56
          by_cases e3 : nI cnt = v1
          · rw [if_pos e3, if_pos e3, Rad_1, Rad_1]
            exact hnew _ _ (fun _ => ⟨rfl, rfl⟩) (fun h => absurd e3.symm h)
          · rw [if_neg e3, if_neg e3, Rad_1, Rad_1]
            exact hnew _ _ (fun h => absurd h.symm e3) (fun _ => ⟨rfl, rfl⟩)
      · rw [if_neg e2, if_neg e2, if_pos rfl]
        simp only [bS, ↓reduceIte, show ((-1 : Int32) < 0) = True by decide]
        exact hskip
theorem pair_out {C R : eMem} (hW : RelW C.1 (R.1 1)) {w : Nat} (hw : w < 2 ^ nS (R.1 1)) (hs : ∀ k, k < nS (R.1 1) → F_X10_isShown (nI k) R = some (bv (w.testBit k))) (v1 : Int32) :
    ∀ m i, i + m = nS (R.1 1) → ∀ f1 f2, m < f1 → m < f2 → ∀ (C1 R1 : eMem) (cnt : Nat), prC C C1 → prR R R1 → cnt + tri m ≤ 190 → prW R v1 cnt C1 R1 →
      ∃ C2 R2 c2, F_X8_collectPairs_9 f1 (nI w) (nI cnt) (nI i) C1 = some (nI c2, C2) ∧ F_X10_pairs_4 f2 v1 (nI cnt) (nI i) R1 = some (nI c2, R2) ∧ prC C C2 ∧ prR R R2 ∧ c2 ≤ 190 ∧ prW R v1 c2 C2 R2 := by
  obtain ⟨wSc, -, -, -, -, -, -, -, -, -, -, -, -, -, i1, -⟩ := id hW
  obtain ⟨-, -, -, -, -, ⟨z9, y9⟩, -⟩ := id i1
  have c9 := wSc.2.2.2.2.2.2.2.2.2.1
  intro m
  induction m with
  | zero =>
    intro i hi f1 f2 h1 h2 C1 R1 cnt hC hR hc hp
    obtain ⟨f1, rfl⟩ : ∃ x, f1 = x + 1 := ⟨f1 - 1, by omega⟩
    obtain ⟨f2, rfl⟩ : ∃ x, f2 = x + 1 := ⟨f2 - 1, by omega⟩
    rw [F_X8_collectPairs_9, F_X10_pairs_4, hC 12 (by decide), c9, hR.1 1 (by decide), z9, if_neg (nI_nlt (by omega) (by omega)), if_neg (nI_nlt (by omega) (by omega))]
    exact ⟨C1, R1, cnt, rfl, rfl, hC, hR, by omega, hp⟩
  | succ m ih =>
    intro i hi f1 f2 h1 h2 C1 R1 cnt hC hR hc hp
    obtain ⟨f1, rfl⟩ : ∃ x, f1 = x + 1 := ⟨f1 - 1, by omega⟩
    obtain ⟨f2, rfl⟩ : ∃ x, f2 = x + 1 := ⟨f2 - 1, by omega⟩
    rw [tri] at hc
    rw [F_X8_collectPairs_9, F_X10_pairs_4, hC 12 (by decide), c9, hR.1 1 (by decide), z9, if_pos (nI_lt (by omega) (by omega)), if_pos (nI_lt (by omega) (by omega)), Rad_1]
    obtain ⟨C2, R2, c2, a1, a2, a3, a4, a5, a6⟩ := pair_in hW hw hs v1 (fun v1 v2 v3 M => F_X8_collectPairs_9 f1 v1 v2 (v3 + 1) M) (fun v1 v2 v3 M => F_X10_pairs_4 f2 v1 v2 (v3 + 1) M) (i := i) (T := tri m) (by omega) m (i + 1) (by omega) eFuel eFuel (by unfold eFuel; omega) (by unfold eFuel; omega) C1 R1 cnt hC hR (by omega) hp
    rw [a1, a2]
    rw [Rad_1]
    exact ih (i + 1) (by omega) f1 f2 (by omega) (by omega) C2 R2 c2 a3 a4 a5 a6
theorem pairs_both {C R : eMem} (h : Rel C R) (v1 : Int32) : ∃ C2 R2 c2, F_X8_collectPairs C = some (nI c2, C2) ∧ F_X10_pairs v1 R = some (nI c2, R2) ∧ Rel C2 R2 ∧ c2 ≤ 190 ∧ prW R v1 c2 C2 R2 ∧ prR R R2 := by
  obtain ⟨w, C1, a1, a2, a3, a4⟩ := shownSet_both h.1
  have h1 := a2.R h
  have y9 : nS (R.1 1) ≤ 20 := h.1.2.2.2.2.2.2.2.2.2.2.2.2.2.2.1.2.2.2.2.2.1.2
  unfold F_X8_collectPairs F_X10_pairs
  rw [a1]
  simp only [bS]
  obtain ⟨C2, R2, c2, b1, b2, b3, b4, b5, b6⟩ := pair_out h1.1 a3 a4 v1 (nS (R.1 1)) 0 (by omega) eFuel eFuel (by unfold eFuel; omega) (by unfold eFuel; omega) C1 R 0 (fun _ _ => rfl) ⟨fun _ _ => rfl, fun _ _ _ => rfl⟩ (by have := tri_le _ y9; omega) (fun x hx => by omega)
  rw [show nI 0 = 0 from rfl] at b1 b2
  refine ⟨C2, R2, c2, b1, b2, ?_, b5, b6, b4⟩
  refine h1.now (by rw [b3 0 (by decide)]) (fun p hp => b3 p (by omega)) (b4.2 2 (by decide) (by decide)) (b4.2 3 (by decide) (by decide)) (fun p p1 p2 => b4.1 p (by omega)) ?_
  rw [b4.1 1 (by decide)]
  exact b3.W h1.1
theorem pair_val {a b e : Nat} (ha : a < 20) (hb : b < 20) (he : e ≤ 2) : F_X8_lesserOf (nI ((e * 20 + a) * 20 + b)) = some (nI a) ∧ F_X8_greaterOf (nI ((e * 20 + a) * 20 + b)) = some (nI b) ∧ F_X8_eyeOf (nI ((e * 20 + a) * 20 + b)) = some (nI e) := by
  unfold F_X8_lesserOf F_X8_greaterOf F_X8_eyeOf
  rw [show (20 : Int32) = nI 20 from rfl, show (400 : Int32) = nI 400 from rfl, pk_div (by omega) (by omega) (by omega), pk_div (by omega) (by omega) (by omega), pk_div (by omega) (by omega) (by omega), show ((e * 20 + a) * 20 + b) / 20 = e * 20 + a by omega, show (e * 20 + a) / 20 = e by omega, show ((e * 20 + a) * 20 + b) / 400 = e by omega, nI_mul, nI_mul, nI_sub (by omega), nI_sub (by omega), show e * 20 + a - e * 20 = a by omega, show (e * 20 + a) * 20 + b - (e * 20 + a) * 20 = b by omega]
  exact ⟨rfl, rfl, rfl⟩
theorem st_agree {C R : eMem} (h : Rel C R) (x1 x2 : Int32) : Step (F_X9_agree x1 x2 C) (F_X10_agree x1 x2 R) := by
  obtain ⟨C2, R2, c2, a1, a2, a3, a4, a5, a6⟩ := pairs_both h x1
  have hC2R : Rel C2 R := by
    obtain ⟨r1, r2⟩ := a6
    refine ⟨by rw [← r1 1 (by decide)]; exact a3.1, ?_, ?_, ?_, ?_, a3.2.2.2.2.2⟩
    · have := a3.2.1
      unfold rKept at this ⊢
      rw [r2 2 (by decide) (by decide), r1 2 (by decide)] at this
      exact this
    · have := a3.2.2.1
      unfold rTape at this ⊢
      rw [r2 3 (by decide) (by decide), r1 3 (by decide)] at this
      exact this
    · intro k hk
      have := a3.2.2.2.1 k hk
      rw [r1 4 (by decide), r1 5 (by decide), r1 6 (by decide)] at this
      exact this
    · intro k hk
      have := a3.2.2.2.2.1 k hk
      rw [r1 7 (by decide)] at this
      exact this
  unfold F_X9_agree F_X10_agree
  rw [a1, a2]
  simp only [bS]
  rcases in01 x2 0 2 with ⟨e, g1, g2⟩ | e
  · rw [e]
    simp only [bS, i10, ↓reduceIte]
    by_cases hx : x1 < 0
    · rw [if_pos hx]
      unfold F_X9_isIn
      rw [if_pos hx]
      simp only [bS, ↓reduceIte]
      exact stf1 hC2R
    · rw [if_neg hx]
      obtain ⟨x, hx1, rfl⟩ := nI_of hx
      by_cases hc : x < c2
      · rw [if_pos (nI_lt hc (by omega))]
        unfold F_X9_isIn
        rw [if_neg hx, if_pos (nI_lt hc (by omega))]
        simp only [bS, i10, ↓reduceIte]
        rw [eIn_s (show x < 190 by omega) (by omega), eG_tt, cl (by omega)]
        obtain ⟨a, b, ee, b1, b2, b3, b4, b5, b6, b7⟩ := a5 x hc rfl
        have y9 : nS (R.1 1) ≤ 20 := h.1.2.2.2.2.2.2.2.2.2.2.2.2.2.2.1.2.2.2.2.2.1.2
        obtain ⟨p1, p2, p3⟩ := pair_val (show a < 20 by omega) (show b < 20 by omega) b3
        rw [b4, p1, p2, p3, b5, b6]
        simp only [bS]
        obtain ⟨k, hk, rfl⟩ := nI_of g1
        have hk2 : k ≤ 2 := by
          rw [gt_lit (n := 2) rfl (by omega)] at g2; omega
        rcases (show k = 0 ∨ k = 1 ∨ k = 2 by omega) with rfl | rfl | rfl
        · rw [if_pos (by decide), if_pos (by decide)]; exact stepI rfl a3
        · rw [if_neg (by decide), if_pos (by decide), if_neg (by decide), if_pos (by decide)]; exact stepI rfl a3
        · rw [if_neg (by decide), if_neg (by decide), if_pos (by decide), if_neg (by decide), if_neg (by decide)]
          have hW1 : RelW C.1 (R.1 1) := h.1
          have hcg : F_X10_eyeOf (nI a) (nI b) R2 = some (nI ee) := by
            obtain ⟨w, C1, w1, w2, w3, w4⟩ := shownSet_both hW1
            have hR1 := a6.1 1 (by decide)
            rw [eye_R (by omega) (by omega) ((shown_cg hW1 hR1 b1).trans (w4 a b1)) ((shown_cg hW1 hR1 b2).trans (w4 b b2)), hR1, ← eye_R (by omega) (by omega) (w4 a b1) (w4 b b2)]
            exact b7
          rw [hcg]
          exact stepI rfl a3
      · rw [if_neg (nI_nlt (by omega) (by omega))]
        unfold F_X9_isIn
        rw [if_neg hx, if_neg (nI_nlt (by omega) (by omega))]
        simp only [bS, ↓reduceIte]
        exact stf1 a3
  · rw [e]
    simp only [bS, ↓reduceIte]
    have h012 : ¬ x2 = 0 ∧ ¬ x2 = 1 ∧ ¬ x2 = 2 := by
      refine ⟨fun q => ?_, fun q => ?_, fun q => ?_⟩ <;> subst q <;> exact absurd e (by decide)
    unfold F_X9_isIn
    by_cases hx : x1 < 0
    · rw [if_pos hx]
      simp only [bS, ↓reduceIte]
      exact stf1 hC2R
    · rw [if_neg hx]
      obtain ⟨x, hx1, rfl⟩ := nI_of hx
      by_cases hc : x < c2
      · rw [if_pos (nI_lt hc (by omega))]
        simp only [bS, i10, ↓reduceIte]
        rw [eIn_s (show x < 190 by omega) (by omega), eG_tt, if_neg h012.1, if_neg h012.2.1, if_neg h012.2.2]
        exact stf1 hC2R
      · rw [if_neg (nI_nlt (by omega) (by omega))]
        simp only [bS, ↓reduceIte]
        exact stf1 hC2R
theorem st_count {C R : eMem} (h : Rel C R) (x1 : Int32) : Step (F_X9_count x1 C) (F_X10_count x1 R) := by
  obtain ⟨wSc, wGr, wRo, wUn, wPl, wHe, wSh, wRe, wFl, wLi, wBo, wTx, wTc, wz, i1, i2, i3, i4, i5, i6⟩ := id h.1; obtain ⟨c0, c1, c2, c3, c4, c5, c6, c7, c8, c9, c10, c11, c12, c13⟩ := id wSc; obtain ⟨⟨z0, y0⟩, ⟨f5, g5, y5, z5⟩, ⟨t6, y6, z6⟩, ⟨z7, y7⟩, ⟨z8, y8⟩, ⟨z9, y9⟩, ⟨z10, y10⟩, ⟨z11, y11⟩, ⟨z12, y12⟩, ⟨z13, y13⟩⟩ := id i1
  unfold F_X9_count F_X10_count
  by_cases q : x1 = 0
  · rw [if_pos q, if_pos q]; exact stepI c7 h
  rw [if_neg q, if_neg q]; clear q
  by_cases q : x1 = 1
  · rw [if_pos q, if_pos q]; exact stepI c8 h
  rw [if_neg q, if_neg q]; clear q
  by_cases q : x1 = 2
  · rw [if_pos q, if_pos q]; exact stepI c9 h
  rw [if_neg q, if_neg q]; clear q
  by_cases q : x1 = 3
  · rw [if_pos q, if_pos q]; exact stepI c10 h
  rw [if_neg q, if_neg q]; clear q
  by_cases q : x1 = 4
  · rw [if_pos q, if_pos q]; exact stepI c11 h
  rw [if_neg q, if_neg q]; clear q
  by_cases q : x1 = 5
  · rw [if_pos q, if_pos q]; exact stepI c12 h
  rw [if_neg q, if_neg q]; clear q
  by_cases q : x1 = 6
  · rw [if_pos q, if_pos q]; exact stepI c13 h
  rw [if_neg q, if_neg q]; clear q
  by_cases q : x1 = 7
  · rw [if_pos q, if_pos q]; exact stepI c0 h
  rw [if_neg q, if_neg q]; clear q
  by_cases q : x1 = 8
  · rw [if_pos q, if_pos q]; exact stepI c3 h
  rw [if_neg q, if_neg q]; clear q
  by_cases q : x1 = 9
  · rw [if_pos q, if_pos q]; exact stepI c4 h
  rw [if_neg q, if_neg q]; clear q
  by_cases q : x1 = 10
  · rw [if_pos q, if_pos q]
    obtain ⟨u, u1, u2⟩ := standing_both h.1
    rw [u1, u2]
    exact stepI rfl h
  rw [if_neg q, if_neg q]; clear q
  by_cases q : x1 = 11
  · rw [if_pos q, if_pos q]
    obtain ⟨C2, R2, k, a1, a2, a3, -⟩ := pairs_both h (-1)
    rw [a1, a2]
    exact stepI rfl a3
  rw [if_neg q, if_neg q]; clear q
  by_cases q : x1 = 12
  · rw [if_pos q, if_pos q]
    obtain ⟨n, n1, t1, t2, t3⟩ := h.2.2.1
    exact stepI (t1.trans t2.symm) h
  rw [if_neg q, if_neg q]; clear q
  by_cases q : x1 = 13
  · rw [if_pos q, if_pos q]; exact stepI c5 h
  rw [if_neg q, if_neg q]; clear q
  by_cases q : x1 = 14
  · rw [if_pos q, if_pos q]; exact stepI c6 h
  rw [if_neg q, if_neg q]
  exact stf1 h
