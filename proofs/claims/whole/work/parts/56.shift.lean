/-! shift: the troops are parted -/
theorem o64_div {a b : Nat} (ha : a < 2 ^ 62) (hb0 : 0 < b) (hb : b < 2 ^ 62) : Int64.ofNat a / Int64.ofNat b = Int64.ofNat (a / b) := by
  have hm : a / b ≤ a := Nat.div_le_self a b
  rw [← Int64.toInt_inj, lg_ldiv_nonneg (by rw [lg_ofNat_toInt (by omega)]; omega) (by rw [lg_ofNat_toInt (by omega)]; omega), lg_ofNat_toInt (by omega), lg_ofNat_toInt (by omega), lg_ofNat_toInt (by omega)]
  omega
theorem nI_64 {t : Nat} (ht : t < 2147483648) : (nI t).toInt64 = Int64.ofNat t := by
  rw [← Int64.toInt_inj, Int32.toInt_toInt64, nI_toInt ht, lg_ofNat_toInt (by omega)]
theorem o64_32 {q : Nat} (hq : q < 2147483648) : (Int64.ofNat q).toInt32 = nI q := by
  rw [← nI_64 hq, lg_l2i_i2l]
def prt (t : Int32) (S : Int64) (w : Nat → Int64) (j : Nat) : Int32 := (t.toInt64 * w j / S).toInt32
def rst (t : Int32) (S : Int64) (w : Nat → Int64) (j : Nat) : Int64 := t.toInt64 * w j - t.toInt64 * w j / S * S
def sb (p : Nat → Int32) : Nat → Nat → Int32 → Int32
  | _, 0, v => v
  | j, m + 1, v => sb p (j + 1) m (v - p j)
theorem partC (K : Int32 → eMem → Option (Int32 × eMem)) (t : Int32) {S : Int64} (hS : ¬ S = 0) (w : Nat → Int64) : ∀ m j, j + m = 4 → ∀ f, m < f → ∀ (C : eMem) (v : Int32), C.1 29 9 = t → (∀ i, i < 4 → C.2 56 i = w i) → ∃ C2, F_X1_part_18 K f S v (nI j) C = K (sb (prt t S w) j m v) C2 ∧ (∀ q, q ≠ 39 → C2.1 q = C.1 q) ∧ (∀ q, q ≠ 38 → C2.2 q = C.2 q) ∧ (∀ i, i < 4 → C2.1 39 i = if j ≤ i then prt t S w i else C.1 39 i) ∧ (∀ i, i < 4 → C2.2 38 i = if j ≤ i then rst t S w i else C.2 38 i) := by
  intro m
  induction m with
  | zero =>
    intro j hj f hf C v ht hw
    obtain ⟨f, rfl⟩ : ∃ x, f = x + 1 := ⟨f - 1, by omega⟩
    rw [F_X1_part_18, if_neg (fun q => by have := (lt_lit (n := 4) rfl (by omega)).mp q; omega)]
    exact ⟨C, rfl, fun _ _ => rfl, fun _ _ => rfl, fun i hi => by rw [if_neg (by omega)], fun i hi => by rw [if_neg (by omega)]⟩
  | succ m ih =>
    intro j hj f hf C v ht hw
    obtain ⟨f, rfl⟩ : ∃ x, f = x + 1 := ⟨f - 1, by omega⟩
    rw [F_X1_part_18, if_pos ((lt_lit (n := 4) rfl (by omega)).mpr (by omega)), eIn_s (show j < 4 by omega) (by omega), cl (show j < 2147483648 by omega), if_neg hS, if_neg hS, ht, hw j (by omega), Rad_1]
    simp only [eG_tt]
    obtain ⟨C2, a1, a2, a3, a4, a5⟩ := ih (j + 1) (by omega) f (by omega) (eJ (eI C 39 j (t.toInt64 * w j / S).toInt32) 38 j (t.toInt64 * w j - t.toInt64 * w j / S * S)) (v - (t.toInt64 * w j / S).toInt32) (by rw [eJ_1]; simp (disch := omega) only [eIq_ne, eIq_eq, upd_ne, upd_eq]; exact ht) (fun i hi => by rw [eJq_ne (by decide), eI_2]; exact hw i hi)
    refine ⟨C2, a1, fun q hq => by rw [a2 q hq, eJ_1]; simp (disch := omega) only [eIq_ne, eIq_eq, upd_ne, upd_eq], fun q hq => by rw [a3 q hq, eJq_ne hq, eI_2], fun i hi => ?_, fun i hi => ?_⟩
    · rw [a4 i hi, eJ_1]
      simp (disch := omega) only [eIq_ne, eIq_eq, upd_ne, upd_eq]
      rw [upd_at]
      by_cases e : i = j
      · subst e; rw [if_neg (by omega), if_pos rfl, if_pos (Nat.le_refl _)]; rfl
      · rw [if_neg e]
        by_cases e2 : j + 1 ≤ i
        · rw [if_pos e2, if_pos (by omega)]
        · rw [if_neg e2, if_neg (by omega)]
    · rw [a5 i hi, eJq_eq, updL_at, eI_2]
      by_cases e : i = j
      · subst e; rw [if_neg (by omega), if_pos rfl, if_pos (Nat.le_refl _)]; rfl
      · rw [if_neg e]
        by_cases e2 : j + 1 ≤ i
        · rw [if_pos e2, if_pos (by omega)]
        · rw [if_neg e2, if_neg (by omega)]
theorem partR (K : Int32 → eMem → Option (Int32 × eMem)) (t : Int32) {S : Int64} (hS : ¬ S = 0) (w : Nat → Int64) (hall : w 0 + w 1 + w 2 + w 3 = S) : ∀ m j, j + m = 4 → ∀ f, m < f → ∀ (R : eMem) (v : Int32), R.1 1 6 = t → (∀ i, i < 4 → R.2 12 i = w i) → ∃ R2, F_X10_shift_24 K f v (nI j) R = K (sb (prt t S w) j m v) R2 ∧ (∀ q, q ≠ 13 → R2.1 q = R.1 q) ∧ (∀ q, q ≠ 14 → R2.2 q = R.2 q) ∧ (∀ i, i < 4 → R2.1 13 i = if j ≤ i then prt t S w i else R.1 13 i) ∧ (∀ i, i < 4 → R2.2 14 i = if j ≤ i then rst t S w i else R.2 14 i) := by
  intro m
  induction m with
  | zero =>
    intro j hj f hf R v ht hw
    obtain ⟨f, rfl⟩ : ∃ x, f = x + 1 := ⟨f - 1, by omega⟩
    rw [F_X10_shift_24, if_neg (fun q => by have := (lt_lit (n := 4) rfl (by omega)).mp q; omega)]
    exact ⟨R, rfl, fun _ _ => rfl, fun _ _ => rfl, fun i hi => by rw [if_neg (by omega)], fun i hi => by rw [if_neg (by omega)]⟩
  | succ m ih =>
    intro j hj f hf R v ht hw
    obtain ⟨f, rfl⟩ : ∃ x, f = x + 1 := ⟨f - 1, by omega⟩
    have hA : ∀ M : eMem, M.2 = R.2 → F_X10_all M = some S := fun M hM => by
      unfold F_X10_all
      rw [hM, hw 0 (by omega), hw 1 (by omega), hw 2 (by omega), hw 3 (by omega), hall]
    rw [F_X10_shift_24, if_pos ((lt_lit (n := 4) rfl (by omega)).mpr (by omega)), eIn_s (show j < 4 by omega) (by omega), cl (show j < 2147483648 by omega), hA R rfl, ht, hw j (by omega), Rad_1]
    simp only [eG_tt, bS]
    rw [if_neg hS, hA (eI R 13 j (t.toInt64 * w j / S).toInt32) rfl]
    simp only [bS]
    rw [if_neg hS]
    obtain ⟨R2, a1, a2, a3, a4, a5⟩ := ih (j + 1) (by omega) f (by omega) (eJ (eI R 13 j (t.toInt64 * w j / S).toInt32) 14 j (t.toInt64 * w j - t.toInt64 * w j / S * S)) (v - (t.toInt64 * w j / S).toInt32) (by rw [eJ_1]; simp (disch := omega) only [eIq_ne, eIq_eq, upd_ne, upd_eq]; exact ht) (fun i hi => by rw [eJq_ne (by decide), eI_2]; exact hw i hi)
    refine ⟨R2, a1, fun q hq => by rw [a2 q hq, eJ_1]; simp (disch := omega) only [eIq_ne, eIq_eq, upd_ne, upd_eq], fun q hq => by rw [a3 q hq, eJq_ne hq, eI_2], fun i hi => ?_, fun i hi => ?_⟩
    · rw [a4 i hi, eJ_1]
      simp (disch := omega) only [eIq_ne, eIq_eq, upd_ne, upd_eq]
      rw [upd_at]
      by_cases e : i = j
      · subst e; rw [if_neg (by omega), if_pos rfl, if_pos (Nat.le_refl _)]; rfl
      · rw [if_neg e]
        by_cases e2 : j + 1 ≤ i
        · rw [if_pos e2, if_pos (by omega)]
        · rw [if_neg e2, if_neg (by omega)]
    · rw [a5 i hi, eJq_eq, updL_at, eI_2]
      by_cases e : i = j
      · subst e; rw [if_neg (by omega), if_pos rfl, if_pos (Nat.le_refl _)]; rfl
      · rw [if_neg e]
        by_cases e2 : j + 1 ≤ i
        · rw [if_pos e2, if_pos (by omega)]
        · rw [if_neg e2, if_neg (by omega)]
theorem rest_loop {C R : eMem} (K : Int32 → Int32 → eMem → Option (Int32 × eMem)) (x : Int32) (hw : ∀ x, x < 4 → C.2 38 x = R.2 14 x) : ∀ m j, j + m = 4 → ∀ f1 f2, m < f1 → m < f2 → ∀ v, v < 4 → ∃ u, u < 4 ∧ F_X1_greatestRest_4 f1 C (nI v) (nI j) = some (nI u) ∧ F_X10_shift_105 K f2 x (nI v) (nI j) R = K x (nI u) R := by
  intro m
  induction m with
  | zero =>
    intro j hj f1 f2 h1 h2 v hv
    obtain ⟨f1, rfl⟩ : ∃ x, f1 = x + 1 := ⟨f1 - 1, by omega⟩
    obtain ⟨f2, rfl⟩ : ∃ x, f2 = x + 1 := ⟨f2 - 1, by omega⟩
    have hn : ¬ nI j < 4 := fun q => by have := (lt_lit (n := 4) rfl (by omega)).mp q; omega
    rw [F_X1_greatestRest_4, F_X10_shift_105, if_neg hn, if_neg hn]
    exact ⟨v, hv, rfl, rfl⟩
  | succ m ih =>
    intro j hj f1 f2 h1 h2 v hv
    obtain ⟨f1, rfl⟩ : ∃ x, f1 = x + 1 := ⟨f1 - 1, by omega⟩
    obtain ⟨f2, rfl⟩ : ∃ x, f2 = x + 1 := ⟨f2 - 1, by omega⟩
    have hn : nI j < 4 := (lt_lit (n := 4) rfl (by omega)).mpr (by omega)
    rw [F_X1_greatestRest_4, F_X10_shift_105, if_pos hn, if_pos hn, eIn_s (show j < 4 by omega) (by omega), eIn_s (show v < 4 by omega) (by omega), cl (show j < 2147483648 by omega), cl (show v < 2147483648 by omega), hw j (by omega), hw v hv]
    simp only [eG_tt]
    rw [Rad_1]
    by_cases q : 0 < lg_cmp (R.2 14 j) (R.2 14 v)
    · rw [if_pos q, if_pos q]; exact ih (j + 1) (by omega) f1 f2 (by omega) (by omega) j (by omega)
    · rw [if_neg q, if_neg q]; exact ih (j + 1) (by omega) f1 f2 (by omega) (by omega) v hv
theorem give_loop (KC KR : eMem → Option (Int32 × eMem)) : ∀ m v5, v5 + m ≤ 4 → ∀ f1 f2, m < f1 → m < f2 → ∀ C R : eMem, (∀ x, x < 4 → C.1 39 x = R.1 13 x) → (∀ x, x < 4 → C.2 38 x = R.2 14 x) → ∃ C2 R2, F_X1_part_83 KC f1 (nI m) (nI v5) C = KC C2 ∧ F_X10_shift_97 KR f2 (nI m) R = KR R2 ∧ (∀ q, q ≠ 39 → C2.1 q = C.1 q) ∧ (∀ q, q ≠ 13 → R2.1 q = R.1 q) ∧ (∀ x, x < 4 → C2.1 39 x = R2.1 13 x) := by
  intro m
  induction m with
  | zero =>
    intro v5 hv f1 f2 h1 h2 C R h39 h38
    obtain ⟨f1, rfl⟩ : ∃ x, f1 = x + 1 := ⟨f1 - 1, by omega⟩
    obtain ⟨f2, rfl⟩ : ∃ x, f2 = x + 1 := ⟨f2 - 1, by omega⟩
    rw [F_X1_part_83, F_X10_shift_97, if_neg (show ¬ (0 : Int32) < nI 0 by decide), if_neg (show ¬ (0 : Int32) < nI 0 by decide), ite_self]
    exact ⟨C, R, rfl, rfl, fun _ _ => rfl, fun _ _ => rfl, h39⟩
  | succ m ih =>
    intro v5 hv f1 f2 h1 h2 C R h39 h38
    obtain ⟨f1, rfl⟩ : ∃ x, f1 = x + 1 := ⟨f1 - 1, by omega⟩
    obtain ⟨f2, rfl⟩ : ∃ x, f2 = x + 1 := ⟨f2 - 1, by omega⟩
    have hp : (0 : Int32) < nI (m + 1) := (gt_lit (n := 0) rfl (by omega)).mpr (by omega)
    rw [F_X1_part_83, F_X10_shift_97, if_pos hp, if_pos hp, if_pos ((lt_lit (n := 4) rfl (by omega)).mpr (by omega))]
    obtain ⟨u, hu, q1, q2⟩ := rest_loop (fun v1 v2 M => eG (eIn v2 4) <| eG (eIn v2 4) <| eG (eIn v2 4) <| F_X10_shift_97 KR f2 (v1 + (-1)) (eJ (eI M 13 v2.toNatClampNeg ((M.1 13 v2.toNatClampNeg) + 1)) 14 v2.toNatClampNeg (-1))) (nI (m + 1)) h38 3 1 rfl eFuel eFuel (by unfold eFuel; omega) (by unfold eFuel; omega) 0 (by omega)
    rw [show nI 0 = 0 from rfl, show nI 1 = 1 from rfl] at q1 q2
    unfold F_X1_greatestRest
    rw [q1, q2]
    simp only [bS]
    rw [eIn_s hu (by omega), cl (show u < 2147483648 by omega), nI_dec, Rad_1]
    simp only [eG_tt]
    obtain ⟨C2, R2, a1, a2, a3, a4, a5⟩ := ih (v5 + 1) (by omega) f1 f2 (by omega) (by omega) (eJ (eI C 39 u (C.1 39 u + 1)) 38 u (-1)) (eJ (eI R 13 u (R.1 13 u + 1)) 14 u (-1)) (fun x hx => by
        rw [eJ_1, eJ_1]; simp (disch := omega) only [eIq_ne, eIq_eq, upd_ne, upd_eq]; rw [upd_at, upd_at, h39 x hx, h39 u hu]) (fun x hx => by
        rw [eJq_eq, eJq_eq, updL_at, updL_at, eI_2, eI_2, h38 x hx])
    exact ⟨C2, R2, a1, a2, fun q hq => by rw [a3 q hq, eJ_1]; simp (disch := omega) only [eIq_ne, eIq_eq, upd_ne, upd_eq], fun q hq => by rw [a4 q hq, eJ_1]; simp (disch := omega) only [eIq_ne, eIq_eq, upd_ne, upd_eq], a5⟩
theorem held_loop : ∀ m j, j + m = 4 → ∀ f1 f2, m < f1 → m < f2 → ∀ (C R : eMem) (v : Int32), Rel C R → (∀ x, x < 4 → C.1 39 x = R.1 13 x) → Step (F_X1_part_136 f1 v (nI j) C) (F_X10_shift_167 f2 v (nI j) R) := by
  intro m
  induction m with
  | zero =>
    intro j hj f1 f2 h1 h2 C R v h h39
    obtain ⟨f1, rfl⟩ : ∃ x, f1 = x + 1 := ⟨f1 - 1, by omega⟩
    obtain ⟨f2, rfl⟩ : ∃ x, f2 = x + 1 := ⟨f2 - 1, by omega⟩
    have hn : ¬ nI j < 4 := fun q => by have := (lt_lit (n := 4) rfl (by omega)).mp q; omega
    rw [F_X1_part_136, F_X10_shift_167, if_neg hn, if_neg hn]
    exact stepI rfl h
  | succ m ih =>
    intro j hj f1 f2 h1 h2 C R v h h39
    obtain ⟨f1, rfl⟩ : ∃ x, f1 = x + 1 := ⟨f1 - 1, by omega⟩
    obtain ⟨f2, rfl⟩ : ∃ x, f2 = x + 1 := ⟨f2 - 1, by omega⟩
    have hn : nI j < 4 := (lt_lit (n := 4) rfl (by omega)).mpr (by omega)
    rw [F_X1_part_136, F_X10_shift_167, if_pos hn, if_pos hn]
    unfold F_X1_part_162 F_X10_shift_197
    obtain ⟨wSc, wGr, wRo, wUn, wPl, wHe, wSh, wRe, wFl, wLi, wBo, wTx, wTc, wz, i1, i2, i3, i4, i5, i6⟩ := id h.1; obtain ⟨c0, c1, c2, c3, c4, c5, c6, c7, c8, c9, c10, c11, c12, c13⟩ := id wSc; obtain ⟨⟨z0, y0⟩, ⟨f5, g5, y5, z5⟩, ⟨t6, y6, z6⟩, ⟨z7, y7⟩, ⟨z8, y8⟩, ⟨z9, y9⟩, ⟨z10, y10⟩, ⟨z11, y11⟩, ⟨z12, y12⟩, ⟨z13, y13⟩⟩ := id i1
    rw [Ladd_294, eIn_s (show j < 4 by omega) (by omega), eIn_s (show 294 + j < 2900 by omega) (by omega), cl (show j < 2147483648 by omega), cl (show 294 + j < 2147483648 by omega), wHe j (by omega), h39 j (by omega), Rad_1]
    simp only [eG_tt]
    have hR : Rel (eI C 37 j (R.1 13 j)) (eI R 1 (294 + j) (R.1 13 j)) := by
      refine h.now (by simp (disch := omega) only [eIq_ne, eIq_eq, upd_ne, upd_eq]) (fun p hp => by simp (disch := omega) only [eIq_ne, eIq_eq, upd_ne, upd_eq]) (by simp (disch := omega) only [eIq_ne, eIq_eq, upd_ne, upd_eq]) (by simp (disch := omega) only [eIq_ne, eIq_eq, upd_ne, upd_eq]) (fun p p1 p2 => by simp (disch := omega) only [eIq_ne, eIq_eq, upd_ne, upd_eq]) (h.1.he (fun p hp => by simp (disch := omega) only [eIq_ne, eIq_eq, upd_ne, upd_eq]) (fun j hj => by simp (disch := omega) only [eIq_ne, eIq_eq, upd_ne, upd_eq]) ?_)
      intro i hi
      simp (disch := omega) only [eIq_ne, eIq_eq, upd_ne, upd_eq]
      simp only [upd_at]
      by_cases e : i = j
      · subst e; simp
      · rw [if_neg e, if_neg (by omega)]; exact wHe i hi
    have hn := fun v => ih (j + 1) (by omega) f1 f2 (by omega) (by omega) (eI C 37 j (R.1 13 j)) (eI R 1 (294 + j) (R.1 13 j)) v hR (fun x hx => by simp (disch := omega) only [eIq_ne, eIq_eq, upd_ne, upd_eq]; exact h39 x hx)
    by_cases e : R.1 1 (294 + j) = R.1 13 j
    · rw [if_pos e, if_pos e, show v + 0 = v from Int32.add_zero v]; exact hn v
    · rw [if_neg e, if_neg e]; exact hn (v + 1)
theorem part_left {t S p0 p1 p2 p3 : Nat} (hS : p0 + p1 + p2 + p3 = S) (h0 : 0 < S) : t * p0 / S + t * p1 / S + t * p2 / S + t * p3 / S ≤ t ∧ t ≤ t * p0 / S + t * p1 / S + t * p2 / S + t * p3 / S + 3 := by
  have e0 := Nat.div_add_mod (t * p0) S
  have e1 := Nat.div_add_mod (t * p1) S
  have e2 := Nat.div_add_mod (t * p2) S
  have e3 := Nat.div_add_mod (t * p3) S
  have l0 := Nat.mod_lt (t * p0) h0
  have l1 := Nat.mod_lt (t * p1) h0
  have l2 := Nat.mod_lt (t * p2) h0
  have l3 := Nat.mod_lt (t * p3) h0
  generalize t * p0 / S = q0 at *
  generalize t * p1 / S = q1 at *
  generalize t * p2 / S = q2 at *
  generalize t * p3 / S = q3 at *
  generalize t * p0 % S = r0 at *
  generalize t * p1 % S = r1 at *
  generalize t * p2 % S = r2 at *
  generalize t * p3 % S = r3 at *
  have hs : S * (q0 + q1 + q2 + q3) + (r0 + r1 + r2 + r3) = S * t := by
    have e : t * p0 + t * p1 + t * p2 + t * p3 = t * S := by rw [← hS, Nat.mul_add, Nat.mul_add, Nat.mul_add]
    rw [Nat.mul_add, Nat.mul_add, Nat.mul_add, Nat.mul_comm S t]
    omega
  have h3 : S * (q0 + q1 + q2 + q3) ≤ S * t := by rw [← hs]; exact Nat.le_add_right _ _
  have h4 : S * t < S * (q0 + q1 + q2 + q3 + 4) := by
    rw [← hs, Nat.mul_add S (q0 + q1 + q2 + q3) 4]
    exact Nat.add_lt_add_left (by omega) _
  have h5 := Nat.le_of_mul_le_mul_left h3 h0
  have h6 := Nat.lt_of_mul_lt_mul_left h4
  omega
theorem hk4 {t k0 k1 k2 k3 : Nat} (h : k0 + k1 + k2 + k3 ≤ t) : k0 ≤ t ∧ k1 ≤ t ∧ k2 ≤ t ∧ k3 ≤ t := by omega
theorem st_shift {C R : eMem} (h : Rel C R) : Step (F_X9_shift C) (F_X10_shift R) := by
  unfold F_X9_shift F_X10_shift F_X1_part
  rw [h.1.1.1]
  obtain ⟨C2, R2, R3, n, a1, a2, a3, a4, a5, a6, a7, a8, a9, a10, a11, a12, a13⟩ := weigh_both h (R.1 1 0)
  rw [a1, a2]
  simp only [bS]
  rw [a3]
  simp only [bS]
  obtain ⟨p0, l0, u0, q0⟩ := a10 0 (by omega)
  obtain ⟨p1, l1, u1, q1⟩ := a10 1 (by omega)
  obtain ⟨p2, l2, u2, q2⟩ := a10 2 (by omega)
  obtain ⟨p3, l3, u3, q3⟩ := a10 3 (by omega)
  have hB : (12 : Nat) ^ 12 < 2 ^ 44 := by decide
  rw [sum_C q0 q1 q2 q3, all_nat (by omega) (by omega) (by omega) (by omega)]
  simp only [bS]
  generalize hS : p0 + p1 + p2 + p3 = S at *
  have hm : eMaxL 1 (Int64.ofNat S) = Int64.ofNat S := by
    unfold eMaxL
    by_cases q : Int64.ofNat S < 1
    · rw [Int64.lt_iff_toInt_lt, lg_ofNat_toInt (by omega), show (1 : Int64).toInt = 1 from rfl] at q
      omega
    · rw [if_neg q]
  have hz : ¬ Int64.ofNat S = 0 := fun e => by have := (o64_zero (by omega)).mp e; omega
  obtain ⟨-, -, ⟨t, ht, t6⟩, -⟩ := id a5.1.2.2.2.2.2.2.2.2.2.2.2.2.2.2.1
  have c6 : C2.1 29 9 = nI t := by rw [← t6]; exact a5.1.1.2.2.2.2.2.2.1
  rw [hm, c6, t6]
  obtain ⟨C4, b1, b2, b3, b4, b5⟩ := partC (fun v4 M => F_X1_part_83 (fun M => F_X1_part_136 eFuel 0 0 M) eFuel v4 0 M) (nI t) hz (fun i => C2.2 56 i) 4 0 rfl eFuel (by unfold eFuel; omega) C2 (nI t) c6 (fun i hi => rfl)
  obtain ⟨R4, d1, d2, d3, d4, d5⟩ := partR (fun v1 M => F_X10_shift_97 (fun M => F_X10_shift_167 eFuel 0 0 M) eFuel v1 M) (nI t) hz (fun i => C2.2 56 i) (by show C2.2 56 0 + C2.2 56 1 + C2.2 56 2 + C2.2 56 3 = _; rw [q0, q1, q2, q3, all_nat (by omega) (by omega) (by omega) (by omega), hS]) 4 0 rfl eFuel (by unfold eFuel; omega) R3 (nI t) t6 (fun i hi => (a9 i hi).symm)
  rw [show nI 0 = 0 from rfl] at b1 d1
  rw [b1, d1]
  obtain ⟨g1, g2⟩ := part_left (t := t) hS (by omega)
  have hpr : ∀ (i p : Nat), C2.2 56 i = Int64.ofNat p → p ≤ 12 ^ 12 → t * p / S ≤ t → prt (nI t) (Int64.ofNat S) (fun i => C2.2 56 i) i = nI (t * p / S) := by
    intro i p hp hp2 hle
    have hm2 : t * p ≤ 900 * 12 ^ 12 := Nat.mul_le_mul ht hp2
    have hb : (900 : Nat) * 12 ^ 12 < 2 ^ 62 := by decide
    unfold prt
    show ((nI t).toInt64 * C2.2 56 i / Int64.ofNat S).toInt32 = _
    rw [hp, nI_64 (by omega), ← Int64.ofNat_mul, o64_div (by omega) (by omega) (by omega), o64_32 (by omega)]
  have hv : sb (prt (nI t) (Int64.ofNat S) (fun i => C2.2 56 i)) 0 4 (nI t) = nI (t - (t * p0 / S + t * p1 / S + t * p2 / S + t * p3 / S)) := by
    show nI t - prt (nI t) (Int64.ofNat S) (fun i => C2.2 56 i) 0 - prt (nI t) (Int64.ofNat S) (fun i => C2.2 56 i) 1 - prt (nI t) (Int64.ofNat S) (fun i => C2.2 56 i) 2 - prt (nI t) (Int64.ofNat S) (fun i => C2.2 56 i) 3 = _
    obtain ⟨m0, m1, m2, m3⟩ : t * p0 / S ≤ t ∧ t * p1 / S ≤ t ∧ t * p2 / S ≤ t ∧ t * p3 / S ≤ t := hk4 g1
    rw [hpr 0 p0 q0 u0 m0, hpr 1 p1 q1 u1 m1, hpr 2 p2 q2 u2 m2, hpr 3 p3 q3 u3 m3]
    generalize t * p0 / S = k0 at *
    generalize t * p1 / S = k1 at *
    generalize t * p2 / S = k2 at *
    generalize t * p3 / S = k3 at *
    rw [nI_sub (by omega), nI_sub (by omega), nI_sub (by omega), nI_sub (by omega)]
    congr 1
    omega
  rw [hv]
  obtain ⟨C5, R5, e1, e2, e3, e4, e5⟩ := give_loop (fun M => F_X1_part_136 eFuel 0 0 M) (fun M => F_X10_shift_167 eFuel 0 0 M) (t - (t * p0 / S + t * p1 / S + t * p2 / S + t * p3 / S)) 0 (by omega) eFuel eFuel (by unfold eFuel; omega) (by unfold eFuel; omega) C4 R4 (fun x hx => by rw [b4 x hx, d4 x hx, if_pos (by omega), if_pos (by omega)]) (fun x hx => by rw [b5 x hx, d5 x hx, if_pos (by omega), if_pos (by omega)])
  rw [show nI 0 = 0 from rfl] at e1
  rw [e1, e2]
  have hC : ∀ q, q ≠ 39 → C5.1 q = C2.1 q := fun q hq => by rw [e3 q hq, b2 q hq]
  have hR : ∀ q, q ≠ 13 → R5.1 q = R3.1 q := fun q hq => by rw [e4 q hq, d2 q hq]
  have hrel : Rel C5 R5 := by
    refine a5.now (by rw [hC 0 (by decide)]) (fun p hp => hC p (by omega)) (by rw [hR 0 (by decide)]) (by rw [hR 0 (by decide)]) (fun p p1 p2 => hR p (by omega)) ?_
    rw [hR 1 (by decide)]
    refine a5.1.agr ?_ (fun j _ => rfl)
    simp [Agr, hC]
  have hl := held_loop 4 0 rfl eFuel eFuel (by unfold eFuel; omega) (by unfold eFuel; omega) C5 R5 0 hrel e5
  rw [show nI 0 = 0 from rfl] at hl
  obtain ⟨v, C6, R6, r1, r2, r3⟩ := hl
  exact ⟨v, C6, R6, by rw [r1]; rfl, r2, r3⟩
