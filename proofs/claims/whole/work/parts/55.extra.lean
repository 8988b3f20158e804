/-! more evidence than the reports -/
theorem eMin_nat {a b : Nat} (ha : a < 2147483648) (hb : b < 2147483648) : eMin (nI a) (nI b) = nI (min a b) := by
  unfold eMin
  by_cases q : b < a
  · rw [if_pos (nI_lt q (by omega)), show min a b = b by omega]
  · rw [if_neg (nI_nlt (by omega) (by omega)), show min a b = a by omega]
theorem eMax0 {a : Nat} (ha : a < 2147483648) : eMax 0 (nI a) = nI a := by
  unfold eMax
  by_cases q : (0 : Int32) < nI a
  · rw [if_pos q]
  · rw [if_neg q]
    have : a = 0 := by
      rcases Nat.eq_zero_or_pos a with h | h
      · exact h
      · exact absurd ((gt_lit (n := 0) rfl ha).mpr (by omega)) q
    rw [this]; rfl
theorem pu_cons (f : Nat → Int64) : ∀ j, pu f (j + 1) = f 0 * pu (fun i => f (i + 1)) j := by
  intro j
  induction j with
  | zero => rw [pu, pu, pu, Int64.one_mul, Int64.mul_one]
  | succ j ih => rw [pu, ih, pu, Int64.mul_assoc]
/-- the weight of the latest ones of a row -/
def gw (R : eMem) (N x j : Nat) : Int64 := pu (fun i => fac (R.1 9 (N - 1 - i)) (R.1 10 (N - 1 - i)) (R.1 11 (N - 1 - i)) x) j
def upTo (R : eMem) (N h : Nat) : Prop := ∀ i, i < N → ∃ g, g ≤ h ∧ R.1 8 i = nI g
def isB (R : eMem) (N : Nat) : Prop := ∀ i, i < N → R.1 10 i = 0 ∨ R.1 10 i = 1
theorem X10_app {R : eMem} {N h : Nat} (hN : N < 800) (hh : h < 2147483648) (h13 : R.1 0 13 = nI N) (hu : upTo R N h) (v2 v3 v4 : Int32) : ∃ R2, F_X10_more (nI h) v2 v3 v4 R = some R2 ∧ (∀ a, (1 ≤ a ∧ a < 8) ∨ 11 < a → R2.1 a = R.1 a) ∧ R2.2 = R.2 ∧ (∀ i, i ≠ 13 → R2.1 0 i = R.1 0 i) ∧ R2.1 0 13 = nI (N + 1) ∧ upTo R2 (N + 1) h ∧ (isB R N → (v3 = 0 ∨ v3 = 1) → isB R2 (N + 1)) ∧ ∀ x j, j ≤ N → gw R2 (N + 1) x (j + 1) = gw R N x j * fac v2 v3 v4 x := by
  obtain ⟨R2, a1, a2, a3, a4, a5, a6⟩ := X10_ins (R := R) (nI h) v2 v3 v4 (q := N) (n := N) (Nat.le_refl _) hN h13 (fun i hi => by
    obtain ⟨g, g1, g2⟩ := hu i hi
    rw [g2]
    exact ⟨fun q => absurd q (nI_nlt g1 (by omega)), fun q => by omega⟩)
  have old : ∀ i, i < N → R2.1 8 i = R.1 8 i ∧ R2.1 9 i = R.1 9 i ∧ R2.1 10 i = R.1 10 i ∧ R2.1 11 i = R.1 11 i := fun i hi => by
    obtain ⟨b1, b2, b3, b4⟩ := a6 i (by omega)
    rw [if_pos hi] at b1 b2 b3 b4
    exact ⟨b1, b2, b3, b4⟩
  have new : R2.1 8 N = nI h ∧ R2.1 9 N = v2 ∧ R2.1 10 N = v3 ∧ R2.1 11 N = v4 := by
    obtain ⟨b1, b2, b3, b4⟩ := a6 N (Nat.le_refl _)
    rw [if_neg (by omega), if_pos rfl] at b1 b2 b3 b4
    exact ⟨b1, b2, b3, b4⟩
  refine ⟨R2, a1, a2, a3, a4, a5, fun i hi => ?_, fun hb hv i hi => ?_, fun x j hj => ?_⟩
  · by_cases e : i = N
    · subst e; exact ⟨h, Nat.le_refl _, new.1⟩
    · rw [(old i (by omega)).1]; exact hu i (by omega)
  · by_cases e : i = N
    · subst e; rw [new.2.2.1]; exact hv
    · rw [(old i (by omega)).2.2.1]; exact hb i (by omega)
  · unfold gw
    rw [pu_cons, Int64.mul_comm]
    congr 1
    · refine pu_cg _ (fun i hi => ?_)
      obtain ⟨-, b2, b3, b4⟩ := old (N - 1 - i) (by omega)
      show fac (R2.1 9 (N + 1 - 1 - (i + 1))) (R2.1 10 (N + 1 - 1 - (i + 1))) (R2.1 11 (N + 1 - 1 - (i + 1))) x = _
      rw [show N + 1 - 1 - (i + 1) = N - 1 - i by omega, b2, b3, b4]
    · show fac (R2.1 9 (N + 1 - 1 - 0)) (R2.1 10 (N + 1 - 1 - 0)) (R2.1 11 (N + 1 - 1 - 0)) x = _
      rw [show N + 1 - 1 - 0 = N by omega, new.2.1, new.2.2.1, new.2.2.2]
theorem leave_room {C : eMem} {m e : Nat} (hm : m ≤ 12) (he : e ≤ 12) (h55 : C.1 55 2 = nI m) : ∃ C2, F_X3_leaveRoomFor (nI e) C = some C2 ∧ C2.1 = C.1 ∧ (∀ q, q ≠ 56 → C2.2 q = C.2 q) ∧ ∀ x, x < 4 → C2.2 56 x = C.2 (59 + min m (12 - e)) x := by
  unfold F_X3_leaveRoomFor
  rw [h55, show (12 : Int32) = nI 12 from rfl, nI_sub he, eMin_nat (by omega) (by omega), eMax0 (by omega), eIn_s (by omega) (by omega), cl (by omega), eG_tt]
  have hcp : ∀ q, (eCpyL C (59 + min m (12 - e)) 56 0 0 4).2 q = if q = 56 then va_cpy (C.2 (59 + min m (12 - e))) (C.2 56) 0 0 4 else C.2 q := fun q => rfl
  refine ⟨_, rfl, rfl, fun q hq => by rw [hcp, if_neg hq], fun x hx => ?_⟩
  rw [hcp, if_pos rfl, va_cpy, if_pos (by omega), show 0 + (x - 0) = x by omega]
/-- the desk of an hour, with room for e more -/
theorem desk_room {C R : eMem} (h : Rel C R) (T : Nat) : ∃ C2 R2 n, F_X8_scalesAt (nI T) C = some C2 ∧ F_X10_gather (nI T) R = some R2 ∧ n ≤ 90 ∧ frC C C2 ∧ frR R R2 ∧ C2.1 55 2 = nI (min n 12) ∧ R2.1 0 13 = nI n ∧ upTo R2 n (hr (R.1 1)) ∧ isB R2 n ∧ (∀ i x, i ≤ min n 12 → x < 4 → C2.2 (59 + i) x = gw R2 n x i) := by
  obtain ⟨C2, R2, n, d, a1, a2, a3, a4, a5, a6, ⟨b1, b2, b3⟩, a8, a9, e1, e2⟩ := desk_both h (nI T)
  obtain ⟨-, -, -, -, -, -, -, -, -, -, -, -, -, -, i1, -, -, -, i5, -⟩ := id h.1
  have y10 := i1.2.2.2.2.2.2.1.2
  refine ⟨C2, R2, n, a1, a2, by omega, a3, a5, a8.1, a9.1, fun i hi => ?_, fun i hi => ?_, fun i x hi hx => ?_⟩
  · rw [(a9.2 i hi).1]
    exact (i5 _ (b3 _ (by omega))).2.2.2.1
  · rw [(a9.2 i hi).2.2.1]
    exact (i5 _ (b3 _ (by omega))).2.2.1
  · rw [e2 i x hi hx]
    unfold gw
    refine pu_cg _ (fun j hj => ?_)
    obtain ⟨q1, q2, q3, q4⟩ := a9.2 (n - 1 - j) (by omega)
    rw [q2, q3, q4, show n - 1 - (n - 1 - j) = j by omega]
    rfl
theorem st_slip {C R : eMem} (h : Rel C R) (x1 : Int32) : Step (F_X9_slip x1 C) (F_X10_slip x1 R) := by
  obtain ⟨wSc, wGr, wRo, wUn, wPl, wHe, wSh, wRe, wFl, wLi, wBo, wTx, wTc, wz, i1, i2, i3, i4, i5, i6⟩ := id h.1; obtain ⟨c0, c1, c2, c3, c4, c5, c6, c7, c8, c9, c10, c11, c12, c13⟩ := id wSc; obtain ⟨⟨z0, y0⟩, ⟨f5, g5, y5, z5⟩, ⟨t6, y6, z6⟩, ⟨z7, y7⟩, ⟨z8, y8⟩, ⟨z9, y9⟩, ⟨z10, y10⟩, ⟨z11, y11⟩, ⟨z12, y12⟩, ⟨z13, y13⟩⟩ := id i1
  unfold F_X9_slip F_X10_slip
  rw [has_eq, isShow_eq, c9]
  rcases rngN x1 (R.1 1 9) _ z9 (by omega) with ⟨k, hk, rfl, e1, e2⟩ | ⟨e1, e2⟩ <;> rw [e1, e2]
  · simp only [bS, i10, ↓reduceIte]
    obtain ⟨C2, R2, n, a1, a2, a3, a4, a5, a6, a7, a8, a9, a10⟩ := desk_room h (hr (R.1 1))
    rw [c0, z0, a1, a2]
    simp only [bS]
    have hR1 : R2.1 1 = R.1 1 := a5.1 1 (by omega)
    obtain ⟨C3, b1, b2, b3, b4⟩ := leave_room (C := C2) (m := min n 12) (e := 1) (by omega) (by omega) a6
    rw [show nI 1 = 1 from rfl] at b1
    rw [b1, show_1 k R2 (by omega), hR1]
    simp only [bS]
    rw [z0, eIn_s (show k < 20 by omega) (by omega), cl (show k < 2147483648 by omega), eG_tt, b2, a4 14 (by decide) (by decide), (wSh k hk).2.1]
    obtain ⟨C4, d1, d2, d3, d4⟩ := X3_put (R.1 1 (299 + 10 * k)) 0 (v := 4) (by omega) C3
    obtain ⟨R3, f1, f2, f3, f4, f5, f6, f7, f8⟩ := X10_app (R := R2) (N := n) (h := hr (R.1 1)) (by omega) (by omega) a7 a8 (R.1 1 (299 + 10 * k)) 0 4
    rw [show nI 4 = 4 from rfl] at d1 d4
    rw [d1, f1]
    simp only [bS]
    obtain ⟨R4, g1, g2, g3, g4⟩ := X10_weigh (R := R3) (n := n + 1) (by omega) f5 (f7 a9 (Or.inl rfl))
    rw [g1]
    simp only [bS]
    obtain ⟨u, -, u1, u2⟩ := heavy_both (C := C4) (R := R4) (fun x hx => by
      have e : gw R3 (n + 1) x (min (n + 1) 12) = R4.2 12 x := (g4 x hx).symm
      rw [d4 x hx, b4 x hx, show min (min n 12) (12 - 1) = min n 11 by omega, a10 _ _ (by omega) hx, ← e, show min (n + 1) 12 = min n 11 + 1 by omega, f8 x (min n 11) (by omega)])
    rw [u1, u2]
    simp only [bS]
    refine stepI rfl (fr_Rel h ?_ ?_)
    · intro p p1 p2; rw [d2, b2]; exact a4 p p1 p2
    · rw [frR, g2]
      exact ⟨fun a ha => by rw [f2 a (by omega)]; exact a5.1 a ha, fun i hi => by rw [f4 i hi]; exact a5.2 i hi⟩
  · simp only [bS, i10, i00, ↓reduceIte]
    exact stf1 h
