/-! last -/
def SD (w n : Nat) : Nat → List Nat
  | 0 => []
  | c + 1 => Ld w n ++ SD w n c
theorem SD_len (w n : Nat) : ∀ c, (SD w n c).length = c * pcn w n := by
  intro c
  induction c with
  | zero => rw [SD, Nat.zero_mul]; rfl
  | succ c ih => rw [SD, List.length_append, ih, Ld_len, Nat.succ_mul, Nat.add_comm]
theorem frC.tr {A B D : eMem} (h1 : frC A B) (h2 : frC B D) : frC A D := fun p p1 p2 => (h2 p p1 p2).trans (h1 p p1 p2)
/-- the days of the reference -/
theorem days_R {V : Nat → Nat → Int32} {s : Nat → Int32} (hW : RelW V s) {R0 : eMem} {n z d F : Nat} (hz : z < 2147483648) (hn : n ≤ 90) (hd : d ≤ 30) (hF : F ≤ 30) (h5 : s 5 = nI F) (hp : pcn z (nS s) ≤ 9) (K : Int32 → Int32 → Int32 → eMem → Option (Int32 × eMem)) (v1 : Int32) :
    ∀ m day, day + m = d + 1 → 1 ≤ day → ∀ f, m < f → ∀ R : eMem, R.1 1 = s → dsk s R0 n R (SD z (nS s) (day - 1 - (d - (F + 1)))) (hr s + 24 * (day - 1)) →
      ∃ R3, F_X10_last_123 K f v1 (nI z) (nI d) (nI (hr s + 24 * d)) (nI day) R = K v1 (nI z) (nI d) R3 ∧ frR R R3 ∧ dsk s R0 n R3 (SD z (nS s) (min d (F + 1))) (hr s + 24 * d) := by
  obtain ⟨-, -, -, -, -, -, -, -, -, -, -, -, -, -, i1, -⟩ := id hW
  obtain ⟨⟨z0, y0⟩, -, -, -, -, ⟨z9, y9⟩, -⟩ := id i1
  intro m
  induction m with
  | zero =>
    intro day hday h1 f hf R hR hd1
    obtain ⟨f, rfl⟩ : ∃ x, f = x + 1 := ⟨f - 1, by omega⟩
    rw [F_X10_last_123, if_pos (nI_lt (by omega) (by omega))]
    rw [show day - 1 - (d - (F + 1)) = min d (F + 1) by omega, show day - 1 = d by omega] at hd1
    exact ⟨R, rfl, frR.rf, hd1⟩
  | succ m ih =>
    intro day hday h1 f hf R hR hd1
    obtain ⟨f, rfl⟩ : ∃ x, f = x + 1 := ⟨f - 1, by omega⟩
    rw [F_X10_last_123, if_neg (nI_nlt (by omega) (by omega)), hR, z0, h5, Mul_24, Mul_24, nI_add, Rad_1]
    have hcmp : nI (hr s + 24 * day) < nI (hr s + 24 * d) - nI (24 * F) ↔ day + F < d := by
      have hb : (((hr s + 24 * d : Nat) : Int) - ((24 * F : Nat) : Int)).bmod (2 ^ 32) = ((hr s + 24 * d : Nat) : Int) - ((24 * F : Nat) : Int) := by
        rw [Int.bmod_def]
        split <;> omega
      rw [Int32.lt_iff_toInt_lt, Int32.toInt_sub, nI_toInt (by omega), nI_toInt (by omega), nI_toInt (by omega), hb]
      omega
    by_cases q : day + F < d
    · rw [if_pos (hcmp.mpr q)]
      rw [show day - 1 - (d - (F + 1)) = day + 1 - 1 - (d - (F + 1)) by omega] at hd1
      exact ih (day + 1) (by omega) (by omega) f (by omega) R hR (dsk_h hd1 (by omega))
    · rw [if_neg (fun e => q (hcmp.mp e))]
      have hlen : (SD z (nS s) (day - 1 - (d - (F + 1)))).length ≤ 270 := by
        rw [SD_len]
        have : (day - 1 - (d - (F + 1))) * pcn z (nS s) ≤ 30 * 9 := Nat.mul_le_mul (by omega) hp
        omega
      obtain ⟨R2, b1, b2, b3, b4⟩ := gvR_loop hW (R0 := R0) (n := n) (T := hr s + 24 * day) (w := z) hz (by omega) (SD z (nS s) (day - 1 - (d - (F + 1)))) (by omega) (nS s) 0 (by omega) eFuel (by unfold eFuel; omega) R hR (by rw [Ld, List.nil_append]; exact dsk_h hd1 (by omega))
      rw [show nI 0 = 0 from rfl] at b1
      unfold F_X10_give
      rw [b1]
      simp only [bS]
      obtain ⟨R3, c1, c2, c3⟩ := ih (day + 1) (by omega) (by omega) f (by omega) R2 ((b2.1 1 (by omega)).trans hR) (by
        rw [show day + 1 - 1 - (d - (F + 1)) = day - 1 - (d - (F + 1)) + 1 by omega, show day + 1 - 1 = day by omega, SD]
        exact b4)
      exact ⟨R3, c1, b2.tr c2, c3⟩
/-- the days of the class -/
theorem day_C {s : Nat → Int32} {z : Nat} (hz : z < 2147483648) (K : Int32 → Int32 → Int32 → Int32 → eMem → Option eMem) (v2 v5 : Int32) : ∀ i, i ≤ nS s → ∀ f, i < f → ∀ (r : Nat) (M : eMem), r < 1000 → RelW M.1 s →
    ∃ M2, F_X3_putDaily_41 K f (nI z) v2 (nI r) v5 (nI i - 1) M = K (nI z) v2 (nI (r - (Ld z i).length)) v5 M2 ∧ M2.1 = M.1 ∧ (∀ q, q ≠ 56 → M2.2 q = M.2 q) ∧ ∀ x, x < 4 → M2.2 56 x = M.2 56 x * pl s x ((Ld z i).take r) := by
  intro i
  induction i with
  | zero =>
    intro hi f hf r M hr hW
    obtain ⟨f, rfl⟩ : ∃ x, f = x + 1 := ⟨f - 1, by omega⟩
    rw [F_X3_putDaily_41, if_pos (by decide)]
    exact ⟨M, rfl, rfl, fun _ _ => rfl, fun x hx => by rw [Ld, List.take_nil, pl, Int64.mul_one]⟩
  | succ i ih =>
    intro hi f hf r M hr hW
    obtain ⟨f, rfl⟩ : ∃ x, f = x + 1 := ⟨f - 1, by omega⟩
    obtain ⟨wSc, -, -, -, -, -, wSh, -, -, -, -, -, -, -, i1, -, -, i4, -⟩ := id hW
    obtain ⟨-, -, -, -, -, ⟨z9, y9⟩, -⟩ := id i1
    rw [F_X3_putDaily_41, nI_pred, if_neg (nI_pos (by omega))]
    rcases Nat.eq_zero_or_pos r with q0 | q0
    · subst q0
      rw [if_neg (by decide)]
      exact ⟨M, by rw [Nat.zero_sub], rfl, fun _ _ => rfl, fun x hx => by rw [List.take_zero, pl, Int64.mul_one]⟩
    · obtain ⟨r, rfl⟩ : ∃ x, r = x + 1 := ⟨r - 1, by omega⟩
      have g1 := (gv_both (C := M) (R := ((fun _ => s, fun _ _ => 0) : eMem)) hW (k := i) (show i < nS s by omega)).1
      rw [if_pos ((gt_lit (n := 0) rfl (by omega)).mpr (by omega)), bit_n hz (by omega), eIn_s (show i < 20 by omega) (by omega), cl (show i < 2147483648 by omega), (wSh i (by omega)).2.1, g1, nI_dec, show nI i + (-1) = nI i - 1 from (Int32.sub_eq_add_neg ..).symm]
      simp only [bS, eG_tt]
      rw [Ld]
      by_cases q : z.testBit i = true
      · rw [if_pos q, if_pos q, if_neg (by decide)]
        obtain ⟨g, gg1, gg2⟩ := gvf_n i4 (show i < nS s by omega)
        obtain ⟨M2, b1, b2, b3, b4⟩ := X3_put (s (299 + 10 * i)) 1 (v := g) (by omega) M
        show ∃ M3, ((F_X3_put (s (299 + 10 * i)) 1 (gvf s i) M).bind fun q4 => F_X3_putDaily_41 K f (nI z) v2 (nI r) v5 (nI i - 1) q4) = K (nI z) v2 _ v5 M3 ∧ _
        rw [gg2, b1]
        simp only [bS]
        obtain ⟨M3, c1, c2, c3, c4⟩ := ih (by omega) f (by omega) r M2 (by omega) (by rw [b2]; exact hW)
        refine ⟨M3, by rw [c1, List.length_cons, show r + 1 - ((Ld z i).length + 1) = r - (Ld z i).length by omega], c2.trans b2, fun q hq => (c3 q hq).trans (b3 q hq), fun x hx => ?_⟩
        rw [c4 x hx, b4 x hx, List.take_succ_cons, pl, Int64.mul_assoc, Int64.mul_comm (pl s x _)]
        unfold fs
        rw [gg2]
      · rw [if_neg q, if_neg q, if_pos rfl]
        exact ih (by omega) f (by omega) (r + 1) M hr hW
theorem days_C {s : Nat → Int32} {z days : Nat} (hz : z < 2147483648) (hd : days < 1000) : ∀ m v5, v5 + m = days → ∀ f, m < f → ∀ (r : Nat) (M : eMem), r < 1000 → RelW M.1 s →
    ∃ M2, F_X3_putDaily_22 f (nI z) (nI days) (nI r) (nI v5) M = some M2 ∧ M2.1 = M.1 ∧ (∀ q, q ≠ 56 → M2.2 q = M.2 q) ∧ ∀ x, x < 4 → M2.2 56 x = M.2 56 x * pl s x ((SD z (nS s) m).take r) := by
  intro m
  induction m with
  | zero =>
    intro v5 hv f hf r M hr hW
    obtain ⟨f, rfl⟩ : ∃ x, f = x + 1 := ⟨f - 1, by omega⟩
    rw [F_X3_putDaily_22, if_neg (nI_nlt (by omega) (by omega))]
    exact ⟨M, rfl, rfl, fun _ _ => rfl, fun x hx => by rw [SD, List.take_nil, pl, Int64.mul_one]⟩
  | succ m ih =>
    intro v5 hv f hf r M hr hW
    obtain ⟨f, rfl⟩ : ∃ x, f = x + 1 := ⟨f - 1, by omega⟩
    obtain ⟨wSc, -, -, -, -, -, -, -, -, -, -, -, -, -, i1, -⟩ := id hW
    obtain ⟨-, -, -, -, -, ⟨z9, y9⟩, -⟩ := id i1
    rw [F_X3_putDaily_22, if_pos (nI_lt (by omega) (by omega)), wSc.2.2.2.2.2.2.2.2.2.1, z9]
    rcases Nat.eq_zero_or_pos r with q0 | q0
    · subst q0
      rw [if_neg (by decide)]
      exact ⟨M, rfl, rfl, fun _ _ => rfl, fun x hx => by rw [List.take_zero, pl, Int64.mul_one]⟩
    · rw [if_pos ((gt_lit (n := 0) rfl (by omega)).mpr (by omega))]
      obtain ⟨M2, b1, b2, b3, b4⟩ := day_C (s := s) hz (fun v1 v2 v4 v5 M => F_X3_putDaily_22 f v1 v2 v4 (v5 + 1) M) (nI days) (nI v5) (nS s) (Nat.le_refl _) eFuel (by unfold eFuel; omega) r M hr hW
      rw [b1, Rad_1]
      obtain ⟨M3, c1, c2, c3, c4⟩ := ih (v5 + 1) (by omega) f (by omega) (r - (Ld z (nS s)).length) M2 (by omega) (by rw [b2]; exact hW)
      refine ⟨M3, c1, c2.trans b2, fun q hq => (c3 q hq).trans (b3 q hq), fun x hx => ?_⟩
      rw [c4 x hx, b4 x hx, SD, List.take_append, pl_app, Int64.mul_assoc]
/-- the shows of a set that are shown: the reference's loop -/
theorem last_set {C R : eMem} (hW : RelW C.1 (R.1 1)) {w u : Nat} (hw : w < 2147483648) (hu : ∀ k, k < nS (R.1 1) → F_X10_isShown (nI k) R = some (bv (u.testBit k))) (v1 : Int32) (K : Int32 → Int32 → eMem → Option (Int32 × eMem)) : ∀ m j, j + m = nS (R.1 1) → ∀ f, m < f → ∀ v, v < 2 ^ j → (∀ k, k < j → v.testBit k = (w.testBit k && u.testBit k)) →
    ∃ v', F_X10_last_42 K f v1 (nI w) (nI v) (nI j) R = K v1 (nI v') R ∧ v' < 2 ^ nS (R.1 1) ∧ ∀ k, k < nS (R.1 1) → v'.testBit k = (w.testBit k && u.testBit k) := by
  obtain ⟨wSc, -, -, -, -, -, -, -, -, -, -, -, -, -, i1, -⟩ := id hW
  obtain ⟨-, -, -, -, -, ⟨z9, y9⟩, -⟩ := id i1
  intro m
  induction m with
  | zero =>
    intro j hj f hf v hv hb
    obtain ⟨f, rfl⟩ : ∃ x, f = x + 1 := ⟨f - 1, by omega⟩
    have e : j = nS (R.1 1) := by omega
    rw [F_X10_last_42, z9, if_neg (nI_nlt (by omega) (by omega))]
    rw [e] at hv hb
    exact ⟨v, rfl, hv, hb⟩
  | succ m ih =>
    intro j hj f hf v hv hb
    obtain ⟨f, rfl⟩ : ∃ x, f = x + 1 := ⟨f - 1, by omega⟩
    have hp : 2 ^ (j + 1) = 2 ^ j + 2 ^ j := by rw [Nat.pow_succ]; omega
    rw [F_X10_last_42, z9, if_pos (nI_lt (by omega) (by omega)), bit_n hw (by omega), or0, Rad_1, hu j (by omega)]
    have hno : (w.testBit j && u.testBit j) = false → ∃ v', F_X10_last_42 K f v1 (nI w) (nI v) (nI (j + 1)) R = K v1 (nI v') R ∧ v' < 2 ^ nS (R.1 1) ∧ ∀ k, k < nS (R.1 1) → v'.testBit k = (w.testBit k && u.testBit k) := fun q =>
      ih (j + 1) (by omega) f (by omega) v (by omega) (fun k hk => by
        by_cases e : k = j
        · subst e; rw [q]; exact tb_out hv (Nat.le_refl _)
        · exact hb k (by omega))
    by_cases q : w.testBit j = true
    · rw [if_pos q, if_pos rfl]
      simp only [bS]
      by_cases q2 : u.testBit j = true
      · rw [q2, bv, if_pos rfl, if_neg (by decide), or_bit hv (by omega)]
        exact ih (j + 1) (by omega) f (by omega) (2 ^ j + v) (by omega) (fun k hk => by
          by_cases e : k = j
          · subst e; rw [tb_new hv, q, q2]; rfl
          · rw [tb_old (by omega)]; exact hb k (by omega))
      · rw [bv, if_neg q2, if_pos rfl]
        exact hno (by rw [q]; simpa using q2)
    · rw [if_neg q, if_neg (by decide)]
      exact hno (by simp [q])
theorem last_loop {C R : eMem} (h : Rel C R) {z st : Nat} (hz : z < 2 ^ nS (R.1 1)) (hz2 : z < 1048576) (hp : pcn z 20 ≤ 9) : ∀ m d, d + m = 31 → 1 ≤ d → ∀ f1 f2, m < f1 → m < f2 → ∀ M R2, frC C M → frR R R2 →
    ∃ M3 R3, frC C M3 ∧ frR R R3 ∧ ((F_X8_firstDayWithout_2 f1 (nI st) (nI z) (nI d) M = some (-1, M3) ∧ F_X10_last_93 f2 (nI st) (nI z) (nI d) R2 = (F_X10_finding 4 R3).bind fun q6 => some (q6.1, q6.2)) ∨ ∃ g, g < 1000 ∧ F_X8_firstDayWithout_2 f1 (nI st) (nI z) (nI d) M = some (nI g, M3) ∧ F_X10_last_93 f2 (nI st) (nI z) (nI d) R2 = some (nI g, R3)) := by
  intro m
  induction m with
  | zero =>
    intro d hd h1 f1 f2 g1 g2 M R2 hM hR2
    obtain ⟨f1, rfl⟩ : ∃ x, f1 = x + 1 := ⟨f1 - 1, by omega⟩
    obtain ⟨f2, rfl⟩ : ∃ x, f2 = x + 1 := ⟨f2 - 1, by omega⟩
    have e : (30 : Int32) < nI d := (gt_lit (n := 30) rfl (by omega)).mpr (by omega)
    rw [F_X8_firstDayWithout_2, F_X10_last_93, if_pos e, if_pos e]
    exact ⟨M, R2, hM, hR2, Or.inl ⟨rfl, rfl⟩⟩
  | succ m ih =>
    intro d hd h1 f1 f2 g1 g2 M R2 hM hR2
    obtain ⟨f1, rfl⟩ : ∃ x, f1 = x + 1 := ⟨f1 - 1, by omega⟩
    obtain ⟨f2, rfl⟩ : ∃ x, f2 = x + 1 := ⟨f2 - 1, by omega⟩
    have hR21 : R2.1 1 = R.1 1 := hR2.1 1 (by omega)
    have hRel : Rel M R2 := fr_Rel h hM hR2
    obtain ⟨wSc, -, -, -, -, -, -, -, -, -, -, -, -, -, i1, -⟩ := id hRel.1
    rw [hR21] at wSc i1
    obtain ⟨⟨z0, y0⟩, ⟨F, F1, F2, F3⟩, -, -, -, ⟨z9, y9⟩, -⟩ := id i1
    obtain ⟨C2, R3, n, a1, a2, a3, a4, a5, a6, a7, a8, a9, a10, a11⟩ := desk_fb hRel (hr (R.1 1) + 24 * d)
    rw [hR21] at a8
    rw [scales_load] at a1
    have e : ¬ (30 : Int32) < nI d := fun q => by have := (gt_lit (n := 30) rfl (by omega)).mp q; omega
    rw [F_X8_firstDayWithout_2, F_X10_last_93, if_neg e, if_neg e, wSc.1, hR21, z0, Mul_24, nI_add, a1, a2]
    simp only [bS]
    have hWM : RelW M.1 (R.1 1) := by rw [← hR21]; exact hRel.1
    have hWC : RelW C2.1 (R.1 1) := by
      have hq := a4
      unfold frC at hq
      refine hWM.agr ?_ (fun j _ => rfl)
      simp [Agr, hq]
    have hpn : pcn z (nS (R.1 1)) = pcn z 20 := by
      have := pcn_out hz (20 - nS (R.1 1))
      rw [show nS (R.1 1) + (20 - nS (R.1 1)) = 20 by omega] at this
      exact this.symm
    have hR31 : R3.1 1 = R.1 1 := (a5.1 1 (by omega)).trans hR21
    -- the reference's days
    obtain ⟨R4, b1, b2, b3⟩ := days_R hWC (R0 := R3) (n := n) (z := z) (d := d) (F := F) (by omega) a3 (by omega) F2 F3 (by omega) (fun v1 v3 v4 M => (F_X10_weigh M).bind fun q9 => (F_X10_greatest q9).bind fun q10 => if q10 = v1 then F_X10_last_93 f2 v1 v3 (v4 + 1) q9 else some (v4, q9)) (nI st) d 1 (by omega) (by omega) eFuel (by unfold eFuel; omega) R3 hR31 (by
      rw [show 1 - 1 - (d - (F + 1)) = 0 by omega, SD]
      exact dsk_0 a7 (fun i hi => by obtain ⟨g, k1, k2⟩ := a8 i hi; exact ⟨g, by omega, k2⟩) a9 a10)
    rw [show nI 1 = 1 from rfl] at b1
    rw [b1]
    obtain ⟨d1, d2, d3, d4, d5⟩ := b3
    have hE : (SD z (nS (R.1 1)) (min d (F + 1))).length = min d (F + 1) * pcn z 20 := by rw [SD_len, hpn]
    have hEle : min d (F + 1) * pcn z 20 ≤ 30 * 9 := Nat.mul_le_mul (by omega) hp
    generalize hEq : min d (F + 1) * pcn z 20 = E at *
    rw [hE] at d1 d2 d3 d4 d5
    obtain ⟨R5, e1, e2, e3, e4⟩ := weigh_n (R := R4) (N := n + E) (by omega) d1 d3 d4
    rw [e1]
    simp only [bS]
    -- the class's days
    have hF8 : C2.1 29 8 = nI F := by rw [a4 29 (by decide) (by decide), wSc.2.2.2.2.2.1]; exact F3
    unfold F_X3_putDaily
    rw [hF8, Rad_1, eMin_nat (by omega) (by omega), bc_eq hz2]
    simp only [bS]
    rw [nI_mul, Nat.mul_comm (pcn z 20), hEq, show (12 : Int32) = nI 12 from rfl, eMin_nat (by omega) (by omega)]
    obtain ⟨M2, f1', f2', f3', f4'⟩ := leave_room (C := C2) (m := min n 12) (e := min 12 E) (by omega) (by omega) a6
    rw [f1']
    simp only [bS]
    obtain ⟨M3, k1, k2, k3, k4⟩ := days_C (s := R.1 1) (z := z) (days := min d (F + 1)) (by omega) (by omega) (min d (F + 1)) 0 (by omega) eFuel (by unfold eFuel; omega) (min 12 E) M2 (by omega) (by rw [f2']; exact hWC)
    rw [show nI 0 = 0 from rfl] at k1
    rw [k1]
    simp only [bS]
    have hfin : ∀ x, x < 4 → M3.2 56 x = R5.2 12 x := by
      intro x hx
      rw [k4 x hx, f4' x hx, a11 _ _ (by omega) hx, e3 x hx, d5 x _ (by omega), Int64.mul_comm]
      by_cases q : E < 12
      · rw [List.take_of_length_le (by omega), List.take_of_length_le (by omega)]
        congr 2
        omega
      · rw [show min 12 E = 12 by omega, show min (n + E) 12 = 12 by omega]
        congr 2
        omega
    obtain ⟨u, u1, u2, u3⟩ := heavy_both hfin
    rw [u2, u3]
    simp only [bS]
    have hM3 : frC C M3 := hM.tr (fun p p1 p2 => by rw [k2, f2']; exact a4 p p1 p2)
    have hR5 : frR R R5 := by
      rw [frR, e2]
      exact (hR2.tr a5).tr b2
    by_cases q : nI u = nI st
    · rw [if_pos q, if_pos q, Rad_1]
      exact ih (d + 1) (by omega) (by omega) f1 f2 (by omega) (by omega) M3 R5 hM3 hR5
    · rw [if_neg q, if_neg q]
      exact ⟨M3, R5, hM3, hR5, Or.inr ⟨d, by omega, rfl, rfl⟩⟩
theorem st_last {C R : eMem} (h : Rel C R) (x1 x2 : Int32) : Step (F_X9_last x1 x2 C) (F_X10_last x1 x2 R) := by
  obtain ⟨wSc, wGr, wRo, wUn, wPl, wHe, wSh, wRe, wFl, wLi, wBo, wTx, wTc, wz, i1, i2, i3, i4, i5, i6⟩ := id h.1; obtain ⟨c0, c1, c2, c3, c4, c5, c6, c7, c8, c9, c10, c11, c12, c13⟩ := id wSc; obtain ⟨⟨z0, y0⟩, ⟨f5, g5, y5, z5⟩, ⟨t6, y6, z6⟩, ⟨z7, y7⟩, ⟨z8, y8⟩, ⟨z9, y9⟩, ⟨z10, y10⟩, ⟨z11, y11⟩, ⟨z12, y12⟩, ⟨z13, y13⟩⟩ := id i1
  unfold F_X9_last F_X10_last
  rw [isStory_eq]
  rcases rng x1 4 3 4 rfl rfl with ⟨k, hk, rfl, e1, e2⟩ | ⟨e1, e2⟩ <;> rw [e1, e2]
  · simp only [bS, i10, ↓reduceIte]
    rcases set_both h.1 x2 with ⟨w, rfl, w1, w2, w3, w4⟩ | ⟨w3, w4⟩ <;> rw [w3, w4]
    · simp only [bS, i10, ↓reduceIte]
      rw [bc_eq w2, ones_eq (by omega)]
      simp only [bS]
      have hpc := pcn_le w 20
      by_cases q : 9 < pcn w 20
      · rw [if_pos ((nI9 (by omega)).mpr q), if_pos ((nI9 (by omega)).mpr q)]
        exact stf7 h
      · rw [if_neg (fun e => q ((nI9 (by omega)).mp e)), if_neg (fun e => q ((nI9 (by omega)).mp e))]
        obtain ⟨u, C1, u1, u2, u3, u4⟩ := shownSet_both h.1
        have h1 := u2.R h
        obtain ⟨v, v1, v2, v3⟩ := last_set h.1 (w := w) (u := u) (by omega) u4 (nI k) (fun v1 v3 M => F_X10_last_93 eFuel v1 v3 1 M) (nS (R.1 1)) 0 (by omega) eFuel (by unfold eFuel; omega) 0 (by omega) (fun k hk => by omega)
        rw [show nI 0 = 0 from rfl] at v1
        rw [u1, v1]
        simp only [bS]
        have hub : u < 2147483648 := Nat.lt_of_lt_of_le u3 (Nat.le_trans (Nat.pow_le_pow_right (by omega) y9) (by decide))
        have hv : w &&& u = v := by
          apply Nat.eq_of_testBit_eq
          intro i
          rw [Nat.testBit_and]
          by_cases hi : i < nS (R.1 1)
          · rw [v3 i hi]
          · rw [tb_out w1 (by omega), tb_out v2 (by omega)]; rfl
        rw [and_n _ _ (by omega) hub, hv]
        have hsub : v &&& w = v := by rw [← hv, Nat.and_comm w u, Nat.and_assoc, Nat.and_self]
        have hpv := pcn_mono hsub 20
        have hle : v ≤ w := by rw [← hsub]; exact Nat.and_le_right
        unfold F_X8_firstDayWithout
        obtain ⟨M3, R3, c1, c2, c3⟩ := last_loop h1 (z := v) (st := k) v2 (by omega) (by omega) 30 1 (by omega) (by omega) eFuel eFuel (by unfold eFuel; omega) (by unfold eFuel; omega) C1 R (fun _ _ _ => rfl) frR.rf
        rw [show nI 1 = 1 from rfl] at c3
        have hr3 := fr_Rel h1 c1 c2
        rcases c3 with ⟨d1, d2⟩ | ⟨g, g1, d1, d2⟩
        · rw [d1, d2]
          simp only [bS, ↓reduceIte]
          exact stf4 hr3
        · rw [d1, d2]
          simp only [bS]
          rw [if_neg (fun e => by have := nI_pos (n := g) (by omega); rw [e] at this; exact this (by decide))]
          exact stepI rfl hr3
    · simp only [bS, i10, i00, ↓reduceIte]
      exact stf1 h
  · simp only [bS, i10, i00, ↓reduceIte]
    exact stf1 h
