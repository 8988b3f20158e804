/-! shows that give -/
def gvf (s : Nat → Int32) (k : Nat) : Int32 := if s (298 + 10 * k) = 3 then 1 else if s (298 + 10 * k) = 4 then s (301 + 10 * k) else if s (298 + 10 * k) = 5 then s (301 + 10 * k) else if s (298 + 10 * k) = 6 then 0 else 2
theorem gvf_n {s : Nat → Int32} (i4 : iSh s) {k : Nat} (hk : k < nS s) : ∃ g, g ≤ 11 ∧ gvf s k = nI g := by
  obtain ⟨⟨x, x1, x2⟩, -, ⟨y, y1, y2, y3⟩, -⟩ := i4 k hk
  unfold gvf
  by_cases q3 : s (298 + 10 * k) = 3
  · rw [if_pos q3]; exact ⟨1, by omega, rfl⟩
  · have y4 : y ≤ 11 := by
      rcases y3 with h | h
      · exact h
      · exact absurd h q3
    rw [if_neg q3]
    by_cases q4 : s (298 + 10 * k) = 4
    · rw [if_pos q4]; exact ⟨y, y4, y2⟩
    · rw [if_neg q4]
      by_cases q5 : s (298 + 10 * k) = 5
      · rw [if_pos q5]; exact ⟨y, y4, y2⟩
      · rw [if_neg q5]
        by_cases q6 : s (298 + 10 * k) = 6
        · rw [if_pos q6]; exact ⟨0, by omega, rfl⟩
        · rw [if_neg q6]; exact ⟨2, by omega, rfl⟩
theorem gv_both {C R : eMem} (hW : RelW C.1 (R.1 1)) {k : Nat} (hk : k < nS (R.1 1)) : F_X5_credit (nI k) C = some (gvf (R.1 1) k) ∧ F_X10_giveOf (nI k) R = some (gvf (R.1 1) k) := by
  obtain ⟨-, -, -, -, -, -, wSh, -, -, -, -, -, -, -, i1, -, -, i4, -⟩ := id hW
  obtain ⟨-, -, -, -, -, ⟨z9, y9⟩, -⟩ := id i1
  obtain ⟨a0, -, -, a3, -⟩ := wSh k hk
  obtain ⟨⟨x, x1, x2⟩, -⟩ := i4 k hk
  unfold F_X5_credit F_X10_giveOf gvf
  rw [eIn_s (show k < 20 by omega) (by omega), cl (show k < 2147483648 by omega), a0, a3, show_0 k R (by omega), show_3 k R (by omega), x2]
  simp only [eG_tt, bS]
  refine ⟨?_, ?_⟩
  · split
    · rfl
    · split
      · rfl
      · split
        · rfl
        · split <;> rfl
  · rcases (show x = 0 ∨ x = 1 ∨ x = 2 ∨ x = 3 ∨ x = 4 ∨ x = 5 ∨ x = 6 by omega) with rfl | rfl | rfl | rfl | rfl | rfl | rfl
    · rfl
    · rfl
    · rfl
    · rfl
    · rfl
    · rfl
    · rfl
def fs (s : Nat → Int32) (k x : Nat) : Int64 := fac (s (299 + 10 * k)) 1 (gvf s k) x
def pl (s : Nat → Int32) (x : Nat) : List Nat → Int64
  | [] => 1
  | k :: l => pl s x l * fs s k x
def Ld (w : Nat) : Nat → List Nat
  | 0 => []
  | i + 1 => if w.testBit i = true then i :: Ld w i else Ld w i
theorem Ld_len (w : Nat) : ∀ i, (Ld w i).length = pcn w i := by
  intro i
  induction i with
  | zero => rfl
  | succ i ih =>
    rw [Ld, pcn]
    split
    · rw [List.length_cons, ih]
    · rw [ih]; rfl
theorem pl_app (s : Nat → Int32) (x : Nat) : ∀ a b, pl s x (a ++ b) = pl s x a * pl s x b := by
  intro a b
  induction a with
  | nil => rw [List.nil_append, pl, Int64.one_mul]
  | cons k a ih => rw [List.cons_append, pl, pl, ih, Int64.mul_assoc, Int64.mul_assoc, Int64.mul_comm (pl s x b)]
/-- one more entry, the latest -/
theorem X10_app3 {R : eMem} {N h : Nat} (hN : N < 800) (hh : h < 2147483648) (h13 : R.1 0 13 = nI N) (hu : upTo R N h) (v2 v3 v4 : Int32) : ∃ R2, F_X10_more (nI h) v2 v3 v4 R = some R2 ∧ (∀ a, (1 ≤ a ∧ a < 8) ∨ 11 < a → R2.1 a = R.1 a) ∧ R2.2 = R.2 ∧ (∀ i, i ≠ 13 → R2.1 0 i = R.1 0 i) ∧ R2.1 0 13 = nI (N + 1) ∧ upTo R2 (N + 1) h ∧ (∀ i, i < N → R2.1 9 i = R.1 9 i ∧ R2.1 10 i = R.1 10 i ∧ R2.1 11 i = R.1 11 i) ∧ R2.1 9 N = v2 ∧ R2.1 10 N = v3 ∧ R2.1 11 N = v4 := by
  obtain ⟨R2, a1, a2, a3, a4, a5, a6⟩ := X10_ins (R := R) (nI h) v2 v3 v4 (q := N) (n := N) (Nat.le_refl _) hN h13 (fun i hi => by
    obtain ⟨g, g1, g2⟩ := hu i hi
    rw [g2]
    exact ⟨fun q => absurd q (nI_nlt g1 (by omega)), fun q => by omega⟩)
  have old : ∀ i, i < N → R2.1 8 i = R.1 8 i ∧ R2.1 9 i = R.1 9 i ∧ R2.1 10 i = R.1 10 i ∧ R2.1 11 i = R.1 11 i := fun i hi => by
    obtain ⟨b1, b2, b3, b4⟩ := a6 i (by omega)
    rw [if_pos hi] at b1 b2 b3 b4
    exact ⟨b1, b2, b3, b4⟩
  have new : R2.1 8 N = nI h ∧ R2.1 9 N = v2 ∧ R2.1 10 N = v3 ∧ R2.1 11 N = v4 := by
    obtain ⟨b1, b2, b3, b4⟩ := a6 N (Nat.le_refl _)
    rw [if_neg (by omega), if_pos rfl] at b1 b2 b3 b4
    exact ⟨b1, b2, b3, b4⟩
  refine ⟨R2, a1, a2, a3, a4, a5, fun i hi => ?_, fun i hi => (old i hi).2, new.2⟩
  by_cases e : i = N
  · subst e; exact ⟨h, Nat.le_refl _, new.1⟩
  · rw [(old i (by omega)).1]; exact hu i (by omega)
def fb (R : eMem) (N : Nat) : Prop := ∀ i x, i < N → ∃ g, 1 ≤ g ∧ g ≤ 12 ∧ fac (R.1 9 i) (R.1 10 i) (R.1 11 i) x = Int64.ofNat g
/-- the row: the reports that count, and the shows of a list (the latest first) behind them -/
def dsk (s : Nat → Int32) (R0 : eMem) (n : Nat) (R : eMem) (l : List Nat) (h : Nat) : Prop :=
  R.1 0 13 = nI (n + l.length) ∧ upTo R (n + l.length) h ∧ isB R (n + l.length) ∧ fb R (n + l.length) ∧ ∀ x j, j ≤ n + l.length → gw R (n + l.length) x j = pl s x (l.take j) * gw R0 n x (j - l.length)
theorem dsk_0 {s : Nat → Int32} {R0 : eMem} {n h : Nat} (h13 : R0.1 0 13 = nI n) (hu : upTo R0 n h) (hb : isB R0 n) (hf : fb R0 n) : dsk s R0 n R0 [] h := by
  refine ⟨h13, hu, hb, hf, fun x j hj => ?_⟩
  rw [List.take_nil, pl, Int64.one_mul]
  rfl
theorem dsk_h {s : Nat → Int32} {R0 R : eMem} {n h h2 : Nat} {l : List Nat} (hd : dsk s R0 n R l h) (hh : h ≤ h2) : dsk s R0 n R l h2 :=
  ⟨hd.1, fun i hi => by obtain ⟨g, g1, g2⟩ := hd.2.1 i hi; exact ⟨g, by omega, g2⟩, hd.2.2⟩
theorem dsk_1 {s : Nat → Int32} (i4 : iSh s) {R0 R : eMem} {n h k : Nat} {l : List Nat} (hd : dsk s R0 n R l h) (hN : n + l.length < 800) (hh : h < 2147483648) (hk : k < nS s) :
    ∃ R2, F_X10_more (nI h) (s (299 + 10 * k)) 1 (gvf s k) R = some R2 ∧ frR R R2 ∧ R2.2 = R.2 ∧ dsk s R0 n R2 (k :: l) h := by
  obtain ⟨d1, d2, d3, d4, d5⟩ := hd
  obtain ⟨R2, a1, a2, a3, a4, a5, a6, a7, a8, a9, a10⟩ := X10_app3 hN hh d1 d2 (s (299 + 10 * k)) 1 (gvf s k)
  have e : n + (k :: l).length = n + l.length + 1 := by rw [List.length_cons]; omega
  refine ⟨R2, a1, ⟨a2, a4⟩, a3, ?_⟩
  unfold dsk
  rw [e]
  refine ⟨a5, a6, fun i hi => ?_, fun i x hi => ?_, fun x j hj => ?_⟩
  · by_cases q : i = n + l.length
    · subst q; rw [a9]; exact Or.inr rfl
    · rw [(a7 i (by omega)).2.1]; exact d3 i (by omega)
  · by_cases q : i = n + l.length
    · subst q
      rw [a8, a9, a10]
      obtain ⟨g, g1, g2⟩ := gvf_n i4 hk
      rw [g2]
      refine ⟨nfac (s (299 + 10 * k)) 1 g x, (nfac_le _ _ _ _).1, Nat.le_trans (nfac_le _ _ _ _).2 (by omega), ?_⟩
      rw [fac_nat _ _ (by omega)]
    · obtain ⟨b1, b2, b3⟩ := a7 i (by omega)
      rw [b1, b2, b3]
      exact d4 i x (by omega)
  · cases j with
    | zero =>
      rw [List.take_zero, pl, Nat.zero_sub]
      unfold gw
      rw [pu, pu, Int64.one_mul]
    | succ j =>
      have hg : gw R2 (n + l.length + 1) x (j + 1) = gw R (n + l.length) x j * fs s k x := by
        unfold gw
        rw [pu_cons, Int64.mul_comm]
        congr 1
        · refine pu_cg _ (fun i hi => ?_)
          obtain ⟨b2, b3, b4⟩ := a7 (n + l.length - 1 - i) (by omega)
          show fac (R2.1 9 (n + l.length + 1 - 1 - (i + 1))) (R2.1 10 (n + l.length + 1 - 1 - (i + 1))) (R2.1 11 (n + l.length + 1 - 1 - (i + 1))) x = _
          rw [show n + l.length + 1 - 1 - (i + 1) = n + l.length - 1 - i by omega, b2, b3, b4]
        · show fac (R2.1 9 (n + l.length + 1 - 1 - 0)) (R2.1 10 (n + l.length + 1 - 1 - 0)) (R2.1 11 (n + l.length + 1 - 1 - 0)) x = _
          rw [show n + l.length + 1 - 1 - 0 = n + l.length by omega, a8, a9, a10]
          rfl
      rw [hg, d5 x j (by omega), List.take_succ_cons, pl, List.length_cons, show j + 1 - (l.length + 1) = j - l.length by omega, Int64.mul_assoc, Int64.mul_assoc, Int64.mul_comm (fs s k x)]
theorem frR.tr {A B D : eMem} (h1 : frR A B) (h2 : frR B D) : frR A D := ⟨fun p hp => (h2.1 p hp).trans (h1.1 p hp), fun i hi => (h2.2 i hi).trans (h1.2 i hi)⟩
theorem frR.rf {A : eMem} : frR A A := ⟨fun _ _ => rfl, fun _ _ => rfl⟩
theorem gvR_loop {V : Nat → Nat → Int32} {s : Nat → Int32} (hW : RelW V s) {R0 : eMem} {n T w : Nat} (hw : w < 2147483648) (hT : T < 2147483648) (l0 : List Nat) (hl : n + l0.length + 20 < 800) : ∀ m j, j + m = nS s → ∀ f, m < f → ∀ R : eMem, R.1 1 = s → dsk s R0 n R (Ld w j ++ l0) T →
    ∃ R2, F_X10_give_2 f (nI w) (nI T) (nI j) R = some R2 ∧ frR R R2 ∧ R2.2 = R.2 ∧ dsk s R0 n R2 (Ld w (nS s) ++ l0) T := by
  obtain ⟨-, -, -, -, -, -, -, -, -, -, -, -, -, -, i1, -, -, i4, -⟩ := id hW
  obtain ⟨-, -, -, -, -, ⟨z9, y9⟩, -⟩ := id i1
  intro m
  induction m with
  | zero =>
    intro j hj f hf R hR hd
    obtain ⟨f, rfl⟩ : ∃ x, f = x + 1 := ⟨f - 1, by omega⟩
    have e : j = nS s := by omega
    rw [F_X10_give_2, hR, z9, if_neg (nI_nlt (by omega) (by omega))]
    rw [e] at hd
    exact ⟨R, rfl, frR.rf, rfl, hd⟩
  | succ m ih =>
    intro j hj f hf R hR hd
    obtain ⟨f, rfl⟩ : ∃ x, f = x + 1 := ⟨f - 1, by omega⟩
    have hW2 : RelW ((V, fun _ _ => 0) : eMem).1 (R.1 1) := by rw [hR]; exact hW
    have g2 := (gv_both (C := ((V, fun _ _ => 0) : eMem)) hW2 (k := j) (by rw [hR]; omega)).2
    rw [F_X10_give_2, hR, z9, if_pos (nI_lt (by omega) (by omega)), bit_n hw (by omega), show_1 j R (by omega), g2, hR]
    simp only [bS]
    rw [Rad_1]
    have hlen : (Ld w j).length ≤ 20 := by rw [Ld_len]; have := pcn_le w j; omega
    by_cases q : w.testBit j = true
    · rw [if_pos q, if_pos rfl]
      obtain ⟨R2, b1, b2, b3, b4⟩ := dsk_1 i4 hd (by rw [List.length_append]; omega) hT (show j < nS s by omega)
      rw [b1]
      simp only [bS]
      obtain ⟨R3, c1, c2, c3, c4⟩ := ih (j + 1) (by omega) f (by omega) R2 ((b2.1 1 (by omega)).trans hR) (by rw [Ld, if_pos q]; exact b4)
      exact ⟨R3, c1, b2.tr c2, c3.trans b3, c4⟩
    · rw [if_neg q, if_neg (by decide)]
      exact ih (j + 1) (by omega) f (by omega) R hR (by rw [Ld, if_neg q]; exact hd)
theorem gvC_loop {s : Nat → Int32} {w : Nat} (hw : w < 2147483648) (base : Nat → Int64) : ∀ m j, j + m = nS s → ∀ f, m < f → ∀ M : eMem, RelW M.1 s → (∀ x, x < 4 → M.2 56 x = base x * pl s x (Ld w j)) →
    ∃ M2, F_X3_putGiven_10 f (nI w) (nI j) M = some M2 ∧ M2.1 = M.1 ∧ (∀ q, q ≠ 56 → M2.2 q = M.2 q) ∧ ∀ x, x < 4 → M2.2 56 x = base x * pl s x (Ld w (nS s)) := by
  intro m
  induction m with
  | zero =>
    intro j hj f hf M hW hx
    obtain ⟨f, rfl⟩ : ∃ x, f = x + 1 := ⟨f - 1, by omega⟩
    obtain ⟨wSc, -, -, -, -, -, -, -, -, -, -, -, -, -, i1, -⟩ := id hW
    obtain ⟨-, -, -, -, -, ⟨z9, y9⟩, -⟩ := id i1
    have e : j = nS s := by omega
    rw [F_X3_putGiven_10, wSc.2.2.2.2.2.2.2.2.2.1, z9, if_neg (nI_nlt (by omega) (by omega))]
    rw [e] at hx
    exact ⟨M, rfl, rfl, fun _ _ => rfl, hx⟩
  | succ m ih =>
    intro j hj f hf M hW hx
    obtain ⟨f, rfl⟩ : ∃ x, f = x + 1 := ⟨f - 1, by omega⟩
    obtain ⟨wSc, -, -, -, -, -, wSh, -, -, -, -, -, -, -, i1, -, -, i4, -⟩ := id hW
    obtain ⟨-, -, -, -, -, ⟨z9, y9⟩, -⟩ := id i1
    have g1 := (gv_both (C := M) (R := ((fun _ => s, fun _ _ => 0) : eMem)) hW (k := j) (show j < nS s by omega)).1
    rw [F_X3_putGiven_10, wSc.2.2.2.2.2.2.2.2.2.1, z9, if_pos (nI_lt (by omega) (by omega)), bit_n hw (by omega), eIn_s (show j < 20 by omega) (by omega), cl (show j < 2147483648 by omega), (wSh j (by omega)).2.1, g1]
    simp only [bS, eG_tt]
    rw [Rad_1]
    by_cases q : w.testBit j = true
    · rw [if_pos q, if_neg (by decide)]
      obtain ⟨g, gg1, gg2⟩ := gvf_n i4 (show j < nS s by omega)
      obtain ⟨M2, b1, b2, b3, b4⟩ := X3_put (s (299 + 10 * j)) 1 (v := g) (by omega) M
      show ∃ M2, ((F_X3_put (s (299 + 10 * j)) 1 (gvf s j) M).bind fun q4 => F_X3_putGiven_10 f (nI w) (nI (j + 1)) q4) = some M2 ∧ _
      rw [gg2, b1]
      simp only [bS]
      obtain ⟨M3, c1, c2, c3, c4⟩ := ih (j + 1) (by omega) f (by omega) M2 (by rw [b2]; exact hW) (fun x hx4 => by
        rw [b4 x hx4, hx x hx4, Ld, if_pos q, pl, Int64.mul_assoc]
        unfold fs
        rw [gg2])
      exact ⟨M3, c1, c2.trans b2, fun q hq => (c3 q hq).trans (b3 q hq), c4⟩
    · rw [if_neg q, if_pos rfl]
      exact ih (j + 1) (by omega) f (by omega) M hW (fun x hx4 => by rw [hx x hx4, Ld, if_neg q])
/-- the desk of an hour, with the factors' bounds -/
theorem desk_fb {C R : eMem} (h : Rel C R) (T : Nat) : ∃ C2 R2 n, F_X8_scalesAt (nI T) C = some C2 ∧ F_X10_gather (nI T) R = some R2 ∧ n ≤ 90 ∧ frC C C2 ∧ frR R R2 ∧ C2.1 55 2 = nI (min n 12) ∧ R2.1 0 13 = nI n ∧ upTo R2 n (hr (R.1 1)) ∧ isB R2 n ∧ fb R2 n ∧ (∀ i x, i ≤ min n 12 → x < 4 → C2.2 (59 + i) x = gw R2 n x i) := by
  obtain ⟨C2, R2, n, d, a1, a2, a3, a4, a5, a6, ⟨b1, b2, b3⟩, a8, a9, e1, e2⟩ := desk_both h (nI T)
  obtain ⟨-, -, -, -, -, -, -, -, -, -, -, -, -, -, i1, -, -, -, i5, -⟩ := id h.1
  have y10 := i1.2.2.2.2.2.2.1.2
  refine ⟨C2, R2, n, a1, a2, by omega, a3, a5, a8.1, a9.1, fun i hi => ?_, fun i hi => ?_, fun i x hi => ?_, fun i x hi hx => ?_⟩
  · rw [(a9.2 i hi).1]
    exact (i5 _ (b3 _ (by omega))).2.2.2.1
  · rw [(a9.2 i hi).2.2.1]
    exact (i5 _ (b3 _ (by omega))).2.2.1
  · obtain ⟨q1, q2, q3, q4⟩ := a9.2 i hi
    rw [q2, q3, q4]
    obtain ⟨-, -, v, v1, v2⟩ := credit_val h.1 (b3 (n - 1 - i) (by omega))
    rw [v2]
    refine ⟨nfac (R.1 1 (499 + 7 * d (n - 1 - i))) (R.1 1 (500 + 7 * d (n - 1 - i))) v x, (nfac_le _ _ _ _).1, Nat.le_trans (nfac_le _ _ _ _).2 (by omega), ?_⟩
    rw [fac_nat _ _ (by omega)]
  · rw [e2 i x hi hx]
    unfold gw
    refine pu_cg _ (fun j hj => ?_)
    obtain ⟨q1, q2, q3, q4⟩ := a9.2 (n - 1 - j) (by omega)
    rw [q2, q3, q4, show n - 1 - (n - 1 - j) = j by omega]
    rfl
/-- the weights of a row, as numbers -/
theorem weigh_n {R : eMem} {N : Nat} (hN : N < 800) (h13 : R.1 0 13 = nI N) (hb : isB R N) (hf : fb R N) : ∃ R2, F_X10_weigh R = some R2 ∧ R2.1 = R.1 ∧ (∀ x, x < 4 → R2.2 12 x = gw R N x (min N 12)) ∧ ∀ x, x < 4 → ∃ w, 1 ≤ w ∧ w ≤ 12 ^ 12 ∧ R2.2 12 x = Int64.ofNat w := by
  obtain ⟨R2, g1, g2, g3, g4⟩ := X10_weigh (R := R) (n := N) hN h13 hb
  refine ⟨R2, g1, g2, g4, fun x hx => ?_⟩
  rw [g4 x hx]
  obtain ⟨w, w1, w2, w3⟩ := pu_nat (f := fun i => fac (R.1 9 (N - 1 - i)) (R.1 10 (N - 1 - i)) (R.1 11 (N - 1 - i)) x) (B := 12) (by omega) (min N 12) (fun i hi => hf (N - 1 - i) x (by omega))
  exact ⟨w, w1, Nat.le_trans w2 (Nat.pow_le_pow_right (by omega) (by omega)), w3⟩
theorem scales_load (T : Int32) (C : eMem) : F_X8_scalesAt T C = F_X3_load T C := by
  unfold F_X8_scalesAt
  cases F_X3_load T C <;> rfl
/-- a set that gives: both sides -/
theorem given_both {C C2 R M : eMem} (h : Rel C R) (hC2 : F_X8_scalesAt (nI (hr (R.1 1))) C = some C2) (hM : M.1 = C2.1) (hM2 : ∀ q, q ≠ 56 → M.2 q = C2.2 q) {w : Nat} (hw : w < 2 ^ nS (R.1 1)) (hw2 : w < 1048576) (hp : pcn w 20 ≤ 9) :
    ∃ M3 R2 R3 R4, F_X3_putGiven (nI w) M = some M3 ∧ M3.1 = C2.1 ∧ (∀ q, q ≠ 56 → M3.2 q = C2.2 q) ∧ F_X10_gather (nI (hr (R.1 1))) R = some R2 ∧ F_X10_give (nI w) (nI (hr (R.1 1))) R2 = some R3 ∧ F_X10_weigh R3 = some R4 ∧ R2.1 1 = R.1 1 ∧ frR R R4 ∧ frC C C2 ∧ (∀ x, x < 4 → M3.2 56 x = R4.2 12 x) ∧ ∀ x, x < 4 → ∃ u, 1 ≤ u ∧ u ≤ 12 ^ 12 ∧ M3.2 56 x = Int64.ofNat u := by
  obtain ⟨C2', R2, n, a1, a2, a3, a4, a5, a6, a7, a8, a9, a10, a11⟩ := desk_fb h (hr (R.1 1))
  rw [hC2] at a1
  cases a1
  obtain ⟨-, -, -, -, -, -, -, -, -, -, -, -, -, -, i1, -⟩ := id h.1
  obtain ⟨⟨z0, y0⟩, -, -, -, -, ⟨z9, y9⟩, -⟩ := id i1
  have hR1 : R2.1 1 = R.1 1 := a5.1 1 (by omega)
  have hWC : RelW C2.1 (R.1 1) := by
    have hq := a4
    unfold frC at hq
    refine h.1.agr ?_ (fun j _ => rfl)
    simp [Agr, hq]
  have hpn : pcn w (nS (R.1 1)) = pcn w 20 := by
    have := pcn_out hw (20 - nS (R.1 1))
    rw [show nS (R.1 1) + (20 - nS (R.1 1)) = 20 by omega] at this
    exact this.symm
  have hLl : (Ld w (nS (R.1 1))).length = pcn w 20 := by rw [Ld_len, hpn]
  -- the reference
  obtain ⟨R3, b1, b2, b3, b4⟩ := gvR_loop h.1 (R0 := R2) (n := n) (T := hr (R.1 1)) (w := w) (by omega) (by omega) [] (by rw [List.length_nil]; omega) (nS (R.1 1)) 0 (by omega) eFuel (by unfold eFuel; omega) R2 hR1 (dsk_0 a7 a8 a9 a10)
  rw [List.append_nil] at b4
  obtain ⟨d1, d2, d3, d4, d5⟩ := b4
  rw [hLl] at d1 d2 d3 d4 d5
  obtain ⟨R4, e1, e2, e3, e4⟩ := weigh_n (R := R3) (N := n + pcn w 20) (by omega) d1 d3 d4
  -- the class
  unfold F_X3_putGiven
  rw [bc_eq hw2]
  simp only [bS]
  obtain ⟨M2, f1, f2, f3, f4⟩ := leave_room (C := M) (m := min n 12) (e := pcn w 20) (by omega) (by omega) (by rw [hM]; exact a6)
  rw [f1]
  simp only [bS]
  obtain ⟨M3, g1, g2, g3, g4⟩ := gvC_loop (s := R.1 1) (w := w) (by omega) (fun x => gw R2 n x (min (min n 12) (12 - pcn w 20))) (nS (R.1 1)) 0 (by omega) eFuel (by unfold eFuel; omega) M2 (by rw [f2, hM]; exact hWC) (fun x hx => by
    rw [f4 x hx, hM2 _ (by omega), a11 _ _ (by omega) hx, Ld, pl, Int64.mul_one])
  rw [show nI 0 = 0 from rfl] at g1 b1
  have hfin : ∀ x, x < 4 → M3.2 56 x = R4.2 12 x := by
    intro x hx
    rw [g4 x hx, e3 x hx, d5 x _ (by omega), List.take_of_length_le (by rw [hLl]; omega), Int64.mul_comm]
    congr 2
    omega
  refine ⟨M3, R2, R3, R4, g1, g2.trans (f2.trans hM), fun q hq => ?_, a2, b1, e1, hR1, ?_, a4, hfin, fun x hx => ?_⟩
  · rw [g3 q hq, f3 q hq, hM2 q hq]
  · rw [frR, e2]
    exact a5.tr b2
  · rw [hfin x hx]; exact e4 x hx
