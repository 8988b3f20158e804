/-! weights -/
theorem eJq_ne {M : eMem} {p q i : Nat} {v : Int64} (h : q ≠ p) : (eJ M p i v).2 q = M.2 q := by simp [eJ, eCJ, h]
theorem eJq_eq {M : eMem} {p i : Nat} {v : Int64} : (eJ M p i v).2 p = vp_updL (M.2 p) i v := by simp [eJ, eCJ]
theorem eJ_1 {M : eMem} {p i : Nat} {v : Int64} : (eJ M p i v).1 = M.1 := rfl
theorem eI_2 {M : eMem} {p i : Nat} {v : Int32} : (eI M p i v).2 = M.2 := rfl
theorem updL_at {f : Nat → Int64} {i j : Nat} {v : Int64} : vp_updL f i v j = if j = i then v else f j := rfl
def crd (s : Nat → Int32) (k : Nat) : Int32 := (F_X10_creditOf (nI k) (fun _ => s, fun _ _ => 0)).getD 0
theorem credit_val {C R : eMem} (hW : RelW C.1 (R.1 1)) {k : Nat} (hk : k < nP (R.1 1)) : F_X1_credit (nI k) C = some (crd (R.1 1) k) ∧ F_X10_creditOf (nI k) R = some (crd (R.1 1) k) ∧ ∃ v, v ≤ 11 ∧ crd (R.1 1) k = nI v := by
  obtain ⟨v, h1, h2, h3⟩ := credit_both hW hk
  have h4 : F_X10_creditOf (nI k) (fun _ => R.1 1, fun _ _ => 0) = some (nI v) := by rw [← h3]; rfl
  have e : crd (R.1 1) k = nI v := by unfold crd; rw [h4]; rfl
  rw [e]
  exact ⟨h2, h3, v, h1, rfl⟩
def fac (st b cr : Int32) (x : Nat) : Int64 := if (if nI x = st then (1 : Int32) else 0) = b then 1 + cr.toInt64 else 1
theorem i64_succ {v : Nat} (h : v ≤ 1000) : (nI v + 1).toInt64 = 1 + (nI v).toInt64 := by
  rw [← Int64.toInt_inj, Int32.toInt_toInt64, Int64.toInt_add, Int32.toInt_toInt64, Rad_1, nI_toInt (by omega), nI_toInt (by omega), show (1 : Int64).toInt = 1 from rfl, Int.bmod_def]
  omega
theorem X3_put_loop (st b : Int32) {v : Nat} (hv : v ≤ 1000) : ∀ m j, j + m = 4 → ∀ f, m < f → ∀ M : eMem, ∃ M2, F_X3_put_3 f st b (nI v) (nI j) M = some M2 ∧ M2.1 = M.1 ∧ (∀ q, q ≠ 56 → M2.2 q = M.2 q) ∧ ∀ x, M2.2 56 x = if j ≤ x ∧ x < 4 then M.2 56 x * fac st b (nI v) x else M.2 56 x := by
  intro m
  induction m with
  | zero =>
    intro j hj f hf M
    obtain ⟨f, rfl⟩ : ∃ x, f = x + 1 := ⟨f - 1, by omega⟩
    rw [F_X3_put_3, if_neg (fun q => by have := (lt_lit (n := 4) rfl (by omega)).mp q; omega)]
    exact ⟨M, rfl, rfl, fun _ _ => rfl, fun x => by rw [if_neg (by omega)]⟩
  | succ m ih =>
    intro j hj f hf M
    obtain ⟨f, rfl⟩ : ∃ x, f = x + 1 := ⟨f - 1, by omega⟩
    rw [F_X3_put_3, if_pos ((lt_lit (n := 4) rfl (by omega)).mpr (by omega))]
    have hgo : ∀ w : Int32, w = (if nI j = st then 1 else 0) → ∃ M2, F_X3_put_20 (fun v1 v2 v3 v4 M => F_X3_put_3 f v1 v2 v3 v4 M) st b (nI v) (nI j) w M = some M2 ∧ M2.1 = M.1 ∧ (∀ q, q ≠ 56 → M2.2 q = M.2 q) ∧ ∀ x, M2.2 56 x = if j ≤ x ∧ x < 4 then M.2 56 x * fac st b (nI v) x else M.2 56 x := by
      intro w hw
      unfold F_X3_put_20
      rw [eIn_s (by omega) (by omega), cl (show j < 2147483648 by omega), Rad_1, i64_succ hv]
      simp only [eG_tt]
      by_cases e : w = b
      · rw [if_pos e]
        obtain ⟨M2, h1, h2, h3, h4⟩ := ih (j + 1) (by omega) f (by omega) (eJ M 56 j (M.2 56 j * (1 + (nI v).toInt64)))
        refine ⟨M2, h1, h2, fun q hq => by rw [h3 q hq, eJq_ne hq], fun x => ?_⟩
        rw [h4 x, eJq_eq, updL_at]
        by_cases q : x = j
        · subst q
          rw [if_pos rfl, if_neg (by omega), if_pos (by omega)]
          unfold fac
          rw [← hw, if_pos e]
        · rw [if_neg q]
          by_cases q2 : j + 1 ≤ x ∧ x < 4
          · rw [if_pos q2, if_pos (by omega)]
          · rw [if_neg q2, if_neg (by omega)]
      · rw [if_neg e]
        obtain ⟨M2, h1, h2, h3, h4⟩ := ih (j + 1) (by omega) f (by omega) M
        refine ⟨M2, h1, h2, h3, fun x => ?_⟩
        rw [h4 x]
        by_cases q : x = j
        · subst q
          rw [if_neg (by omega), if_pos (by omega)]
          unfold fac
          rw [← hw, if_neg e, Int64.mul_one]
        · by_cases q2 : j + 1 ≤ x ∧ x < 4
          · rw [if_pos q2, if_pos (by omega)]
          · rw [if_neg q2, if_neg (by omega)]
    by_cases e : nI j = st
    · rw [if_pos e]; exact hgo 1 (by rw [if_pos e])
    · rw [if_neg e]; exact hgo 0 (by rw [if_neg e])
theorem X3_put (st b : Int32) {v : Nat} (hv : v ≤ 1000) (M : eMem) : ∃ M2, F_X3_put st b (nI v) M = some M2 ∧ M2.1 = M.1 ∧ (∀ q, q ≠ 56 → M2.2 q = M.2 q) ∧ ∀ x, x < 4 → M2.2 56 x = M.2 56 x * fac st b (nI v) x := by
  obtain ⟨M2, h1, h2, h3, h4⟩ := X3_put_loop st b hv 4 0 rfl eFuel (by unfold eFuel; omega) M
  rw [show nI 0 = 0 from rfl] at h1
  unfold F_X3_put
  exact ⟨M2, h1, h2, h3, fun x hx => by rw [h4 x, if_pos (by omega)]⟩
/-- the product of the first ones -/
def pu (f : Nat → Int64) : Nat → Int64
  | 0 => 1
  | m + 1 => pu f m * f m
theorem pu_cg {f g : Nat → Int64} : ∀ m, (∀ i, i < m → f i = g i) → pu f m = pu g m := by
  intro m
  induction m with
  | zero => intro _; rfl
  | succ m ih => intro h; rw [pu, pu, ih (fun i hi => h i (by omega)), h m (by omega)]
theorem X10_w53 (K : Int32 → eMem → Option eMem) {i : Nat} (hi : i < 800) : ∀ m j, j + m = 4 → ∀ f, m < f → ∀ M : eMem, (M.1 10 i = 0 ∨ M.1 10 i = 1) → ∃ M2, F_X10_weigh_53 K f (nI i) (nI j) M = K (nI i) M2 ∧ M2.1 = M.1 ∧ (∀ q, q ≠ 12 → M2.2 q = M.2 q) ∧ ∀ x, M2.2 12 x = if j ≤ x ∧ x < 4 then M.2 12 x * fac (M.1 9 i) (M.1 10 i) (M.1 11 i) x else M.2 12 x := by
  intro m
  induction m with
  | zero =>
    intro j hj f hf M hb
    obtain ⟨f, rfl⟩ : ∃ x, f = x + 1 := ⟨f - 1, by omega⟩
    rw [F_X10_weigh_53, if_neg (fun q => by have := (lt_lit (n := 4) rfl (by omega)).mp q; omega)]
    exact ⟨M, rfl, rfl, fun _ _ => rfl, fun x => by rw [if_neg (by omega)]⟩
  | succ m ih =>
    intro j hj f hf M hb
    obtain ⟨f, rfl⟩ : ∃ x, f = x + 1 := ⟨f - 1, by omega⟩
    rw [F_X10_weigh_53, if_pos ((lt_lit (n := 4) rfl (by omega)).mpr (by omega)), eIn_s hi (by omega), cl (show i < 2147483648 by omega)]
    simp only [eG_tt]
    have hgo : ∀ w : Int32, ((w = 0 ∧ ¬ (if nI j = M.1 9 i then (1 : Int32) else 0) = M.1 10 i) ∨ (w = 1 ∧ (if nI j = M.1 9 i then (1 : Int32) else 0) = M.1 10 i)) → ∃ M2, F_X10_weigh_101 (fun v2 v3 M => F_X10_weigh_53 K f v2 v3 M) K (nI i) (nI j) w M = K (nI i) M2 ∧ M2.1 = M.1 ∧ (∀ q, q ≠ 12 → M2.2 q = M.2 q) ∧ ∀ x, M2.2 12 x = if j ≤ x ∧ x < 4 then M.2 12 x * fac (M.1 9 i) (M.1 10 i) (M.1 11 i) x else M.2 12 x := by
      intro w hw
      unfold F_X10_weigh_101
      rw [eIn_s (show j < 4 by omega) (by omega), eIn_s hi (by omega), cl (show i < 2147483648 by omega), cl (show j < 2147483648 by omega), Rad_1]
      simp only [eG_tt]
      have hfin : ∀ y : Int64, y = fac (M.1 9 i) (M.1 10 i) (M.1 11 i) j → ∃ M2, F_X10_weigh_53 K f (nI i) (nI (j + 1)) (eJ M 12 j (M.2 12 j * y)) = K (nI i) M2 ∧ M2.1 = M.1 ∧ (∀ q, q ≠ 12 → M2.2 q = M.2 q) ∧ ∀ x, M2.2 12 x = if j ≤ x ∧ x < 4 then M.2 12 x * fac (M.1 9 i) (M.1 10 i) (M.1 11 i) x else M.2 12 x := by
        intro y hy
        obtain ⟨M2, h1, h2, h3, h4⟩ := ih (j + 1) (by omega) f (by omega) (eJ M 12 j (M.2 12 j * y)) hb
        refine ⟨M2, h1, h2, fun q hq => by rw [h3 q hq, eJq_ne hq], fun x => ?_⟩
        rw [h4 x, eJq_eq, updL_at, eJ_1]
        by_cases q : x = j
        · subst q
          rw [if_pos rfl, if_neg (by omega), if_pos (by omega), hy]
        · rw [if_neg q]
          by_cases q2 : j + 1 ≤ x ∧ x < 4
          · rw [if_pos q2, if_pos (by omega)]
          · rw [if_neg q2, if_neg (by omega)]
      rcases hw with ⟨rfl, hw⟩ | ⟨rfl, hw⟩
      · rw [if_pos rfl]
        exact hfin 1 (by unfold fac; rw [if_neg hw])
      · rw [if_neg (by decide)]
        exact hfin _ (by unfold fac; rw [if_pos hw])
    by_cases e : nI j = M.1 9 i
    · rcases hb with hb | hb
      · rw [if_neg (by rw [hb]; decide), if_pos e]; exact hgo 0 (Or.inl ⟨rfl, by rw [if_pos e, hb]; decide⟩)
      · rw [if_pos hb, if_pos e]; exact hgo 1 (Or.inr ⟨rfl, by rw [if_pos e, hb]⟩)
    · rcases hb with hb | hb
      · rw [if_neg (by rw [hb]; decide), if_neg e]; exact hgo 1 (Or.inr ⟨rfl, by rw [if_neg e, hb]⟩)
      · rw [if_pos hb, if_neg e]; exact hgo 0 (Or.inl ⟨rfl, by rw [if_neg e, hb]; decide⟩)
theorem X10_w43 {n : Nat} (hn : n < 800) : ∀ m j, j + m = n → ∀ f, m < f → ∀ M : eMem, M.1 0 13 = nI n → (∀ i, i < n → M.1 10 i = 0 ∨ M.1 10 i = 1) → ∃ M2, F_X10_weigh_43 f (nI j) M = some M2 ∧ M2.1 = M.1 ∧ (∀ q, q ≠ 12 → M2.2 q = M.2 q) ∧ ∀ x, x < 4 → M2.2 12 x = M.2 12 x * pu (fun i => fac (M.1 9 (n - 1 - i)) (M.1 10 (n - 1 - i)) (M.1 11 (n - 1 - i)) x) m := by
  intro m
  induction m with
  | zero =>
    intro j hj f hf M h13 hb
    obtain ⟨f, rfl⟩ : ∃ x, f = x + 1 := ⟨f - 1, by omega⟩
    rw [F_X10_weigh_43, h13, if_neg (nI_nlt (by omega) (by omega))]
    exact ⟨M, rfl, rfl, fun _ _ => rfl, fun x _ => by rw [pu, Int64.mul_one]⟩
  | succ m ih =>
    intro j hj f hf M h13 hb
    obtain ⟨f, rfl⟩ : ∃ x, f = x + 1 := ⟨f - 1, by omega⟩
    rw [F_X10_weigh_43, h13, if_pos (nI_lt (by omega) (by omega))]
    obtain ⟨M1, h1, h2, h3, h4⟩ := X10_w53 (fun v2 M => F_X10_weigh_43 f (v2 + 1) M) (show j < 800 by omega) 4 0 rfl eFuel (by unfold eFuel; omega) M (hb j (by omega))
    rw [show nI 0 = 0 from rfl] at h1
    rw [h1]
    obtain ⟨M2, g1, g2, g3, g4⟩ := ih (j + 1) (by omega) f (by omega) M1 (by rw [h2]; exact h13) (by rw [h2]; exact hb)
    refine ⟨M2, by rw [Rad_1]; exact g1, g2.trans h2, fun q hq => (g3 q hq).trans (h3 q hq), fun x hx => ?_⟩
    rw [g4 x hx, h4 x, if_pos (by omega), h2, pu, show n - 1 - m = j by omega, Int64.mul_assoc]
    congr 1
    exact Int64.mul_comm _ _
theorem X10_w2 (K : eMem → Option eMem) : ∀ m j, j + m = 4 → ∀ f, m < f → ∀ M : eMem, ∃ M2, F_X10_weigh_2 K f (nI j) M = K M2 ∧ M2.1 = M.1 ∧ (∀ q, q ≠ 12 → M2.2 q = M.2 q) ∧ ∀ x, M2.2 12 x = if j ≤ x ∧ x < 4 then 1 else M.2 12 x := by
  intro m
  induction m with
  | zero =>
    intro j hj f hf M
    obtain ⟨f, rfl⟩ : ∃ x, f = x + 1 := ⟨f - 1, by omega⟩
    rw [F_X10_weigh_2, if_neg (fun q => by have := (lt_lit (n := 4) rfl (by omega)).mp q; omega)]
    exact ⟨M, rfl, rfl, fun _ _ => rfl, fun x => by rw [if_neg (by omega)]⟩
  | succ m ih =>
    intro j hj f hf M
    obtain ⟨f, rfl⟩ : ∃ x, f = x + 1 := ⟨f - 1, by omega⟩
    rw [F_X10_weigh_2, if_pos ((lt_lit (n := 4) rfl (by omega)).mpr (by omega)), eIn_s (by omega) (by omega), cl (by omega), eG_tt, Rad_1]
    obtain ⟨M2, h1, h2, h3, h4⟩ := ih (j + 1) (by omega) f (by omega) (eJ M 12 j 1)
    refine ⟨M2, h1, h2, fun q hq => by rw [h3 q hq, eJq_ne hq], fun x => ?_⟩
    rw [h4 x, eJq_eq, updL_at]
    by_cases q : x = j
    · subst q; rw [if_pos rfl, if_neg (by omega), if_pos (by omega)]
    · rw [if_neg q]
      by_cases q2 : j + 1 ≤ x ∧ x < 4
      · rw [if_pos q2, if_pos (by omega)]
      · rw [if_neg q2, if_neg (by omega)]
theorem X10_weigh {R : eMem} {n : Nat} (hn : n < 800) (h13 : R.1 0 13 = nI n) (hb : ∀ i, i < n → R.1 10 i = 0 ∨ R.1 10 i = 1) : ∃ R2, F_X10_weigh R = some R2 ∧ R2.1 = R.1 ∧ (∀ q, q ≠ 12 → R2.2 q = R.2 q) ∧ ∀ x, x < 4 → R2.2 12 x = pu (fun i => fac (R.1 9 (n - 1 - i)) (R.1 10 (n - 1 - i)) (R.1 11 (n - 1 - i)) x) (min n 12) := by
  unfold F_X10_weigh F_X10_weigh_40
  obtain ⟨M1, h1, h2, h3, h4⟩ := X10_w2 (fun M => if (M.1 0 13) < 12 then F_X10_weigh_43 eFuel 0 M else F_X10_weigh_43 eFuel ((M.1 0 13) - 12) M) 4 0 rfl eFuel (by unfold eFuel; omega) R
  rw [show nI 0 = 0 from rfl] at h1
  rw [h1]
  have hgo : ∀ j, j + min n 12 = n → ∃ R2, F_X10_weigh_43 eFuel (nI j) M1 = some R2 ∧ R2.1 = R.1 ∧ (∀ q, q ≠ 12 → R2.2 q = R.2 q) ∧ ∀ x, x < 4 → R2.2 12 x = pu (fun i => fac (R.1 9 (n - 1 - i)) (R.1 10 (n - 1 - i)) (R.1 11 (n - 1 - i)) x) (min n 12) := by
    intro j hj
    obtain ⟨M2, g1, g2, g3, g4⟩ := X10_w43 hn (min n 12) j hj eFuel (by unfold eFuel; omega) M1 (by rw [h2]; exact h13) (by rw [h2]; exact hb)
    refine ⟨M2, g1, g2.trans h2, fun q hq => (g3 q hq).trans (h3 q hq), fun x hx => ?_⟩
    rw [g4 x hx, h4 x, if_pos (by omega), h2, Int64.one_mul]
  simp only [h2, h13]
  by_cases q : n < 12
  · rw [if_pos ((lt_lit (n := 12) rfl (by omega)).mpr q)]
    exact hgo 0 (by omega)
  · rw [if_neg (fun e => q ((lt_lit (n := 12) rfl (by omega)).mp e)), show (12 : Int32) = nI 12 from rfl, nI_sub (by omega)]
    exact hgo (n - 12) (by omega)
