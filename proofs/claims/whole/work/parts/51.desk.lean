/-! THE DESK: the reports that count, the latest first -/
def gtm (s : Nat → Int32) (k : Nat) : Nat := (s (501 + 7 * k)).toNatClampNeg
def ins (d : Nat → Nat) (p k : Nat) : Nat → Nat := fun i => if i < p then d i else if i = p then k else d (i - 1)
def srt (s : Nat → Int32) (n : Nat) (d : Nat → Nat) : Prop := ∀ i j, i < j → j < n → gtm s (d j) ≤ gtm s (d i)
theorem spot {s : Nat → Int32} {d : Nat → Nat} (k : Nat) : ∀ n, srt s n d → ∃ p, p ≤ n ∧ (∀ i, i < p → gtm s k < gtm s (d i)) ∧ (∀ i, p ≤ i → i < n → gtm s (d i) ≤ gtm s k) := by
  intro n
  induction n with
  | zero => intro _; exact ⟨0, Nat.le_refl _, fun i hi => by omega, fun i _ hi => by omega⟩
  | succ n ih =>
    intro h
    obtain ⟨p, p1, p2, p3⟩ := ih (fun i j h1 h2 => h i j h1 (by omega))
    by_cases e : p = n
    · by_cases q : gtm s k < gtm s (d n)
      · exact ⟨n + 1, Nat.le_refl _, fun i hi => by
          by_cases q2 : i = n
          · rw [q2]; exact q
          · exact p2 i (by omega), fun i h1 h2 => by omega⟩
      · exact ⟨n, by omega, fun i hi => p2 i (by omega), fun i h1 h2 => by
          have q2 : i = n := by omega
          rw [q2]; omega⟩
    · exact ⟨p, by omega, p2, fun i h1 h2 => by
        by_cases q2 : i = n
        · have h3 := h p n (by omega) (by omega)
          have h4 := p3 p (Nat.le_refl _) (by omega)
          rw [q2]; omega
        · exact p3 i h1 (by omega)⟩
theorem srt_ins {s : Nat → Int32} {n p k : Nat} {d : Nat → Nat} (h : srt s n d) (p1 : p ≤ n) (p2 : ∀ i, i < p → gtm s k < gtm s (d i)) (p3 : ∀ i, p ≤ i → i < n → gtm s (d i) ≤ gtm s k) : srt s (n + 1) (ins d p k) := by
  intro i j hij hj
  unfold ins
  by_cases j1 : j < p
  · rw [if_pos j1, if_pos (by omega)]; exact h i j hij (by omega)
  · rw [if_neg j1]
    by_cases j2 : j = p
    · rw [if_pos j2, if_pos (by omega)]; have := p2 i (by omega); omega
    · rw [if_neg j2]
      by_cases i1 : i < p
      · rw [if_pos i1]; exact h i (j - 1) (by omega) (by omega)
      · rw [if_neg i1]
        by_cases i2 : i = p
        · rw [if_pos i2]; exact p3 (j - 1) (by omega) (by omega)
        · rw [if_neg i2]; exact h (i - 1) (j - 1) (by omega) (by omega)
theorem nI_dec (c : Nat) : nI (c + 1) + (-1) = nI c := by rw [← Int32.sub_eq_add_neg, nI_pred]
theorem X3_shift (v1 : Int32) (p : Nat) : ∀ m c, c = p + m → c < 12 → ∀ f, m < f → ∀ M : eMem, ∃ M2, F_X3_insert_71 f v1 (nI p) (nI c) M = some M2 ∧ (∀ q, q ≠ 57 → M2.1 q = M.1 q) ∧ M2.2 = M.2 ∧ ∀ i, M2.1 57 i = if i = p then v1 else if p < i ∧ i ≤ c then M.1 57 (i - 1) else M.1 57 i := by
  intro m
  induction m with
  | zero =>
    intro c hc h12 f hf M
    obtain ⟨f, rfl⟩ : ∃ x, f = x + 1 := ⟨f - 1, by omega⟩
    rw [F_X3_insert_71, if_neg (nI_nlt (by omega) (by omega)), eIn_s (by omega) (by omega), eG_tt, cl (by omega)]
    refine ⟨_, rfl, fun q hq => by simp (disch := omega) only [eIq_ne, eIq_eq, upd_ne, upd_eq], rfl, fun i => ?_⟩
    simp (disch := omega) only [eIq_ne, eIq_eq, upd_ne, upd_eq]
    rw [upd_at]
    by_cases e : i = p
    · rw [if_pos e, if_pos e]
    · rw [if_neg e, if_neg e, if_neg (by omega)]
  | succ m ih =>
    intro c hc h12 f hf M
    obtain ⟨f, rfl⟩ : ∃ x, f = x + 1 := ⟨f - 1, by omega⟩
    subst hc
    rw [F_X3_insert_71, if_pos (nI_lt (by omega) (by omega)), show p + (m + 1) = p + m + 1 by omega, nI_pred, nI_dec, eIn_s (by omega) (by omega), eIn_s (by omega) (by omega), eG_tt, eG_tt, cl (by omega), cl (by omega)]
    obtain ⟨M2, h1, h2, h3, h4⟩ := ih (p + m) rfl (by omega) f (by omega) (eI M 57 (p + m + 1) (M.1 57 (p + m)))
    refine ⟨M2, h1, fun q hq => by rw [h2 q hq]; simp (disch := omega) only [eIq_ne, eIq_eq, upd_ne, upd_eq], h3, fun i => ?_⟩
    rw [h4 i]
    simp (disch := omega) only [eIq_ne, eIq_eq, upd_ne, upd_eq]
    simp only [upd_at]
    by_cases e : i = p
    · rw [if_pos e, if_pos e]
    · rw [if_neg e, if_neg e]
      by_cases e2 : p < i ∧ i ≤ p + m
      · rw [if_pos e2, if_pos (by omega)]
      · rw [if_neg e2]
        by_cases e3 : i = p + m + 1
        · subst e3; rw [if_pos rfl, if_pos (by omega)]; rfl
        · rw [if_neg e3, if_neg (by omega)]
theorem X3_find {C : eMem} {s : Nat → Int32} {n k p N : Nat} {d : Nat → Nat} (K : Int32 → Int32 → eMem → Option eMem) (hN : N ≤ 90) (h33 : ∀ k, k < N → C.1 33 k = nI (gtm s k) ∧ gtm s k ≤ 1943) (hk : k < N) (hd : ∀ i, i < min n 12 → C.1 57 i = nI (d i) ∧ d i < N) (p1 : p ≤ n) (p2 : ∀ i, i < p → gtm s k < gtm s (d i)) (p3 : ∀ i, p ≤ i → i < n → gtm s (d i) ≤ gtm s k) :
    ∀ c, c ≤ min n 12 → (∀ i, c ≤ i → i < min n 12 → p ≤ i) → ∀ f, c < f → F_X3_insert_5 K f (nI k) (nI c) C = K (nI k) (nI (min p (min n 12))) C := by
  intro c
  induction c with
  | zero =>
    intro hc h f hf
    obtain ⟨f, rfl⟩ : ∃ x, f = x + 1 := ⟨f - 1, by omega⟩
    rw [F_X3_insert_5, if_neg (fun q => by have := (gt_lit (n := 0) rfl (by omega)).mp q; omega)]
    have e : min p (min n 12) = 0 := by
      by_cases q : min n 12 = 0
      · omega
      · have := h 0 (Nat.le_refl _) (by omega); omega
    rw [e]
  | succ c ih =>
    intro hc h f hf
    obtain ⟨f, rfl⟩ : ∃ x, f = x + 1 := ⟨f - 1, by omega⟩
    obtain ⟨d1, d2⟩ := hd c (by omega)
    rw [F_X3_insert_5, if_pos ((gt_lit (n := 0) rfl (by omega)).mpr (by omega)), nI_pred, nI_dec, eIn_s (by omega) (by omega), eG_tt, cl (show c < 2147483648 by omega), d1, eIn_s (by omega) (by omega), eG_tt, eIn_s (by omega) (by omega), eG_tt, cl (by omega), cl (by omega), (h33 k hk).1, (h33 (d c) d2).1]
    have g1 := (h33 k hk).2
    have g2 := (h33 (d c) d2).2
    by_cases q : gtm s k < gtm s (d c)
    · rw [if_pos (nI_lt q (by omega))]
      have q1 : c < p := by
        by_cases q2 : c < p
        · exact q2
        · have := p3 c (by omega) (by omega); omega
      have e : min p (min n 12) = c + 1 := by
        by_cases q2 : c + 1 < min n 12
        · have := h (c + 1) (Nat.le_refl _) q2; omega
        · omega
      rw [e]
    · rw [if_neg (nI_nlt (by omega) (by omega))]
      refine ih (by omega) (fun i h1 h2 => ?_) f (by omega)
      by_cases q2 : i = c
      · subst q2
        by_cases q3 : i < p
        · have := p2 i q3; omega
        · omega
      · exact h i (by omega) h2
theorem X3_ins {C : eMem} {s : Nat → Int32} {n k p N : Nat} {d : Nat → Nat} (hN : N ≤ 90) (hn : n ≤ 90) (h33 : ∀ k, k < N → C.1 33 k = nI (gtm s k) ∧ gtm s k ≤ 1943) (hk : k < N) (h2 : C.1 55 2 = nI (min n 12)) (hd : ∀ i, i < min n 12 → C.1 57 i = nI (d i) ∧ d i < N) (p1 : p ≤ n) (p2 : ∀ i, i < p → gtm s k < gtm s (d i)) (p3 : ∀ i, p ≤ i → i < n → gtm s (d i) ≤ gtm s k) :
    ∃ C2, F_X3_insert (nI k) C = some C2 ∧ (∀ q, q ≠ 55 → q ≠ 57 → C2.1 q = C.1 q) ∧ C2.2 = C.2 ∧ C2.1 55 2 = nI (min (n + 1) 12) ∧ ∀ i, i < min (n + 1) 12 → C2.1 57 i = nI (ins d p k i) := by
  unfold F_X3_insert
  rw [h2, X3_find _ hN h33 hk hd p1 p2 p3 (min n 12) (Nat.le_refl _) (fun i h1 h2 => by omega) eFuel (by unfold eFuel; omega)]
  by_cases hp : min p (min n 12) < 12
  · have ep : min p (min n 12) = p := by omega
    rw [ep, if_pos ((lt_lit (n := 12) rfl (by omega)).mpr (by omega)), h2]
    unfold F_X3_insert_63
    have hgo : ∀ M : eMem, M.1 55 2 = nI (min (n + 1) 12) → (∀ q, q ≠ 55 → M.1 q = C.1 q) → M.2 = C.2 → ∃ C2, F_X3_insert_71 eFuel (nI k) (nI p) (M.1 55 2 - 1) M = some C2 ∧ (∀ q, q ≠ 55 → q ≠ 57 → C2.1 q = C.1 q) ∧ C2.2 = C.2 ∧ C2.1 55 2 = nI (min (n + 1) 12) ∧ ∀ i, i < min (n + 1) 12 → C2.1 57 i = nI (ins d p k i) := by
      intro M m1 m2 m3
      obtain ⟨c, hc⟩ : ∃ c, min (n + 1) 12 = c + 1 := ⟨min (n + 1) 12 - 1, by omega⟩
      rw [m1, hc, nI_pred]
      obtain ⟨M2, q1, q2, q3, q4⟩ := X3_shift (nI k) p (c - p) c (by omega) (by omega) eFuel (by unfold eFuel; omega) M
      refine ⟨M2, q1, fun q h1 h2 => by rw [q2 q h2, m2 q h1], q3.trans m3, by rw [q2 55 (by decide), m1, hc], fun i hi => ?_⟩
      rw [q4 i, m2 57 (by decide)]
      unfold ins
      by_cases e : i = p
      · rw [if_pos e, if_neg (by omega), if_pos e]
      · rw [if_neg e]
        by_cases e2 : p < i ∧ i ≤ c
        · rw [if_pos e2, if_neg (by omega), if_neg e]; exact (hd (i - 1) (by omega)).1
        · rw [if_neg e2, if_pos (by omega)]; exact (hd i (by omega)).1
    by_cases hs : min n 12 < 12
    · rw [if_pos ((lt_lit (n := 12) rfl (by omega)).mpr hs)]
      refine hgo _ ?_ (fun q hq => by simp (disch := omega) only [eIq_ne, eIq_eq, upd_ne, upd_eq]) rfl
      simp (disch := omega) only [eIq_ne, eIq_eq, upd_ne, upd_eq]
      rw [Rad_1, show min n 12 + 1 = min (n + 1) 12 by omega]
    · rw [if_neg (fun q => hs ((lt_lit (n := 12) rfl (by omega)).mp q))]
      exact hgo C (by rw [h2, show min n 12 = min (n + 1) 12 by omega]) (fun _ _ => rfl) rfl
  · rw [if_neg (fun q => hp ((lt_lit (n := 12) rfl (by omega)).mp q))]
    refine ⟨C, rfl, fun _ _ _ => rfl, rfl, by rw [h2, show min n 12 = min (n + 1) 12 by omega], fun i hi => ?_⟩
    unfold ins
    rw [if_pos (by omega)]
    exact (hd i (by omega)).1
theorem X10_shift (K : Int32 → Int32 → Int32 → Int32 → Int32 → eMem → Option eMem) (v1 v2 v3 v4 : Int32) (q : Nat) : ∀ m c, c = q + m → c < 800 → ∀ f, m < f → ∀ M : eMem, (∀ i, i < c → (v1 < M.1 8 i ↔ q ≤ i)) → ∃ M2, F_X10_more_6 K f v1 v2 v3 v4 (nI c) M = K v1 v2 v3 v4 (nI q) M2 ∧ (∀ a, (a < 8 ∨ 11 < a) → M2.1 a = M.1 a) ∧ M2.2 = M.2 ∧ ∀ a, 8 ≤ a → a ≤ 11 → ∀ i, M2.1 a i = if q < i ∧ i ≤ c then M.1 a (i - 1) else M.1 a i := by
  intro m
  induction m with
  | zero =>
    intro c hc h8 f hf M hM
    obtain ⟨f, rfl⟩ : ∃ x, f = x + 1 := ⟨f - 1, by omega⟩
    refine ⟨M, ?_, fun _ _ => rfl, rfl, fun a h1 h2 i => by rw [if_neg (by omega)]⟩
    rw [F_X10_more_6]
    have e : c = q := by omega
    subst e
    rcases Nat.eq_zero_or_pos c with c0 | c0
    · subst c0
      rw [if_neg (by decide)]
    · obtain ⟨c, rfl⟩ : ∃ x, c = x + 1 := ⟨c - 1, by omega⟩
      rw [if_pos ((gt_lit (n := 0) rfl (by omega)).mpr (by omega)), nI_pred, eIn_s (by omega) (by omega), eG_tt, cl (by omega), if_neg (fun h => by have := (hM c (by omega)).mp h; omega)]
  | succ m ih =>
    intro c hc h8 f hf M hM
    obtain ⟨f, rfl⟩ : ∃ x, f = x + 1 := ⟨f - 1, by omega⟩
    subst hc
    rw [F_X10_more_6, if_pos ((gt_lit (n := 0) rfl (by omega)).mpr (by omega)), show q + (m + 1) = q + m + 1 by omega, nI_pred, nI_dec, eIn_s (k := q + m) (n := 800) (by omega) (by omega), eIn_s (k := q + m + 1) (n := 800) (by omega) (by omega), cl (show q + m < 2147483648 by omega), cl (show q + m + 1 < 2147483648 by omega), if_pos ((hM (q + m) (by omega)).mpr (by omega))]
    simp only [eG_tt]
    obtain ⟨M2, h1, h2, h3, h4⟩ := ih (q + m) rfl (by omega) f (by omega) (eI (eI (eI (eI M 8 (q + m + 1) (M.1 8 (q + m))) 9 (q + m + 1) (M.1 9 (q + m))) 10 (q + m + 1) (M.1 10 (q + m))) 11 (q + m + 1) (M.1 11 (q + m))) (fun i hi => by simp (disch := omega) only [eIq_ne, eIq_eq, upd_ne, upd_eq]; exact hM i (by omega))
    refine ⟨M2, h1, fun a ha => by rw [h2 a ha]; simp (disch := omega) only [eIq_ne, eIq_eq, upd_ne, upd_eq], h3, fun a a1 a2 i => ?_⟩
    rw [h4 a a1 a2 i]
    rcases (show a = 8 ∨ a = 9 ∨ a = 10 ∨ a = 11 by omega) with rfl | rfl | rfl | rfl <;>
    · simp (disch := omega) only [eIq_ne, eIq_eq, upd_ne, upd_eq]
      simp only [upd_at]
      by_cases e2 : q < i ∧ i ≤ q + m
      · rw [if_pos e2, if_pos (by omega)]
      · rw [if_neg e2]
        by_cases e3 : i = q + m + 1
        · subst e3; rw [if_pos rfl, if_pos (by omega)]; rfl
        · rw [if_neg e3, if_neg (by omega)]
theorem X10_ins {R : eMem} (v1 v2 v3 v4 : Int32) {q n : Nat} (hq : q ≤ n) (hn : n < 800) (h13 : R.1 0 13 = nI n) (hM : ∀ i, i < n → (v1 < R.1 8 i ↔ q ≤ i)) :
    ∃ R2, F_X10_more v1 v2 v3 v4 R = some R2 ∧ (∀ a, (1 ≤ a ∧ a < 8) ∨ 11 < a → R2.1 a = R.1 a) ∧ R2.2 = R.2 ∧ (∀ i, i ≠ 13 → R2.1 0 i = R.1 0 i) ∧ R2.1 0 13 = nI (n + 1) ∧
      (∀ i, i ≤ n → R2.1 8 i = (if i < q then R.1 8 i else if i = q then v1 else R.1 8 (i - 1)) ∧ R2.1 9 i = (if i < q then R.1 9 i else if i = q then v2 else R.1 9 (i - 1)) ∧ R2.1 10 i = (if i < q then R.1 10 i else if i = q then v3 else R.1 10 (i - 1)) ∧ R2.1 11 i = (if i < q then R.1 11 i else if i = q then v4 else R.1 11 (i - 1))) := by
  unfold F_X10_more
  rw [h13]
  obtain ⟨M2, h1, h2, h3, h4⟩ := X10_shift (fun v1 v2 v3 v4 v5 M => eG (eIn v5 800) <| eG (eIn v5 800) <| eG (eIn v5 800) <| eG (eIn v5 800) <| some (eI (eI (eI (eI (eI M 8 v5.toNatClampNeg v1) 9 v5.toNatClampNeg v2) 10 v5.toNatClampNeg v3) 11 v5.toNatClampNeg v4) 0 13 ((M.1 0 13) + 1))) v1 v2 v3 v4 q (n - q) n (by omega) hn eFuel (by unfold eFuel; omega) R hM
  rw [h1, eIn_s (by omega) (by omega), cl (by omega)]
  simp only [eG_tt]
  refine ⟨_, rfl, fun a ha => by simp (disch := omega) only [eIq_ne, eIq_eq, upd_ne, upd_eq]; exact h2 a (by omega), h3, fun i hi => by simp (disch := omega) only [eIq_ne, eIq_eq, upd_ne, upd_eq]; rw [h2 0 (by decide)], ?_, fun i hi => ?_⟩
  · simp (disch := omega) only [eIq_ne, eIq_eq, upd_ne, upd_eq]; rw [h2 0 (by decide), h13, Rad_1]
  · refine ⟨?_, ?_, ?_, ?_⟩ <;>
    · simp (disch := omega) only [eIq_ne, eIq_eq, upd_ne, upd_eq]
      rw [upd_at, h4 _ (by omega) (by omega) i]
      by_cases e1 : i < q
      · rw [if_neg (by omega), if_neg (by omega), if_pos e1]
      · rw [if_neg e1]
        by_cases e2 : i = q
        · rw [if_pos e2, if_pos e2]
        · rw [if_neg e2, if_neg e2, if_pos (by omega)]
