/-! feed -/
theorem Rel.tape {C C2 R R2 : eMem} (h : Rel C R) (hc : ∀ p, p ≠ 145 → p ≠ 146 → C2.1 p = C.1 p) (hr : ∀ p, p ≠ 0 → p ≠ 3 → R2.1 p = R.1 p) (hr2 : R2.1 0 2 = R.1 0 2) (ht : rTape C2 R2) : Rel C2 R2 := by
  obtain ⟨h1, ⟨h2, h3⟩, h4, h5, h6, h7⟩ := h
  refine ⟨?_, ⟨by rw [hc 0 (by omega) (by omega), hr2]; exact h2, ?_⟩, ht, ?_, ?_, wZ_cg h7 ?_ ?_ ?_ ?_ ?_ ?_ ?_⟩
  · rw [hr 1 (by omega) (by omega)]
    refine h1.agr ?_ (fun j _ => rfl)
    simp (disch := omega) only [Agr, hc]
    simp
  · rw [hr2]
    rcases h3 with h3 | ⟨h3, h3'⟩
    · exact Or.inl h3
    · refine Or.inr ⟨h3, ?_⟩
      rw [hr 2 (by omega) (by omega)]
      refine h3'.agr ?_ (fun j _ => rfl)
      simp (disch := omega) only [Agr, hc]
      simp
  · intro k hk
    rw [hc 148 (by omega) (by omega), hc 149 (by omega) (by omega), hc (151 + k) (by omega) (by omega), hr 4 (by omega) (by omega), hr 5 (by omega) (by omega), hr 6 (by omega) (by omega)]
    exact h5 k hk
  · intro i hi
    rw [hc 155 (by omega) (by omega), hr 7 (by omega) (by omega)]
    exact h6 i hi
  all_goals (intro i _; rw [hc _ (by omega) (by omega)])
theorem feed_loop (x : Int32) : ∀ c n, n + c ≤ 120 → c ≤ 4 → ∀ f1 f2, c < f1 → c < f2 → ∀ C R : eMem, Rel C R → C.1 145 1 = nI n → R.1 0 3 = nI n → Step (F_X9_feed_41 f1 x (nI c - 1) C) (F_X10_feed_36 f2 x (nI c - 1) R) := by
  intro c
  induction c with
  | zero =>
    intro n hn hc f1 f2 h1 h2 C R h hC hR
    obtain ⟨f1, rfl⟩ : ∃ x, f1 = x + 1 := ⟨f1 - 1, by omega⟩
    obtain ⟨f2, rfl⟩ : ∃ x, f2 = x + 1 := ⟨f2 - 1, by omega⟩
    rw [F_X9_feed_41, F_X10_feed_36, if_pos (by decide), if_pos (by decide), hC, hR]
    exact stepI rfl h
  | succ c ih =>
    intro n hn hc f1 f2 h1 h2 C R h hC hR
    obtain ⟨f1, rfl⟩ : ∃ x, f1 = x + 1 := ⟨f1 - 1, by omega⟩
    obtain ⟨f2, rfl⟩ : ∃ x, f2 = x + 1 := ⟨f2 - 1, by omega⟩
    rw [nI_pred, F_X9_feed_41, F_X10_feed_36, if_neg (nI_pos (by omega)), if_neg (nI_pos (by omega))]
    unfold F_X6_add
    rw [hC, hR, isIn_y (n := 120) rfl (by omega), eIn_s (by omega) (by omega), cl (by omega), Rad_1]
    simp only [bS, i10, ↓reduceIte, eG_tt]
    generalize x >>> (8 * nI c &&& 31) = y
    rw [← Int32.sub_eq_add_neg]
    obtain ⟨b, hb, hb2⟩ := and255 y
    obtain ⟨n', n1, t1, t2, t3⟩ := h.2.2.1
    have en : n' = n := by rw [hC] at t1; exact ((eqN (by omega) (by omega)).mp t1).symm
    subst en
    have hrel : Rel (eI (eI C 145 1 (nI (n' + 1))) 146 n' (y &&& 255)) (eI (eI R 3 n' (vp_nar .byte y.toInt8.toInt32)) 0 3 (nI (n' + 1))) := by
      refine h.tape (fun p p1 p2 => by simp (disch := omega) only [eIq_ne, eIq_eq, upd_ne, upd_eq]) (fun p p1 p2 => by simp (disch := omega) only [eIq_ne, eIq_eq, upd_ne, upd_eq]) (by simp (disch := omega) only [eIq_ne, eIq_eq, upd_ne, upd_eq]) ⟨n' + 1, by omega, by simp (disch := omega) only [eIq_ne, eIq_eq, upd_ne, upd_eq], by simp (disch := omega) only [eIq_ne, eIq_eq, upd_ne, upd_eq], fun i hi => ?_⟩
      simp (disch := omega) only [eIq_ne, eIq_eq, upd_ne, upd_eq]
      rw [upd_at, upd_at]
      by_cases e : i = n'
      · rw [if_pos e, if_pos e]; exact ⟨b, hb, hb2, by rw [byte_and, hb2]⟩
      · rw [if_neg e, if_neg e]; exact t3 i (by omega)
    have hx := ih (n' + 1) (by omega) (by omega) f1 f2 (by omega) (by omega) _ _ hrel (by simp (disch := omega) only [eIq_ne, eIq_eq, upd_ne, upd_eq]) (by simp (disch := omega) only [eIq_ne, eIq_eq, upd_ne, upd_eq])
    exact hx
theorem st_feed {C R : eMem} (h : Rel C R) (x1 x2 : Int32) : Step (F_X9_feed x1 x2 C) (F_X10_feed x1 x2 R) := by
  obtain ⟨n, n1, t1, t2, t3⟩ := h.2.2.1
  unfold F_X9_feed F_X10_feed
  simp only [btw]
  rcases inL x2 1 4 1 4 rfl rfl with ⟨k, k1, hk, rfl, e1⟩ | e1 <;> rw [e1]
  · simp only [bS, i10, ↓reduceIte]
    rw [t1, t2, nI_add]
    by_cases q : 120 < n + k
    · have q2 : (120 : Int32) < nI (n + k) := (gt_lit (n := 120) rfl (by omega)).mpr (by omega)
      rw [if_pos q2, if_pos q2]; exact stf2 h
    · have q2 : ¬ (120 : Int32) < nI (n + k) := fun e => by have := (gt_lit (n := 120) rfl (by omega)).mp e; omega
      rw [if_neg q2, if_neg q2]
      exact feed_loop x1 k n (by omega) hk eFuel eFuel (by unfold eFuel; omega) (by unfold eFuel; omega) C R h t1 t2
  · simp only [bS, i10, i00, ↓reduceIte]
    exact stf1 h
