/-! how many stand -/
theorem standing_loop {C R : eMem} (h : RelW C.1 (R.1 1)) : ∀ m j, j + m = nS (R.1 1) → ∀ f1 f2, m < f1 → m < f2 → ∀ v, ∃ u, F_X5_standing_4 f1 C v (nI j) = some u ∧ F_X10_standing_4 f2 R v (nI j) = some u := by
  obtain ⟨wSc, -, -, -, -, -, wSh, -, -, -, -, -, -, -, i1, -, -, i4, -⟩ := id h
  obtain ⟨-, -, -, -, -, ⟨z9, y9⟩, -⟩ := id i1
  have c9 := wSc.2.2.2.2.2.2.2.2.2.1
  intro m
  induction m with
  | zero =>
    intro j hj f1 f2 h1 h2 v
    obtain ⟨f1, rfl⟩ : ∃ x, f1 = x + 1 := ⟨f1 - 1, by omega⟩
    obtain ⟨f2, rfl⟩ : ∃ x, f2 = x + 1 := ⟨f2 - 1, by omega⟩
    rw [F_X5_standing_4, F_X10_standing_4, c9, z9, if_neg (nI_nlt (by omega) (by omega)), if_neg (nI_nlt (by omega) (by omega))]
    exact ⟨v, rfl, rfl⟩
  | succ m ih =>
    intro j hj f1 f2 h1 h2 v
    obtain ⟨f1, rfl⟩ : ∃ x, f1 = x + 1 := ⟨f1 - 1, by omega⟩
    obtain ⟨f2, rfl⟩ : ∃ x, f2 = x + 1 := ⟨f2 - 1, by omega⟩
    have hn := fun v => ih (j + 1) (by omega) f1 f2 (by omega) (by omega) v
    rw [F_X5_standing_4, F_X10_standing_4, c9, z9, if_pos (nI_lt (by omega) (by omega)), if_pos (nI_lt (by omega) (by omega)), show_5 j R (by omega), eIn_s (show j < 20 by omega) (by omega), cl (show j < 2147483648 by omega), eG_tt, (wSh j (by omega)).2.2.2.2.2.1, Rad_1]
    simp only [bS]
    rcases (i4 j (by omega)).2.2.2.2.1 with q | q <;> rw [q]
    · rw [if_pos rfl, show v + 0 = v from Int32.add_zero v]; exact hn v
    · rw [if_neg (by decide)]; exact hn (v + 1)
theorem standing_both {C R : eMem} (h : RelW C.1 (R.1 1)) : ∃ u, F_X5_standing C = some u ∧ F_X10_standing R = some u := by
  have y9 : nS (R.1 1) ≤ 20 := h.2.2.2.2.2.2.2.2.2.2.2.2.2.2.1.2.2.2.2.2.1.2
  have := standing_loop h (nS (R.1 1)) 0 (by omega) eFuel eFuel (by unfold eFuel; omega) (by unfold eFuel; omega) 0
  rw [show nI 0 = 0 from rfl] at this
  exact this
