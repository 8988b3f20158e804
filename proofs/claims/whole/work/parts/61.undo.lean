theorem st_image {C R : eMem} (h : Rel C R) : Step (F_X9_image C) (F_X10_image R) := by
  obtain ⟨h1, ⟨h2, h3⟩, h4, h5, h6, h7⟩ := id h
  obtain ⟨C2, e1, e2, e3⟩ := beI h1.2.2.2.2.2.2.2.2.2.2.2.2.2.1
  obtain ⟨R2, a1, a2, a3, a4, a5⟩ := imR 2900 0 rfl eFuel (by unfold eFuel; omega) R (fun i hi => by omega)
  rw [show nI 0 = 0 from rfl] at a1
  unfold F_X9_image F_X10_image
  rw [e1, a1]
  simp only [bS]
  have hk : RelW (fun p => C2.1 (p + 72)) (R2.1 2) := h1.agr e2 (fun j hj => a5 j hj)
  have hk2 : RelW (fun p => (eI C2 0 2 1).1 (p + 72)) (R2.1 2) := by
    have e : (fun p => (eI C2 0 2 1).1 (p + 72)) = (fun p => C2.1 (p + 72)) := by
      funext p
      simp (disch := omega) only [eIq_ne, eIq_eq, upd_ne, upd_eq]
    rw [e]
    exact hk
  refine stepI rfl ⟨?_, ⟨by rw [a3]; simp (disch := omega) only [eIq_ne, eIq_eq, upd_ne, upd_eq], Or.inr ⟨a3, hk2⟩⟩, ?_, ?_, ?_, hk2.2.2.2.2.2.2.2.2.2.2.2.2.2.1⟩
  · rw [a2 1 (by decide) (by decide)]
    refine h1.agr ?_ (fun j _ => rfl)
    simp (disch := omega) only [Agr, eIq_ne, e3]
    simp
  · unfold rTape
    rw [a4 3 (by decide), a2 3 (by decide) (by decide)]
    simp (disch := omega) only [eIq_ne, e3]
    exact h4
  · intro k hk
    rw [a2 4 (by decide) (by decide), a2 5 (by decide) (by decide), a2 6 (by decide) (by decide)]
    simp (disch := omega) only [eIq_ne, e3]
    exact h5 k hk
  · intro i hi
    rw [a2 7 (by decide) (by decide)]
    simp (disch := omega) only [eIq_ne, e3]
    exact h6 i hi
theorem st_undo {C R : eMem} (h : Rel C R) : Step (F_X9_undo C) (F_X10_undo R) := by
  obtain ⟨h1, ⟨h2, h3⟩, h4, h5, h6, h7⟩ := id h
  unfold F_X9_undo F_X10_undo
  rw [h2]
  rcases h3 with h3 | ⟨h3, h3'⟩
  · rw [if_pos h3, if_pos h3]; exact stf4 h
  · rw [if_neg (by rw [h3]; decide), if_neg (by rw [h3]; decide)]
    obtain ⟨C2, e1, e2, e3⟩ := beU (C := C) h7
    obtain ⟨R2, a1, a2, a5⟩ := unR 2900 0 rfl eFuel (by unfold eFuel; omega) R (fun i hi => by omega)
    rw [show nI 0 = 0 from rfl] at a1
    rw [e1, a1]
    simp only [bS]
    have hk : RelW (fun p => C2.1 (p + 72)) (R2.1 2) := by
      rw [a2 2 (by decide)]
      refine h3'.agr ?_ (fun j _ => rfl)
      simp (disch := omega) only [Agr, e3]
      simp
    refine stepI ?_ ⟨?_, ⟨?_, Or.inr ⟨?_, hk⟩⟩, ?_, ?_, ?_, hk.2.2.2.2.2.2.2.2.2.2.2.2.2.1⟩
    · rw [e2.1]; exact h3'.1.1
    · exact h3'.agr e2 (fun j hj => a5 j hj)
    · rw [a2 0 (by decide), e3 0 (by omega)]; exact h2
    · rw [a2 0 (by decide)]; exact h3
    · unfold rTape
      rw [a2 0 (by decide), a2 3 (by decide)]
      simp (disch := omega) only [e3]
      exact h4
    · intro k hk
      rw [a2 4 (by decide), a2 5 (by decide), a2 6 (by decide)]
      simp (disch := omega) only [e3]
      exact h5 k hk
    · intro i hi
      rw [a2 7 (by decide)]
      simp (disch := omega) only [e3]
      exact h6 i hi
