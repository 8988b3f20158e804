/-! THE LAW: the relation at the start; what stands outside; classes; the loop; the walk. -/
theorem v0_9 (p : Nat) (h1 : p ≠ 29) (h2 : p ≠ 101) : cM9.1 p = fun _ => 0 := by
  simp only [cM9]
  rw [if_neg h1, if_neg h2]
theorem v0_10 (j : Nat) (h : j ≠ 5) : cM10.1 1 j = 0 := by
  show upd (fun _ => 0) 5 9 j = 0
  unfold upd
  rw [if_neg h]
theorem n0_10 (j : Nat) (h : j ≠ 5) : (cM10.1 1 j).toNatClampNeg = 0 := by rw [v0_10 j h]; rfl
theorem rel_start : Rel cM9 cM10 := by
  have eR : nR (cM10.1 1) = 0 := n0_10 7 (by decide)
  have eU : nU (cM10.1 1) = 0 := n0_10 8 (by decide)
  have eS : nS (cM10.1 1) = 0 := n0_10 9 (by decide)
  have eP : nP (cM10.1 1) = 0 := n0_10 10 (by decide)
  have eT : nT (cM10.1 1) = 0 := n0_10 11 (by decide)
  have eF : nF (cM10.1 1) = 0 := n0_10 12 (by decide)
  have eL : nL (cM10.1 1) = 0 := n0_10 13 (by decide)
  have eH : hr (cM10.1 1) = 0 := n0_10 0 (by decide)
  have hz : (0 : Int32) = nI 0 := rfl
  refine ⟨⟨?_, ?_, ?_, ?_, ?_, ?_, ?_, ?_, ?_, ?_, ?_, ?_, ?_, ?_, ⟨?_, ?_, ?_, ?_, ?_, ?_⟩⟩, ?_, ?_, ?_, ?_, ?_⟩
  · exact ⟨rfl, rfl, rfl, rfl, rfl, rfl, rfl, rfl, rfl, rfl, rfl, rfl, rfl, rfl⟩
  · intro k hk; rw [v0_9 3 (by decide) (by decide), v0_10 _ (by omega)]
  · intro k hk; rw [eR] at hk; omega
  · intro k hk; rw [eU] at hk; omega
  · intro k hk; rw [v0_9 11 (by decide) (by decide), v0_10 _ (by omega)]
  · intro k hk; rw [v0_9 37 (by decide) (by decide), v0_10 _ (by omega)]
  · intro k hk; rw [eS] at hk; omega
  · intro k hk; rw [eP] at hk; omega
  · intro k hk; rw [eF] at hk; omega
  · intro k hk; rw [eL] at hk; omega
  · intro k hk; rw [v0_9 53 (by decide) (by decide), v0_10 _ (by omega)]
  · intro k hk; rw [eT] at hk; omega
  · intro k hk; rw [eT] at hk; omega
  · exact ⟨fun i _ => Or.inl rfl, fun i _ => Or.inl rfl, fun i _ => Or.inl rfl, fun i _ => Or.inl rfl, fun i _ => Or.inl rfl, fun i _ => Or.inl rfl, fun i _ => Or.inl rfl⟩
  · refine ⟨⟨?_, ?_⟩, ⟨9, by decide, by decide, rfl⟩, ⟨0, by decide, v0_10 6 (by decide)⟩, ⟨?_, ?_⟩, ⟨?_, ?_⟩, ⟨?_, ?_⟩, ⟨?_, ?_⟩, ⟨?_, ?_⟩, ⟨?_, ?_⟩, ⟨?_, ?_⟩⟩
    · rw [eH]; exact v0_10 0 (by decide)
    · rw [eH]; omega
    · rw [eR]; exact v0_10 7 (by decide)
    · rw [eR]; omega
    · rw [eU]; exact v0_10 8 (by decide)
    · rw [eU]; omega
    · rw [eS]; exact v0_10 9 (by decide)
    · rw [eS]; omega
    · rw [eP]; exact v0_10 10 (by decide)
    · rw [eP]; omega
    · rw [eT]; exact v0_10 11 (by decide)
    · rw [eT]; omega
    · rw [eF]; exact v0_10 12 (by decide)
    · rw [eF]; omega
    · rw [eL]; exact v0_10 13 (by decide)
    · rw [eL]; omega
  · intro k hk; rw [eR] at hk; omega
  · intro k hk; rw [eU] at hk; omega
  · intro k hk; rw [eS] at hk; omega
  · intro k hk; rw [eP] at hk; omega
  · intro k hk; rw [eF] at hk; omega
  · exact ⟨rfl, Or.inl rfl⟩
  · exact ⟨0, by decide, rfl, rfl, fun i hi => absurd hi (Nat.not_lt_zero i)⟩
  · intro k hk
    refine ⟨rfl, rfl, Or.inl rfl, ⟨0, by decide, rfl⟩, fun i _ => ?_, fun h => ?_⟩
    · rw [v0_9 (151 + k) (by omega) (by omega)]; rfl
    · exact absurd (show (0 : Int32) = 8 from h) (by decide)
  · intro i _; rfl
  · exact ⟨fun i _ => Or.inl rfl, fun i _ => Or.inl rfl, fun i _ => Or.inl rfl, fun i _ => Or.inl rfl, fun i _ => Or.inl rfl, fun i _ => Or.inl rfl, fun i _ => Or.inl rfl⟩

