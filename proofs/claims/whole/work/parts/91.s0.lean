/-! what the start gives, by its places -/
theorem oA_mem : (∀ k, k < 4 → Cond.arrayOf (.static "GhostCoast" (eKN.getD k "") "[I") .int ∈ flatC (Jvm.Cond.and given_1 narrow_1)) ∧ (∀ k, k < 4 → Cond.eq (.length (.static "GhostCoast" (eKN.getD k "") "[I")) (.int (Int32.ofNat 7)) ∈ flatC (Jvm.Cond.and given_1 narrow_1)) ∧ (∀ k, k < 4 → ∀ j, j < 7 → Cond.eq (.elem (.static "GhostCoast" (eKN.getD k "") "[I") (.int (Int32.ofNat j))) (.int ((eKA.getD k []).getD j 0)) ∈ flatC (Jvm.Cond.and given_1 narrow_1)) := by decide +kernel
abbrev oT (i : Nat) : Term := .string (eSO.getD i ("", 0, "")).1 (eSO.getD i ("", 0, "")).2.1
theorem oS_mem : (∀ i, i < 6 → Cond.exactly (oT i) "java/lang/String" ∈ flatC (Jvm.Cond.and given_1 narrow_1)) ∧ (∀ i, i < 6 → Cond.eq (.field (oT i) "java/lang/String" "coder" "B") (.int 0) ∈ flatC (Jvm.Cond.and given_1 narrow_1)) ∧ (∀ i, i < 6 → Cond.arrayOf (.field (oT i) "java/lang/String" "value" "[B") .byte ∈ flatC (Jvm.Cond.and given_1 narrow_1)) ∧ (∀ i, i < 6 → Cond.eq (.length (.field (oT i) "java/lang/String" "value" "[B")) (.int (Int32.ofNat (eSL.getD i 0))) ∈ flatC (Jvm.Cond.and given_1 narrow_1)) := by decide +kernel
theorem oB_0 : ((flatC (Jvm.Cond.and given_1 narrow_1)).drop 53).take 13 = (List.range 13).map (fun j => Cond.eq (.elem (.field (oT 0) "java/lang/String" "value" "[B") (.int (Int32.ofNat j))) (.int ((eSB.getD 0 []).getD j 0))) := by decide +kernel
theorem oB_1 : ((flatC (Jvm.Cond.and given_1 narrow_1)).drop 70).take 38 = (List.range 38).map (fun j => Cond.eq (.elem (.field (oT 1) "java/lang/String" "value" "[B") (.int (Int32.ofNat j))) (.int ((eSB.getD 1 []).getD j 0))) := by decide +kernel
theorem oB_2 : ((flatC (Jvm.Cond.and given_1 narrow_1)).drop 113).take 3 = (List.range 3).map (fun j => Cond.eq (.elem (.field (oT 2) "java/lang/String" "value" "[B") (.int (Int32.ofNat j))) (.int ((eSB.getD 2 []).getD j 0))) := by decide +kernel
theorem oB_3 : ((flatC (Jvm.Cond.and given_1 narrow_1)).drop 122).take 26 = (List.range 26).map (fun j => Cond.eq (.elem (.field (oT 3) "java/lang/String" "value" "[B") (.int (Int32.ofNat j))) (.int ((eSB.getD 3 []).getD j 0))) := by decide +kernel
theorem oB_4 : ((flatC (Jvm.Cond.and given_1 narrow_1)).drop 155).take 6 = (List.range 6).map (fun j => Cond.eq (.elem (.field (oT 4) "java/lang/String" "value" "[B") (.int (Int32.ofNat j))) (.int ((eSB.getD 4 []).getD j 0))) := by decide +kernel
theorem oB_5 : ((flatC (Jvm.Cond.and given_1 narrow_1)).drop 169).take 80 = (List.range 80).map (fun j => Cond.eq (.elem (.field (oT 5) "java/lang/String" "value" "[B") (.int (Int32.ofNat j))) (.int ((eSB.getD 5 []).getD j 0))) := by decide +kernel
theorem oB_use {X : List Cond} {st ln : Nat} {f : Nat → Cond} (h : (X.drop st).take ln = (List.range ln).map f) {j : Nat} (hj : j < ln) : f j ∈ X :=
  List.mem_of_mem_drop (List.mem_of_mem_take (by rw [h]; exact List.mem_map.mpr ⟨j, List.mem_range.mpr hj, rfl⟩))
theorem oB_mem : ∀ i, i < 6 → ∀ j, j < eSL.getD i 0 → Cond.eq (.elem (.field (oT i) "java/lang/String" "value" "[B") (.int (Int32.ofNat j))) (.int ((eSB.getD i []).getD j 0)) ∈ flatC (Jvm.Cond.and given_1 narrow_1) := by
  intro i hi j hj
  rcases (show i = 0 ∨ i = 1 ∨ i = 2 ∨ i = 3 ∨ i = 4 ∨ i = 5 by omega) with rfl | rfl | rfl | rfl | rfl | rfl
  · exact oB_use oB_0 hj
  · exact oB_use oB_1 hj
  · exact oB_use oB_2 hj
  · exact oB_use oB_3 hj
  · exact oB_use oB_4 hj
  · exact oB_use oB_5 hj
theorem oN_mem : ∀ i, i < 6 → ∀ j, j < 6 → i ≠ j → Cond.not (Cond.eq (oT i) (oT j)) ∈ flatC (Jvm.Cond.and given_1 narrow_1) ∨ Cond.not (Cond.eq (oT j) (oT i)) ∈ flatC (Jvm.Cond.and given_1 narrow_1) := by decide +kernel
theorem oR_mem : ∀ k, k < 6 → Cond.stringRef (eSO.getD k ("", 0, "")).1 (eSO.getD k ("", 0, "")).2.1 (eSO.getD k ("", 0, "")).2.2 ∈ tables_1 := by decide +kernel
theorem oL_mem : ∀ k, k < 4 → Cond.laysStatic "GhostCoast" (eKN.getD k "") "[I" ∈ tables_1 := by decide +kernel
