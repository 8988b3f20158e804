/-! what stands outside the two systems -/
theorem tb_in {w : Cond} (n : Nat) (h : tables_1[n]? = some w) : w ∈ lw_tbl := List.mem_append_right _ (List.mem_of_getElem? h)
theorem lOut {args : Array Value} {s : State} (hts : ∀ w ∈ lw_tbl, w.before args s = true) (hgv : (Jvm.Cond.and given_1 narrow_1).before args s = true) : ∃ out : Nat → Nat, ∀ ad : Nat → Nat, (∀ p, 1000 ≤ p → ad p = out p) → eOut ad (lwA s) s := by
  have hs := flat_of_before _ hgv
  have hA : ∀ a : Nat, a < s.heap.size → ¬ lwA s a := fun a h => Nat.not_le.mpr h
  have htb : ∀ w ∈ tables_1, w.before args s = true := fun w hw => hts w (List.mem_append_right _ hw)
  have h0 : ∀ k : Nat, ∃ t : Nat, k < 4 → (Term.static "GhostCoast" (eKN.getD k "") "[I").eval args s none [] s = some (.ref t) ∧ va_T .int t 7 (fun j => .int ((eKA.getD k []).getD j 0)) (lwA s) s s.heap := by
    intro k
    by_cases hk : k < 4
    · obtain ⟨t, h1, h2⟩ := va_Tof (f := fun j => .int ((eKA.getD k []).getD j 0)) (by decide) (hs _ (oA_mem.1 k hk)) (va_eqt (hs _ (oA_mem.2.1 k hk))) (fun j hj => va_eqt (hs _ (oA_mem.2.2 k hk j hj))) hA
      exact ⟨t, fun _ => ⟨h1, h2⟩⟩
    · exact ⟨0, fun h => absurd h hk⟩
  obtain ⟨f, hf⟩ := Classical.axiomOfChoice h0
  obtain ⟨adK, adV, hS, hE⟩ := vk_Sof (N := 6) (tm := oT) (len := eSL) (byt := eSB) (by decide) (fun i hi => hs _ (oS_mem.1 i hi)) (fun i hi => hs _ (oS_mem.2.1 i hi)) (fun i hi => hs _ (oS_mem.2.2.1 i hi)) (fun i hi => hs _ (oS_mem.2.2.2 i hi)) (fun i hi j hj => hs _ (oB_mem i hi j hj)) (fun i j hi hj hij => (oN_mem i hi j hj hij).imp (hs _) (hs _)) hA
  have hini1 := hts _ (tb_in (w := .initialized "GhostCoast") 1 (by decide +kernel))
  have hq := va_Zqof (hts _ (tb_in (w := .laysStatic "jdk/internal/util/Preconditions" "SIOOBE_FORMATTER" "Ljava/util/function/BiFunction;") 825 (by decide +kernel))) (hts _ (tb_in (w := .initialized "jdk/internal/util/Preconditions") 17 (by decide +kernel))) (hs _ (by decide +kernel)) hA
  have hc := va_Zof (hts _ (tb_in (w := .laysStatic "java/lang/String" "COMPACT_STRINGS" "Z") 809 (by decide +kernel))) (hts _ (tb_in (w := .initialized "java/lang/String") 15 (by decide +kernel))) (va_eqi (z := 1) (hs _ (by decide +kernel))) hA
  obtain ⟨t4, ht4⟩ : ∃ t4 : Nat, va_Z "jdk/internal/util/Preconditions" "SIOOBE_FORMATTER" "Ljava/util/function/BiFunction;" .null (lwA s) s s.heap ∨ va_Z "jdk/internal/util/Preconditions" "SIOOBE_FORMATTER" "Ljava/util/function/BiFunction;" (.ref t4) (lwA s) s s.heap := by
    rcases hq with h | ⟨t, h⟩
    · exact ⟨0, Or.inl h⟩
    · exact ⟨t, Or.inr h⟩
  refine ⟨fun p => if p < 2000 then f (p - 1000) else if p < 3000 then adK (p - 2000) else if p < 4000 then adV (p - 3000) else t4, fun ad hout => ?_⟩
  have e1 : ∀ k, k < 4 → ad (1000 + k) = f k := fun k hk => by rw [hout _ (by omega)]; dsimp only; rw [if_pos (by omega), Nat.add_sub_cancel_left]
  have e2 : ∀ k, k < 6 → ad (2000 + k) = adK k := fun k hk => by rw [hout _ (by omega)]; dsimp only; rw [if_neg (by omega), if_pos (by omega), Nat.add_sub_cancel_left]
  have e3 : ∀ k, k < 6 → ad (3000 + k) = adV k := fun k hk => by rw [hout _ (by omega)]; dsimp only; rw [if_neg (by omega), if_neg (by omega), if_pos (by omega), Nat.add_sub_cancel_left]
  have e4 : ad 4000 = t4 := by rw [hout _ (by omega)]; rfl
  refine ⟨fun k hk => ?_, ⟨fun i hi => ?_, fun i j hi hj h => ?_⟩, fun k hk => ?_, hc, ?_⟩
  · rw [e1 k hk]
    exact ⟨va_Zof (htb _ (oL_mem k hk)) hini1 (hf k hk).1 hA, (hf k hk).2⟩
  · dsimp only
    rw [e2 i hi, e3 i hi]
    exact hS.1 i hi
  · dsimp only at h
    rw [e2 i hi, e2 j hj] at h
    exact hS.2 i j hi hj h
  · rw [e2 k hk]
    refine vk_R.of (A := args) (htb _ (oR_mem k hk)) (hE k hk)
  · rw [e4]
    exact ht4
theorem lKn {args : Array Value} {s : State} (hts : ∀ w ∈ eTb, w.before args s = true) (hlw : ∀ w ∈ lw_tbl, w.before args s = true) : ∃ D : va_G, ∀ (k : Nat) (q : vw_C), vwCl[k]? = some q → u_Kn s q.1 q.2.1 q.2.2 (D.1 k) (D.2 k) := by
  have h0 : ∀ k : Nat, ∃ z : ClassId × (Nat → Nat), ∀ q, vwCl[k]? = some q → u_Kn s q.1 q.2.1 q.2.2 z.1 z.2 := by
    intro k
    match k with
    | 0 =>
      obtain ⟨c, iS, h⟩ := u_known (C := RX0) (T := TX0) (N := 16) (n := 16) hts ein_0 (hlw _ (tb_in 35 (by decide +kernel)))
      exact ⟨(c, iS), fun q hq => by cases hq; exact h⟩
    | 1 =>
      obtain ⟨c, iS, h⟩ := u_known (C := RX1) (T := TX1) (N := 13) (n := 13) hts ein_1 (hlw _ (tb_in 218 (by decide +kernel)))
      exact ⟨(c, iS), fun q hq => by cases hq; exact h⟩
    | 2 =>
      obtain ⟨c, iS, h⟩ := u_known (C := RX2) (T := TX2) (N := 7) (n := 7) hts ein_2 (hlw _ (tb_in 182 (by decide +kernel)))
      exact ⟨(c, iS), fun q hq => by cases hq; exact h⟩
    | 3 =>
      obtain ⟨c, iS, h⟩ := u_known (C := RX3) (T := TX3) (N := 4) (n := 4) hts ein_3 (hlw _ (tb_in 339 (by decide +kernel)))
      exact ⟨(c, iS), fun q hq => by cases hq; exact h⟩
    | 4 =>
      obtain ⟨c, iS, h⟩ := u_known (C := RX4) (T := TX4) (N := 3) (n := 3) hts ein_4 (hlw _ (tb_in 416 (by decide +kernel)))
      exact ⟨(c, iS), fun q hq => by cases hq; exact h⟩
    | 5 =>
      obtain ⟨c, iS, h⟩ := u_known (C := RX5) (T := TX5) (N := 11) (n := 11) hts ein_5 (hlw _ (tb_in 117 (by decide +kernel)))
      exact ⟨(c, iS), fun q hq => by cases hq; exact h⟩
    | 6 =>
      obtain ⟨c, iS, h⟩ := u_known (C := RX6) (T := TX6) (N := 3) (n := 3) hts ein_6 (hlw _ (tb_in 399 (by decide +kernel)))
      exact ⟨(c, iS), fun q hq => by cases hq; exact h⟩
    | 7 =>
      obtain ⟨c, iS, h⟩ := u_known (C := RX7) (T := TX7) (N := 13) (n := 13) hts ein_7 (hlw _ (tb_in 281 (by decide +kernel)))
      exact ⟨(c, iS), fun q hq => by cases hq; exact h⟩
    | 8 =>
      obtain ⟨c, iS, h⟩ := u_known (C := RX8) (T := TX8) (N := 9) (n := 9) hts ein_8 (hlw _ (tb_in 29 (by decide +kernel)))
      exact ⟨(c, iS), fun q hq => by cases hq; exact h⟩
    | 9 =>
      obtain ⟨c, iS, h⟩ := u_known (C := RX9) (T := TX9) (N := 6) (n := 6) hts ein_9 (hlw _ (tb_in 21 (by decide +kernel)))
      exact ⟨(c, iS), fun q hq => by cases hq; exact h⟩
    | 10 =>
      obtain ⟨c, iS, h⟩ := u_known (C := RX10) (T := TX10) (N := 22) (n := 22) hts ein_10 (hlw _ (tb_in 1157 (by decide +kernel)))
      exact ⟨(c, iS), fun q hq => by cases hq; exact h⟩
    | k + 11 => exact ⟨(0, fun _ => 0), fun q hq => absurd hq (by simp)⟩
  obtain ⟨z, hz⟩ := Classical.axiomOfChoice h0
  exact ⟨(fun k => (z k).1, fun k => (z k).2), hz⟩
theorem lArr1 {args : Array Value} {s : State} {ty : FieldType} (h : (Cond.arrayClass ty).before args s = true) : ∃ a : ClassId, ArrOfT s a ty ∧ s.vm.findClass ("[" ++ ty.toString) = some a := by
  obtain ⟨cA, kA, comp, h1, h2, h3⟩ := Cond.arrayClass_spec h
  exact ⟨cA, fun n z => ⟨fun k h => (by cases h), kA, h2, comp, h3⟩, h1⟩
theorem lArr2 {args : Array Value} {s : State} {ty : FieldType} {a0 : ClassId} (h : (Cond.arrayOver (.array ty)).before args s = true) (h0 : s.vm.findClass (FieldType.array ty).toString = some a0) : ∃ a : ClassId, ArrOfT s a (.array ty) ∧ s.vm.findClass ("[" ++ (FieldType.array ty).toString) = some a ∧ ∃ k : Class, s.vm.classes[a]? = some k ∧ k.kind = .array a0 (.array ty) := by
  obtain ⟨comp, cA, kA, hcomp, hidx, hkA, hkindA, hnameA⟩ := arrayOverA_spec h
  cases h0.symm.trans hcomp
  exact ⟨cA, fun n z => ⟨fun k h => (by cases h), kA, hkA, _, hkindA⟩, hnameA, kA, hkA, hkindA⟩
theorem lArr {args : Array Value} {s : State} (hts : ∀ w ∈ lw_tbl, w.before args s = true) : ∃ ac : Nat → ClassId, (∀ (k : Nat) (q : ClassId × FieldType), (eTy ac)[k]? = some q → ArrOfT s q.1 q.2 ∧ va_RA s q.1 q.2) ∧ (∃ k : Class, s.vm.classes[ac 4]? = some k ∧ k.kind = .array (ac 0) (.array .int)) ∧ (∃ k : Class, s.vm.classes[ac 5]? = some k ∧ k.kind = .array (ac 1) (.array .long)) := by
  obtain ⟨a0, p0, q0⟩ := lArr1 (ty := .int) (hts _ (tb_in 115 (by decide +kernel)))
  obtain ⟨a1, p1, q1⟩ := lArr1 (ty := .long) (hts _ (tb_in 279 (by decide +kernel)))
  obtain ⟨a2, p2, q2⟩ := lArr1 (ty := .boolean) (hts _ (tb_in 180 (by decide +kernel)))
  obtain ⟨a3, p3, q3⟩ := lArr1 (ty := .byte) (hts _ (tb_in 872 (by decide +kernel)))
  obtain ⟨a4, p4, q4, r4⟩ := lArr2 (ty := .int) (a0 := a0) (hts _ (tb_in 422 (by decide +kernel))) q0
  obtain ⟨a5, p5, q5, r5⟩ := lArr2 (ty := .long) (a0 := a1) (hts _ (tb_in 345 (by decide +kernel))) q1
  refine ⟨fun k => match k with | 0 => a0 | 1 => a1 | 2 => a2 | 3 => a3 | 4 => a4 | _ => a5, fun k q hk => ?_, r4, r5⟩
  match k, hk with
  | 0, hk => cases hk; exact ⟨p0, q0⟩
  | 1, hk => cases hk; exact ⟨p1, q1⟩
  | 2, hk => cases hk; exact ⟨p2, q2⟩
  | 3, hk => cases hk; exact ⟨p3, q3⟩
  | 4, hk => cases hk; exact ⟨p4, q4⟩
  | 5, hk => cases hk; exact ⟨p5, q5⟩
  | k + 6, hk => simp [eTy] at hk

