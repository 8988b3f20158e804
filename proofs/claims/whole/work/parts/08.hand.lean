theorem dJ7_fill_53178_0 : decode cJ7_fill_53178 0 = .ok (.iconst 0, 1) := by decide +kernel
theorem dJ7_fill_53178_1 : decode cJ7_fill_53178 1 = .ok (.istore_n 2, 1) := by decide +kernel
theorem dJ7_fill_53178_2 : decode cJ7_fill_53178 2 = .ok (.aload_n 0, 1) := by decide +kernel
theorem dJ7_fill_53178_3 : decode cJ7_fill_53178 3 = .ok (.arraylength, 1) := by decide +kernel
theorem dJ7_fill_53178_4 : decode cJ7_fill_53178 4 = .ok (.istore_n 3, 1) := by decide +kernel
theorem dJ7_fill_53178_5 : decode cJ7_fill_53178 5 = .ok (.iload_n 2, 1) := by decide +kernel
theorem dJ7_fill_53178_6 : decode cJ7_fill_53178 6 = .ok (.iload_n 3, 1) := by decide +kernel
theorem dJ7_fill_53178_7 : decode cJ7_fill_53178 7 = .ok (.if_icmp .ge 13, 3) := by decide +kernel
theorem dJ7_fill_53178_10 : decode cJ7_fill_53178 10 = .ok (.aload_n 0, 1) := by decide +kernel
theorem dJ7_fill_53178_11 : decode cJ7_fill_53178 11 = .ok (.iload_n 2, 1) := by decide +kernel
theorem dJ7_fill_53178_12 : decode cJ7_fill_53178 12 = .ok (.iload_n 1, 1) := by decide +kernel
theorem dJ7_fill_53178_13 : decode cJ7_fill_53178 13 = .ok (.iastore, 1) := by decide +kernel
theorem dJ7_fill_53178_14 : decode cJ7_fill_53178 14 = .ok (.iinc 2 1, 3) := by decide +kernel
theorem dJ7_fill_53178_17 : decode cJ7_fill_53178 17 = .ok (.goto (-12), 3) := by decide +kernel
theorem dJ7_fill_53178_20 : decode cJ7_fill_53178 20 = .ok (.return_, 1) := by decide +kernel
theorem dJ7_fill_d0a16_0 : decode cJ7_fill_d0a16 0 = .ok (.iconst 0, 1) := by decide +kernel
theorem dJ7_fill_d0a16_1 : decode cJ7_fill_d0a16 1 = .ok (.istore_n 3, 1) := by decide +kernel
theorem dJ7_fill_d0a16_2 : decode cJ7_fill_d0a16 2 = .ok (.aload_n 0, 1) := by decide +kernel
theorem dJ7_fill_d0a16_3 : decode cJ7_fill_d0a16 3 = .ok (.arraylength, 1) := by decide +kernel
theorem dJ7_fill_d0a16_4 : decode cJ7_fill_d0a16 4 = .ok (.istore 4, 2) := by decide +kernel
theorem dJ7_fill_d0a16_6 : decode cJ7_fill_d0a16 6 = .ok (.iload_n 3, 1) := by decide +kernel
theorem dJ7_fill_d0a16_7 : decode cJ7_fill_d0a16 7 = .ok (.iload 4, 2) := by decide +kernel
theorem dJ7_fill_d0a16_9 : decode cJ7_fill_d0a16 9 = .ok (.if_icmp .ge 13, 3) := by decide +kernel
theorem dJ7_fill_d0a16_12 : decode cJ7_fill_d0a16 12 = .ok (.aload_n 0, 1) := by decide +kernel
theorem dJ7_fill_d0a16_13 : decode cJ7_fill_d0a16 13 = .ok (.iload_n 3, 1) := by decide +kernel
theorem dJ7_fill_d0a16_14 : decode cJ7_fill_d0a16 14 = .ok (.lload_n 1, 1) := by decide +kernel
theorem dJ7_fill_d0a16_15 : decode cJ7_fill_d0a16 15 = .ok (.lastore, 1) := by decide +kernel
theorem dJ7_fill_d0a16_16 : decode cJ7_fill_d0a16 16 = .ok (.iinc 3 1, 3) := by decide +kernel
theorem dJ7_fill_d0a16_19 : decode cJ7_fill_d0a16 19 = .ok (.goto (-13), 3) := by decide +kernel
theorem dJ7_fill_d0a16_22 : decode cJ7_fill_d0a16 22 = .ok (.return_, 1) := by decide +kernel
theorem dJ3_checkIndex_8e157_0 : decode cJ3_checkIndex_8e157 0 = .ok (.iload_n 0, 1) := by decide +kernel
theorem dJ3_checkIndex_8e157_1 : decode cJ3_checkIndex_8e157 1 = .ok (.ifCond .lt 8, 3) := by decide +kernel
theorem dJ3_checkIndex_8e157_4 : decode cJ3_checkIndex_8e157 4 = .ok (.iload_n 0, 1) := by decide +kernel
theorem dJ3_checkIndex_8e157_5 : decode cJ3_checkIndex_8e157 5 = .ok (.iload_n 1, 1) := by decide +kernel
theorem dJ3_checkIndex_8e157_6 : decode cJ3_checkIndex_8e157 6 = .ok (.if_icmp .lt 10, 3) := by decide +kernel
theorem dJ3_checkIndex_8e157_9 : decode cJ3_checkIndex_8e157 9 = .ok (.aload_n 2, 1) := by decide +kernel
theorem dJ3_checkIndex_8e157_10 : decode cJ3_checkIndex_8e157 10 = .ok (.iload_n 0, 1) := by decide +kernel
theorem dJ3_checkIndex_8e157_11 : decode cJ3_checkIndex_8e157 11 = .ok (.iload_n 1, 1) := by decide +kernel
theorem dJ3_checkIndex_8e157_12 : decode cJ3_checkIndex_8e157 12 = .ok (.invokestatic 95, 3) := by decide +kernel
theorem dJ3_checkIndex_8e157_15 : decode cJ3_checkIndex_8e157 15 = .ok (.athrow, 1) := by decide +kernel
theorem dJ3_checkIndex_8e157_16 : decode cJ3_checkIndex_8e157 16 = .ok (.iload_n 0, 1) := by decide +kernel
theorem dJ3_checkIndex_8e157_17 : decode cJ3_checkIndex_8e157 17 = .ok (.ireturn, 1) := by decide +kernel
theorem dJ0_checkIndex_df160_0 : decode cJ0_checkIndex_df160 0 = .ok (.iload_n 0, 1) := by decide +kernel
theorem dJ0_checkIndex_df160_1 : decode cJ0_checkIndex_df160 1 = .ok (.iload_n 1, 1) := by decide +kernel
theorem dJ0_checkIndex_df160_2 : decode cJ0_checkIndex_df160 2 = .ok (.getstatic 1053, 3) := by decide +kernel
theorem dJ0_checkIndex_df160_5 : decode cJ0_checkIndex_df160 5 = .ok (.invokestatic 1059, 3) := by decide +kernel
theorem dJ0_checkIndex_df160_8 : decode cJ0_checkIndex_df160 8 = .ok (.pop, 1) := by decide +kernel
theorem dJ0_checkIndex_df160_9 : decode cJ0_checkIndex_df160 9 = .ok (.return_, 1) := by decide +kernel
/-! Arrays.fill, the index check of String.charAt: by hand -/
theorem eC_same (M : eMem) (p : Nat) (f : Nat → Int32) : (eC M p f).1 p = f := by simp [eC]
theorem eC_eC (M : eMem) (p : Nat) (f g : Nat → Int32) : eC (eC M p f) p g = eC M p g := by
  unfold eC
  refine Prod.ext (funext fun q => ?_) rfl
  dsimp only
  split <;> rfl
theorem eCJ_same (M : eMem) (p : Nat) (f : Nat → Int64) : (eCJ M p f).2 p = f := by simp [eCJ]
theorem eCJ_eCJ (M : eMem) (p : Nat) (f g : Nat → Int64) : eCJ (eCJ M p f) p g = eCJ M p g := by
  unfold eCJ
  refine Prod.ext rfl (funext fun q => ?_)
  dsimp only
  split <;> rfl
theorem eC_id (M : eMem) (p : Nat) : eC M p (M.1 p) = M := by
  unfold eC
  refine Prod.ext (funext fun q => ?_) rfl
  dsimp only
  split
  · next h => rw [h]
  · rfl
theorem eCJ_id (M : eMem) (p : Nat) : eCJ M p (M.2 p) = M := by
  unfold eCJ
  refine Prod.ext rfl (funext fun q => ?_)
  dsimp only
  split
  · next h => rw [h]
  · rfl
theorem eFill_upd (j : Nat) (v : Int32) (f : Nat → Int32) : upd (eFill j v f) j v = eFill (j + 1) v f := by
  funext i
  simp only [upd, eFill]
  by_cases h : i = j
  · subst h; simp
  · simp only [h, if_false]
    by_cases h2 : i < j
    · simp [h2, Nat.lt_succ_of_lt h2]
    · simp [h2, show ¬ i < j + 1 by omega]
theorem eFill_updL (j : Nat) (v : Int64) (f : Nat → Int64) : vp_updL (eFill j v f) j v = eFill (j + 1) v f := by
  funext i
  simp only [vp_updL, eFill]
  by_cases h : i = j
  · subst h; simp
  · simp only [h, if_false]
    by_cases h2 : i < j
    · simp [h2, Nat.lt_succ_of_lt h2]
    · simp [h2, show ¬ i < j + 1 by omega]
theorem eFill_0 {α : Type} (v : α) (f : Nat → α) : eFill 0 v f = f := by
  funext i
  simp [eFill]
set_option maxRecDepth 100000 in
set_option maxHeartbeats 4000000 in
theorem ev_fill_loop {lay : List eLC} {p n : Nat} {v : Int32} {M : eMem} (hl : lay[p]? = some (.inl (0, n))) (hn : n < 2147483648) : ∀ (k j : Nat), j + k = n → Ev lay 0 m_J7_fill_53178 5 [some (.ref p), some (.int v), some (.int (nI j)), some (.int (nI n))] [] (eC M p (eFill j v (M.1 p))) (none, eC M p (eFill n v (M.1 p))) := by
  intro k
  induction k with
  | zero =>
    intro j hj
    have e : j = n := by omega
    subst e
    refine Ev.iload_n (pc := 5) dJ7_fill_53178_5 rfl ?_
    refine Ev.iload_n (pc := 6) dJ7_fill_53178_6 rfl ?_
    refine Ev.icmp_ge (pc := 7) (tgt := 20) dJ7_fill_53178_7 (by decide) (fun c => ?_) (fun c => absurd c Int32.lt_irrefl)
    exact Ev.vret (pc := 20) dJ7_fill_53178_20 rfl
  | succ k ih =>
    intro j hj
    refine Ev.iload_n (pc := 5) dJ7_fill_53178_5 rfl ?_
    refine Ev.iload_n (pc := 6) dJ7_fill_53178_6 rfl ?_
    refine Ev.icmp_ge (pc := 7) (tgt := 20) dJ7_fill_53178_7 (by decide) (fun c => absurd (nI_lt (by omega) (by omega)) c) (fun c => ?_)
    refine Ev.aload_n (pc := 10) dJ7_fill_53178_10 rfl ?_
    refine Ev.iload_n (pc := 11) dJ7_fill_53178_11 rfl ?_
    refine Ev.iload_n (pc := 12) dJ7_fill_53178_12 rfl ?_
    refine Ev.iastj (pc := 13) dJ7_fill_53178_13 hl (eIn_nI (by omega) (by omega)) (nI_clamp (by omega)) ?_
    refine Ev.iincv (pc := 14) dJ7_fill_53178_14 (v := 1) (by decide) rfl (by decide) rfl rfl ?_
    refine Ev.goto (pc := 17) (tgt := 5) dJ7_fill_53178_17 (by decide) ?_
    have h := ih (j + 1) (by omega)
    rw [nI_succ] at h
    unfold eI
    rw [eC_same, eC_eC, eFill_upd]
    exact h
set_option maxRecDepth 100000 in
set_option maxHeartbeats 4000000 in
theorem ev_J7_fill_53178 {lay : List eLC} {p n : Nat} {v : Int32} {M : eMem} (hl : lay[p]? = some (.inl (0, n))) (hn : n < 2147483648) : Ev lay 0 m_J7_fill_53178 0 [some (.ref p), some (.int v), none, none] [] M (none, eC M p (eFill n v (M.1 p))) := by
  refine Ev.iconst (pc := 0) dJ7_fill_53178_0 (v := 0) (by decide) ?_
  refine Ev.istore_n (pc := 1) dJ7_fill_53178_1 (by decide) rfl rfl ?_
  refine Ev.aload_n (pc := 2) dJ7_fill_53178_2 rfl ?_
  refine Ev.alen (pc := 3) (v := nI n) dJ7_fill_53178_3 hl (by decide) rfl ?_
  refine Ev.istore_n (pc := 4) dJ7_fill_53178_4 (by decide) rfl rfl ?_
  have h := ev_fill_loop (v := v) (M := M) hl hn n 0 (by omega)
  rw [nI_0, eFill_0, eC_id] at h
  exact h
set_option maxRecDepth 100000 in
set_option maxHeartbeats 4000000 in
theorem ev_fillL_loop {lay : List eLC} {p n : Nat} {v : Int64} {M : eMem} (hl : lay[p]? = some (.inl (1, n))) (hn : n < 2147483648) : ∀ (k j : Nat), j + k = n → Ev lay 0 m_J7_fill_d0a16 6 [some (.ref p), some (.long v), none, some (.int (nI j)), some (.int (nI n))] [] (eCJ M p (eFill j v (M.2 p))) (none, eCJ M p (eFill n v (M.2 p))) := by
  intro k
  induction k with
  | zero =>
    intro j hj
    have e : j = n := by omega
    subst e
    refine Ev.iload_n (pc := 6) dJ7_fill_d0a16_6 rfl ?_
    refine Ev.iload (pc := 7) dJ7_fill_d0a16_7 rfl ?_
    refine Ev.icmp_ge (pc := 9) (tgt := 22) dJ7_fill_d0a16_9 (by decide) (fun c => ?_) (fun c => absurd c Int32.lt_irrefl)
    exact Ev.vret (pc := 22) dJ7_fill_d0a16_22 rfl
  | succ k ih =>
    intro j hj
    refine Ev.iload_n (pc := 6) dJ7_fill_d0a16_6 rfl ?_
    refine Ev.iload (pc := 7) dJ7_fill_d0a16_7 rfl ?_
    refine Ev.icmp_ge (pc := 9) (tgt := 22) dJ7_fill_d0a16_9 (by decide) (fun c => absurd (nI_lt (by omega) (by omega)) c) (fun c => ?_)
    refine Ev.aload_n (pc := 12) dJ7_fill_d0a16_12 rfl ?_
    refine Ev.iload_n (pc := 13) dJ7_fill_d0a16_13 rfl ?_
    refine Ev.lload_n (pc := 14) dJ7_fill_d0a16_14 rfl ?_
    refine Ev.lastj (pc := 15) dJ7_fill_d0a16_15 hl (eIn_nI (by omega) (by omega)) (nI_clamp (by omega)) ?_
    refine Ev.iincv (pc := 16) dJ7_fill_d0a16_16 (v := 1) (by decide) rfl (by decide) rfl rfl ?_
    refine Ev.goto (pc := 19) (tgt := 6) dJ7_fill_d0a16_19 (by decide) ?_
    have h := ih (j + 1) (by omega)
    rw [nI_succ] at h
    unfold eJ
    rw [eCJ_same, eCJ_eCJ, eFill_updL]
    exact h
set_option maxRecDepth 100000 in
set_option maxHeartbeats 4000000 in
theorem ev_J7_fill_d0a16 {lay : List eLC} {p n : Nat} {v : Int64} {M : eMem} (hl : lay[p]? = some (.inl (1, n))) (hn : n < 2147483648) : Ev lay 0 m_J7_fill_d0a16 0 [some (.ref p), some (.long v), none, none, none] [] M (none, eCJ M p (eFill n v (M.2 p))) := by
  refine Ev.iconst (pc := 0) dJ7_fill_d0a16_0 (v := 0) (by decide) ?_
  refine Ev.istore_n (pc := 1) dJ7_fill_d0a16_1 (by decide) rfl rfl ?_
  refine Ev.aload_n (pc := 2) dJ7_fill_d0a16_2 rfl ?_
  refine Ev.alen (pc := 3) (v := nI n) dJ7_fill_d0a16_3 hl (by decide) rfl ?_
  refine Ev.istore (pc := 4) dJ7_fill_d0a16_4 (by decide) rfl rfl ?_
  have h := ev_fillL_loop (v := v) (M := M) hl hn n 0 (by omega)
  rw [nI_0, eFill_0, eCJ_id] at h
  exact h
def F_J0_checkIndex_df160 (x0 x1 : Int32) : Option Unit :=
  if x0 < 0 then none else if x0 < x1 then some () else none
set_option maxRecDepth 100000 in
set_option maxHeartbeats 4000000 in
theorem ev_Pre {lay : List eLC} (z : Value) (x0 x1 : Int32) (M : eMem) (h0 : ¬ x0 < 0) (h1 : x0 < x1) : Ev lay 0 m_J3_checkIndex_8e157 0 [some (.int x0), some (.int x1), some z] [] M (some (.int x0), M) := by
  refine Ev.iload_n (pc := 0) dJ3_checkIndex_8e157_0 rfl ?_
  refine Ev.if_lt (pc := 1) (tgt := 9) dJ3_checkIndex_8e157_1 (by decide) (fun c => absurd c h0) (fun c => ?_)
  refine Ev.iload_n (pc := 4) dJ3_checkIndex_8e157_4 rfl ?_
  refine Ev.iload_n (pc := 5) dJ3_checkIndex_8e157_5 rfl ?_
  refine Ev.icmp_lt (pc := 6) (tgt := 16) dJ3_checkIndex_8e157_6 (by decide) (fun c => ?_) (fun c => absurd h1 c)
  refine Ev.iload_n (pc := 16) dJ3_checkIndex_8e157_16 rfl ?_
  exact Ev.iret (pc := 17) dJ3_checkIndex_8e157_17 rfl rfl
set_option maxRecDepth 100000 in
set_option maxHeartbeats 4000000 in
theorem ev_J0_checkIndex_df160 {lay : List eLC} (x0 x1 : Int32) (M : eMem) (q : Unit) (h : F_J0_checkIndex_df160 x0 x1 = some q) : Ev lay 1 m_J0_checkIndex_df160 0 [some (.int x0), some (.int x1)] [] M (none, M) := by
  rw [F_J0_checkIndex_df160] at h
  obtain ⟨h0, h⟩ := eGn h
  obtain ⟨h1, h⟩ := eGd h
  refine Ev.iload_n (pc := 0) dJ0_checkIndex_df160_0 rfl ?_
  refine Ev.iload_n (pc := 1) dJ0_checkIndex_df160_1 rfl ?_
  refine Ev.getFm (pc := 2) dJ0_checkIndex_df160_2 fx_RJ0_1053 ?_ ?_
  · refine Ev.callS (pc := 5) (as := [.int x0, .int x1, .null]) (st := []) (z := 0) dJ0_checkIndex_df160_5 wc_J3_checkIndex_8e157 ml_RJ0_1059 sm_J3_checkIndex_8e157 (ev_Pre .null x0 x1 M h0 h1) rfl rfl (by decide) rfl rfl (Nat.le_of_ble_eq_true rfl) ?_
    refine Ev.pop (pc := 8) dJ0_checkIndex_df160_8 rfl ?_
    exact Ev.vret (pc := 9) dJ0_checkIndex_df160_9 rfl
  · refine Ev.callS (pc := 5) (as := [.int x0, .int x1, .ref 4000]) (st := []) (z := 0) dJ0_checkIndex_df160_5 wc_J3_checkIndex_8e157 ml_RJ0_1059 sm_J3_checkIndex_8e157 (ev_Pre (.ref 4000) x0 x1 M h0 h1) rfl rfl (by decide) rfl rfl (Nat.le_of_ble_eq_true rfl) ?_
    refine Ev.pop (pc := 8) dJ0_checkIndex_df160_8 rfl ?_
    exact Ev.vret (pc := 9) dJ0_checkIndex_df160_9 rfl
