theorem dX9_isIn_0 : decode cX9_isIn 0 = .ok (.iload_n 0, 1) := by decide +kernel
theorem dX9_isIn_1 : decode cX9_isIn 1 = .ok (.ifCond .lt 12, 3) := by decide +kernel
theorem dX9_isIn_4 : decode cX9_isIn 4 = .ok (.iload_n 0, 1) := by decide +kernel
theorem dX9_isIn_5 : decode cX9_isIn 5 = .ok (.iload_n 1, 1) := by decide +kernel
theorem dX9_isIn_6 : decode cX9_isIn 6 = .ok (.if_icmp .ge 7, 3) := by decide +kernel
theorem dX9_isIn_9 : decode cX9_isIn 9 = .ok (.iconst 1, 1) := by decide +kernel
theorem dX9_isIn_10 : decode cX9_isIn 10 = .ok (.goto 4, 3) := by decide +kernel
theorem dX9_isIn_13 : decode cX9_isIn 13 = .ok (.iconst 0, 1) := by decide +kernel
theorem dX9_isIn_14 : decode cX9_isIn 14 = .ok (.ireturn, 1) := by decide +kernel
def F_X9_isIn (x0 : Int32) (x1 : Int32) : Option Int32 :=
  if x0 < 0 then
    some 0
  else
    if x0 < x1 then
      some 1
    else
      some 0
set_option maxRecDepth 100000 in
set_option maxHeartbeats 4000000 in
theorem ev_X9_isIn {lay : List eLC} (x0 : Int32) (x1 : Int32) (M : eMem) (q : Int32) (h : F_X9_isIn x0 x1 = some q) : Ev lay 0 m_X9_isIn 0 [some (.int x0), some (.int x1)] [] M (some (.int q), M) := by
  rw [F_X9_isIn] at h
  refine Ev.iload_n (pc := 0) dX9_isIn_0 rfl ?_
  refine Ev.if_lt (pc := 1) (tgt := 13) dX9_isIn_1 (by decide) (fun c9 => ?_) (fun c9 => ?_)
  · have h := eT h c9
    refine Ev.iconst (pc := 13) dX9_isIn_13 (v := 0) (by decide) ?_
    obtain rfl := Option.some.inj h
    exact Ev.iret (pc := 14) dX9_isIn_14 rfl rfl
  · have h := eF h c9
    refine Ev.iload_n (pc := 4) dX9_isIn_4 rfl ?_
    refine Ev.iload_n (pc := 5) dX9_isIn_5 rfl ?_
    refine Ev.icmp_ge (pc := 6) (tgt := 13) dX9_isIn_6 (by decide) (fun c9 => ?_) (fun c9 => ?_)
    · have h := eF h c9
      refine Ev.iconst (pc := 13) dX9_isIn_13 (v := 0) (by decide) ?_
      obtain rfl := Option.some.inj h
      exact Ev.iret (pc := 14) dX9_isIn_14 rfl rfl
    · have h := eT h c9
      refine Ev.iconst (pc := 9) dX9_isIn_9 (v := 1) (by decide) ?_
      refine Ev.goto (pc := 10) (tgt := 14) dX9_isIn_10 (by decide) ?_
      obtain rfl := Option.some.inj h
      exact Ev.iret (pc := 14) dX9_isIn_14 rfl rfl
theorem dX9_found_0 : decode cX9_found 0 = .ok (.ldc 41, 2) := by decide +kernel
theorem dX9_found_2 : decode cX9_found 2 = .ok (.iload_n 1, 1) := by decide +kernel
theorem dX9_found_3 : decode cX9_found 3 = .ok (.isub, 1) := by decide +kernel
theorem dX9_found_4 : decode cX9_found 4 = .ok (.istore_n 2, 1) := by decide +kernel
theorem dX9_found_5 : decode cX9_found 5 = .ok (.iload_n 2, 1) := by decide +kernel
theorem dX9_found_6 : decode cX9_found 6 = .ok (.bipush 7, 2) := by decide +kernel
theorem dX9_found_8 : decode cX9_found 8 = .ok (.invokestatic 37, 3) := by decide +kernel
theorem dX9_found_11 : decode cX9_found 11 = .ok (.ifCond .eq 13, 3) := by decide +kernel
theorem dX9_found_14 : decode cX9_found 14 = .ok (.aload_n 0, 1) := by decide +kernel
theorem dX9_found_15 : decode cX9_found 15 = .ok (.getfield 33, 3) := by decide +kernel
theorem dX9_found_18 : decode cX9_found 18 = .ok (.iload_n 2, 1) := by decide +kernel
theorem dX9_found_19 : decode cX9_found 19 = .ok (.dup2, 1) := by decide +kernel
theorem dX9_found_20 : decode cX9_found 20 = .ok (.iaload, 1) := by decide +kernel
theorem dX9_found_21 : decode cX9_found 21 = .ok (.iconst 1, 1) := by decide +kernel
theorem dX9_found_22 : decode cX9_found 22 = .ok (.iadd, 1) := by decide +kernel
theorem dX9_found_23 : decode cX9_found 23 = .ok (.iastore, 1) := by decide +kernel
theorem dX9_found_24 : decode cX9_found 24 = .ok (.iload_n 1, 1) := by decide +kernel
theorem dX9_found_25 : decode cX9_found 25 = .ok (.ireturn, 1) := by decide +kernel
def F_X9_found (x1 : Int32) (M : eMem) : Option (Int32 × eMem) :=
  (F_X9_isIn ((-1000001) - x1) 7).bind fun q1 =>
  if q1 = 0 then
    some (x1, M)
  else
    eG (eIn ((-1000001) - x1) 7) <|
    eG (eIn ((-1000001) - x1) 7) <|
    some (x1, (eI M 155 ((-1000001) - x1).toNatClampNeg ((M.1 155 ((-1000001) - x1).toNatClampNeg) + 1)))
set_option maxRecDepth 100000 in
set_option maxHeartbeats 4000000 in
theorem ev_X9_found (x1 : Int32) (M : eMem) (q : (Int32 × eMem)) (h : F_X9_found x1 M = some q) : Ev layC 1 m_X9_found 0 [some (.ref 0), some (.int x1), none] [] M (some (.int q.1), q.2) := by
  rw [F_X9_found] at h
  refine Ev.ldc (pc := 0) dX9_found_0 ld_RX9_41 ?_
  refine Ev.iload_n (pc := 2) dX9_found_2 rfl ?_
  refine Ev.isub (pc := 3) dX9_found_3 ?_
  refine Ev.istore_n (pc := 4) dX9_found_4 (by decide) rfl rfl ?_
  refine Ev.iload_n (pc := 5) dX9_found_5 rfl ?_
  refine Ev.bipush (pc := 6) dX9_found_6 (v := 7) (by decide) ?_
  refine eBk h (fun q1 hq1 h => ?_)
  refine Ev.callS (pc := 8) (as := [.int ((-1000001) - x1), .int 7]) (st := []) (z := 0) dX9_found_8 wc_X9_isIn ml_RX9_37 sm_X9_isIn (ev_X9_isIn ((-1000001) - x1) 7 M _ hq1) rfl rfl (by decide) rfl rfl (Nat.le_of_ble_eq_true rfl) ?_
  refine Ev.if_eq (pc := 11) (tgt := 24) dX9_found_11 (by decide) (fun c9 => ?_) (fun c9 => ?_)
  · have h := eT h c9
    refine Ev.iload_n (pc := 24) dX9_found_24 rfl ?_
    obtain rfl := Option.some.inj h
    exact Ev.iret (pc := 25) dX9_found_25 rfl rfl
  · have h := eF h c9
    refine Ev.aload_n (pc := 14) dX9_found_14 rfl ?_
    refine Ev.getR (pc := 15) dX9_found_15 fl_RX9_33 lC_0 rfl ?_
    refine Ev.iload_n (pc := 18) dX9_found_18 rfl ?_
    refine Ev.dup2 (pc := 19) dX9_found_19 rfl rfl ?_
    obtain ⟨g9, h⟩ := eGdB h
    refine Ev.ialdj (pc := 20) dX9_found_20 (j := ((-1000001) - x1).toNatClampNeg) lC_155 g9 rfl ?_
    refine Ev.iconst (pc := 21) dX9_found_21 (v := 1) (by decide) ?_
    refine Ev.iadd (pc := 22) dX9_found_22 ?_
    obtain ⟨g9, h⟩ := eGdB h
    refine Ev.iastj (pc := 23) dX9_found_23 (j := ((-1000001) - x1).toNatClampNeg) lC_155 g9 rfl ?_
    refine Ev.iload_n (pc := 24) dX9_found_24 rfl ?_
    obtain rfl := Option.some.inj h
    exact Ev.iret (pc := 25) dX9_found_25 rfl rfl
theorem dX9_cell_0 : decode cX9_cell 0 = .ok (.iload_n 1, 1) := by decide +kernel
theorem dX9_cell_1 : decode cX9_cell 1 = .ok (.bipush 96, 2) := by decide +kernel
theorem dX9_cell_3 : decode cX9_cell 3 = .ok (.invokestatic 37, 3) := by decide +kernel
theorem dX9_cell_6 : decode cX9_cell 6 = .ok (.ifCond .eq 11, 3) := by decide +kernel
theorem dX9_cell_9 : decode cX9_cell 9 = .ok (.iload_n 2, 1) := by decide +kernel
theorem dX9_cell_10 : decode cX9_cell 10 = .ok (.iconst 4, 1) := by decide +kernel
theorem dX9_cell_11 : decode cX9_cell 11 = .ok (.invokestatic 37, 3) := by decide +kernel
theorem dX9_cell_14 : decode cX9_cell 14 = .ok (.ifCond .ne 10, 3) := by decide +kernel
theorem dX9_cell_17 : decode cX9_cell 17 = .ok (.aload_n 0, 1) := by decide +kernel
theorem dX9_cell_18 : decode cX9_cell 18 = .ok (.ldc 41, 2) := by decide +kernel
theorem dX9_cell_20 : decode cX9_cell 20 = .ok (.invokevirtual 42, 3) := by decide +kernel
theorem dX9_cell_23 : decode cX9_cell 23 = .ok (.ireturn, 1) := by decide +kernel
theorem dX9_cell_24 : decode cX9_cell 24 = .ok (.aload_n 0, 1) := by decide +kernel
theorem dX9_cell_25 : decode cX9_cell 25 = .ok (.getfield 12, 3) := by decide +kernel
theorem dX9_cell_28 : decode cX9_cell 28 = .ok (.getfield 46, 3) := by decide +kernel
theorem dX9_cell_31 : decode cX9_cell 31 = .ok (.getfield 50, 3) := by decide +kernel
theorem dX9_cell_34 : decode cX9_cell 34 = .ok (.iload_n 1, 1) := by decide +kernel
theorem dX9_cell_35 : decode cX9_cell 35 = .ok (.iaload, 1) := by decide +kernel
theorem dX9_cell_36 : decode cX9_cell 36 = .ok (.istore_n 3, 1) := by decide +kernel
theorem dX9_cell_37 : decode cX9_cell 37 = .ok (.aload_n 0, 1) := by decide +kernel
theorem dX9_cell_38 : decode cX9_cell 38 = .ok (.getfield 12, 3) := by decide +kernel
theorem dX9_cell_41 : decode cX9_cell 41 = .ok (.getfield 46, 3) := by decide +kernel
theorem dX9_cell_44 : decode cX9_cell 44 = .ok (.getfield 50, 3) := by decide +kernel
theorem dX9_cell_47 : decode cX9_cell 47 = .ok (.iload_n 1, 1) := by decide +kernel
theorem dX9_cell_48 : decode cX9_cell 48 = .ok (.iload_n 2, 1) := by decide +kernel
theorem dX9_cell_49 : decode cX9_cell 49 = .ok (.iastore, 1) := by decide +kernel
theorem dX9_cell_50 : decode cX9_cell 50 = .ok (.iload_n 3, 1) := by decide +kernel
theorem dX9_cell_51 : decode cX9_cell 51 = .ok (.ireturn, 1) := by decide +kernel
def F_X9_cell (x1 : Int32) (x2 : Int32) (M : eMem) : Option (Int32 × eMem) :=
  (F_X9_isIn x1 96).bind fun q1 =>
  if q1 = 0 then
    (F_X9_found (-1000001) M).bind fun q2 =>
    some (q2.1, q2.2)
  else
    (F_X9_isIn x2 4).bind fun q3 =>
    if q3 = 0 then
      (F_X9_found (-1000001) M).bind fun q4 =>
      some (q4.1, q4.2)
    else
      eG (eIn x1 96) <|
      eG (eIn x1 96) <|
      some ((M.1 3 x1.toNatClampNeg), (eI M 3 x1.toNatClampNeg x2))
set_option maxRecDepth 100000 in
set_option maxHeartbeats 4000000 in
theorem ev_X9_cell (x1 : Int32) (x2 : Int32) (M : eMem) (q : (Int32 × eMem)) (h : F_X9_cell x1 x2 M = some q) : Ev layC 2 m_X9_cell 0 [some (.ref 0), some (.int x1), some (.int x2), none] [] M (some (.int q.1), q.2) := by
  rw [F_X9_cell] at h
  refine Ev.iload_n (pc := 0) dX9_cell_0 rfl ?_
  refine Ev.bipush (pc := 1) dX9_cell_1 (v := 96) (by decide) ?_
  refine eBk h (fun q1 hq1 h => ?_)
  refine Ev.callS (pc := 3) (as := [.int x1, .int 96]) (st := []) (z := 0) dX9_cell_3 wc_X9_isIn ml_RX9_37 sm_X9_isIn (ev_X9_isIn x1 96 M _ hq1) rfl rfl (by decide) rfl rfl (Nat.le_of_ble_eq_true rfl) ?_
  refine Ev.if_eq (pc := 6) (tgt := 17) dX9_cell_6 (by decide) (fun c9 => ?_) (fun c9 => ?_)
  · have h := eT h c9
    refine Ev.aload_n (pc := 17) dX9_cell_17 rfl ?_
    refine Ev.ldc (pc := 18) dX9_cell_18 ld_RX9_41 ?_
    refine eBk h (fun q2 hq2 h => ?_)
    refine Ev.callV (pc := 20) (as := [.int (-1000001)]) (st := []) (z := 1) dX9_cell_20 wc_X9_found ml_RX9_42 im_X9_found se_X9_found lC_0 rfl rfl (ev_X9_found (-1000001) M _ hq2) rfl rfl (by decide) rfl rfl (Nat.le_of_ble_eq_true rfl) ?_
    obtain rfl := Option.some.inj h
    exact Ev.iret (pc := 23) dX9_cell_23 rfl rfl
  · have h := eF h c9
    refine Ev.iload_n (pc := 9) dX9_cell_9 rfl ?_
    refine Ev.iconst (pc := 10) dX9_cell_10 (v := 4) (by decide) ?_
    refine eBk h (fun q3 hq3 h => ?_)
    refine Ev.callS (pc := 11) (as := [.int x2, .int 4]) (st := []) (z := 0) dX9_cell_11 wc_X9_isIn ml_RX9_37 sm_X9_isIn (ev_X9_isIn x2 4 M _ hq3) rfl rfl (by decide) rfl rfl (Nat.le_of_ble_eq_true rfl) ?_
    refine Ev.if_ne (pc := 14) (tgt := 24) dX9_cell_14 (by decide) (fun c9 => ?_) (fun c9 => ?_)
    · have h := eF h c9
      refine Ev.aload_n (pc := 24) dX9_cell_24 rfl ?_
      refine Ev.getR (pc := 25) dX9_cell_25 fl_RX9_12 lC_0 rfl ?_
      refine Ev.getR (pc := 28) dX9_cell_28 fl_RX9_46 lC_1 rfl ?_
      refine Ev.getR (pc := 31) dX9_cell_31 fl_RX9_50 lC_2 rfl ?_
      refine Ev.iload_n (pc := 34) dX9_cell_34 rfl ?_
      obtain ⟨g9, h⟩ := eGdB h
      refine Ev.ialdj (pc := 35) dX9_cell_35 (j := x1.toNatClampNeg) lC_3 g9 rfl ?_
      refine Ev.istore_n (pc := 36) dX9_cell_36 (by decide) rfl rfl ?_
      refine Ev.aload_n (pc := 37) dX9_cell_37 rfl ?_
      refine Ev.getR (pc := 38) dX9_cell_38 fl_RX9_12 lC_0 rfl ?_
      refine Ev.getR (pc := 41) dX9_cell_41 fl_RX9_46 lC_1 rfl ?_
      refine Ev.getR (pc := 44) dX9_cell_44 fl_RX9_50 lC_2 rfl ?_
      refine Ev.iload_n (pc := 47) dX9_cell_47 rfl ?_
      refine Ev.iload_n (pc := 48) dX9_cell_48 rfl ?_
      obtain ⟨g9, h⟩ := eGdB h
      refine Ev.iastj (pc := 49) dX9_cell_49 (j := x1.toNatClampNeg) lC_3 g9 rfl ?_
      refine Ev.iload_n (pc := 50) dX9_cell_50 rfl ?_
      obtain rfl := Option.some.inj h
      exact Ev.iret (pc := 51) dX9_cell_51 rfl rfl
    · have h := eT h c9
      refine Ev.aload_n (pc := 17) dX9_cell_17 rfl ?_
      refine Ev.ldc (pc := 18) dX9_cell_18 ld_RX9_41 ?_
      refine eBk h (fun q4 hq4 h => ?_)
      refine Ev.callV (pc := 20) (as := [.int (-1000001)]) (st := []) (z := 1) dX9_cell_20 wc_X9_found ml_RX9_42 im_X9_found se_X9_found lC_0 rfl rfl (ev_X9_found (-1000001) M _ hq4) rfl rfl (by decide) rfl rfl (Nat.le_of_ble_eq_true rfl) ?_
      obtain rfl := Option.some.inj h
      exact Ev.iret (pc := 23) dX9_cell_23 rfl rfl
theorem dX10_in_0 : decode cX10_in 0 = .ok (.iload_n 0, 1) := by decide +kernel
theorem dX10_in_1 : decode cX10_in 1 = .ok (.iload_n 1, 1) := by decide +kernel
theorem dX10_in_2 : decode cX10_in 2 = .ok (.if_icmp .lt 12, 3) := by decide +kernel
theorem dX10_in_5 : decode cX10_in 5 = .ok (.iload_n 0, 1) := by decide +kernel
theorem dX10_in_6 : decode cX10_in 6 = .ok (.iload_n 2, 1) := by decide +kernel
theorem dX10_in_7 : decode cX10_in 7 = .ok (.if_icmp .gt 7, 3) := by decide +kernel
theorem dX10_in_10 : decode cX10_in 10 = .ok (.iconst 1, 1) := by decide +kernel
theorem dX10_in_11 : decode cX10_in 11 = .ok (.goto 4, 3) := by decide +kernel
theorem dX10_in_14 : decode cX10_in 14 = .ok (.iconst 0, 1) := by decide +kernel
theorem dX10_in_15 : decode cX10_in 15 = .ok (.ireturn, 1) := by decide +kernel
def F_X10_in (x0 : Int32) (x1 : Int32) (x2 : Int32) : Option Int32 :=
  if x0 < x1 then
    some 0
  else
    if x2 < x0 then
      some 0
    else
      some 1
set_option maxRecDepth 100000 in
set_option maxHeartbeats 4000000 in
theorem ev_X10_in {lay : List eLC} (x0 : Int32) (x1 : Int32) (x2 : Int32) (M : eMem) (q : Int32) (h : F_X10_in x0 x1 x2 = some q) : Ev lay 0 m_X10_in 0 [some (.int x0), some (.int x1), some (.int x2)] [] M (some (.int q), M) := by
  rw [F_X10_in] at h
  refine Ev.iload_n (pc := 0) dX10_in_0 rfl ?_
  refine Ev.iload_n (pc := 1) dX10_in_1 rfl ?_
  refine Ev.icmp_lt (pc := 2) (tgt := 14) dX10_in_2 (by decide) (fun c9 => ?_) (fun c9 => ?_)
  · have h := eT h c9
    refine Ev.iconst (pc := 14) dX10_in_14 (v := 0) (by decide) ?_
    obtain rfl := Option.some.inj h
    exact Ev.iret (pc := 15) dX10_in_15 rfl rfl
  · have h := eF h c9
    refine Ev.iload_n (pc := 5) dX10_in_5 rfl ?_
    refine Ev.iload_n (pc := 6) dX10_in_6 rfl ?_
    refine Ev.icmp_gt (pc := 7) (tgt := 14) dX10_in_7 (by decide) (fun c9 => ?_) (fun c9 => ?_)
    · have h := eT h c9
      refine Ev.iconst (pc := 14) dX10_in_14 (v := 0) (by decide) ?_
      obtain rfl := Option.some.inj h
      exact Ev.iret (pc := 15) dX10_in_15 rfl rfl
    · have h := eF h c9
      refine Ev.iconst (pc := 10) dX10_in_10 (v := 1) (by decide) ?_
      refine Ev.goto (pc := 11) (tgt := 15) dX10_in_11 (by decide) ?_
      obtain rfl := Option.some.inj h
      exact Ev.iret (pc := 15) dX10_in_15 rfl rfl
theorem dX10_isCell_0 : decode cX10_isCell 0 = .ok (.iload_n 0, 1) := by decide +kernel
theorem dX10_isCell_1 : decode cX10_isCell 1 = .ok (.iconst 0, 1) := by decide +kernel
theorem dX10_isCell_2 : decode cX10_isCell 2 = .ok (.bipush 95, 2) := by decide +kernel
theorem dX10_isCell_4 : decode cX10_isCell 4 = .ok (.invokestatic 58, 3) := by decide +kernel
theorem dX10_isCell_7 : decode cX10_isCell 7 = .ok (.ireturn, 1) := by decide +kernel
def F_X10_isCell (x0 : Int32) : Option Int32 :=
  (F_X10_in x0 0 95).bind fun q1 =>
  eG (decide (vp_nar .boolean q1 = q1)) <|
  some q1
set_option maxRecDepth 100000 in
set_option maxHeartbeats 4000000 in
theorem ev_X10_isCell {lay : List eLC} (x0 : Int32) (M : eMem) (q : Int32) (h : F_X10_isCell x0 = some q) : Ev lay 1 m_X10_isCell 0 [some (.int x0)] [] M (some (.int q), M) := by
  rw [F_X10_isCell] at h
  refine Ev.iload_n (pc := 0) dX10_isCell_0 rfl ?_
  refine Ev.iconst (pc := 1) dX10_isCell_1 (v := 0) (by decide) ?_
  refine Ev.bipush (pc := 2) dX10_isCell_2 (v := 95) (by decide) ?_
  refine eBk h (fun q1 hq1 h => ?_)
  refine Ev.callS (pc := 4) (as := [.int x0, .int 0, .int 95]) (st := []) (z := 0) dX10_isCell_4 wc_X10_in ml_RX10_58 sm_X10_in (ev_X10_in x0 0 95 M _ hq1) rfl rfl (by decide) rfl rfl (Nat.le_of_ble_eq_true rfl) ?_
  obtain ⟨g9, h⟩ := eGdB h
  have g9 := of_decide_eq_true g9
  obtain rfl := Option.some.inj h
  exact Ev.iret (pc := 7) dX10_isCell_7 rfl (eNar_boolean g9)
theorem dX10_finding_0 : decode cX10_finding 0 = .ok (.aload_n 0, 1) := by decide +kernel
theorem dX10_finding_1 : decode cX10_finding 1 = .ok (.getfield 29, 3) := by decide +kernel
theorem dX10_finding_4 : decode cX10_finding 4 = .ok (.iload_n 1, 1) := by decide +kernel
theorem dX10_finding_5 : decode cX10_finding 5 = .ok (.dup2, 1) := by decide +kernel
theorem dX10_finding_6 : decode cX10_finding 6 = .ok (.iaload, 1) := by decide +kernel
theorem dX10_finding_7 : decode cX10_finding 7 = .ok (.iconst 1, 1) := by decide +kernel
theorem dX10_finding_8 : decode cX10_finding 8 = .ok (.iadd, 1) := by decide +kernel
theorem dX10_finding_9 : decode cX10_finding 9 = .ok (.iastore, 1) := by decide +kernel
theorem dX10_finding_10 : decode cX10_finding 10 = .ok (.ldc 57, 2) := by decide +kernel
theorem dX10_finding_12 : decode cX10_finding 12 = .ok (.iload_n 1, 1) := by decide +kernel
theorem dX10_finding_13 : decode cX10_finding 13 = .ok (.isub, 1) := by decide +kernel
theorem dX10_finding_14 : decode cX10_finding 14 = .ok (.ireturn, 1) := by decide +kernel
def F_X10_finding (x1 : Int32) (M : eMem) : Option (Int32 × eMem) :=
  eG (eIn x1 8) <|
  eG (eIn x1 8) <|
  some (((-1000000) - x1), (eI M 7 x1.toNatClampNeg ((M.1 7 x1.toNatClampNeg) + 1)))
set_option maxRecDepth 100000 in
set_option maxHeartbeats 4000000 in
theorem ev_X10_finding (x1 : Int32) (M : eMem) (q : (Int32 × eMem)) (h : F_X10_finding x1 M = some q) : Ev layR 0 m_X10_finding 0 [some (.ref 0), some (.int x1)] [] M (some (.int q.1), q.2) := by
  rw [F_X10_finding] at h
  refine Ev.aload_n (pc := 0) dX10_finding_0 rfl ?_
  refine Ev.getR (pc := 1) dX10_finding_1 fl_RX10_29 lR_0 rfl ?_
  refine Ev.iload_n (pc := 4) dX10_finding_4 rfl ?_
  refine Ev.dup2 (pc := 5) dX10_finding_5 rfl rfl ?_
  obtain ⟨g9, h⟩ := eGdB h
  refine Ev.ialdj (pc := 6) dX10_finding_6 (j := x1.toNatClampNeg) lR_7 g9 rfl ?_
  refine Ev.iconst (pc := 7) dX10_finding_7 (v := 1) (by decide) ?_
  refine Ev.iadd (pc := 8) dX10_finding_8 ?_
  obtain ⟨g9, h⟩ := eGdB h
  refine Ev.iastj (pc := 9) dX10_finding_9 (j := x1.toNatClampNeg) lR_7 g9 rfl ?_
  refine Ev.ldc (pc := 10) dX10_finding_10 ld_RX10_57 ?_
  refine Ev.iload_n (pc := 12) dX10_finding_12 rfl ?_
  refine Ev.isub (pc := 13) dX10_finding_13 ?_
  obtain rfl := Option.some.inj h
  exact Ev.iret (pc := 14) dX10_finding_14 rfl rfl
theorem dX10_cell_0 : decode cX10_cell 0 = .ok (.iload_n 1, 1) := by decide +kernel
theorem dX10_cell_1 : decode cX10_cell 1 = .ok (.invokestatic 62, 3) := by decide +kernel
theorem dX10_cell_4 : decode cX10_cell 4 = .ok (.ifCond .eq 12, 3) := by decide +kernel
theorem dX10_cell_7 : decode cX10_cell 7 = .ok (.iload_n 2, 1) := by decide +kernel
theorem dX10_cell_8 : decode cX10_cell 8 = .ok (.iconst 0, 1) := by decide +kernel
theorem dX10_cell_9 : decode cX10_cell 9 = .ok (.iconst 3, 1) := by decide +kernel
theorem dX10_cell_10 : decode cX10_cell 10 = .ok (.invokestatic 58, 3) := by decide +kernel
theorem dX10_cell_13 : decode cX10_cell 13 = .ok (.ifCond .ne 9, 3) := by decide +kernel
theorem dX10_cell_16 : decode cX10_cell 16 = .ok (.aload_n 0, 1) := by decide +kernel
theorem dX10_cell_17 : decode cX10_cell 17 = .ok (.iconst 1, 1) := by decide +kernel
theorem dX10_cell_18 : decode cX10_cell 18 = .ok (.invokevirtual 66, 3) := by decide +kernel
theorem dX10_cell_21 : decode cX10_cell 21 = .ok (.ireturn, 1) := by decide +kernel
theorem dX10_cell_22 : decode cX10_cell 22 = .ok (.aload_n 0, 1) := by decide +kernel
theorem dX10_cell_23 : decode cX10_cell 23 = .ok (.getfield 7, 3) := by decide +kernel
theorem dX10_cell_26 : decode cX10_cell 26 = .ok (.bipush 14, 2) := by decide +kernel
theorem dX10_cell_28 : decode cX10_cell 28 = .ok (.iload_n 1, 1) := by decide +kernel
theorem dX10_cell_29 : decode cX10_cell 29 = .ok (.iadd, 1) := by decide +kernel
theorem dX10_cell_30 : decode cX10_cell 30 = .ok (.iaload, 1) := by decide +kernel
theorem dX10_cell_31 : decode cX10_cell 31 = .ok (.istore_n 3, 1) := by decide +kernel
theorem dX10_cell_32 : decode cX10_cell 32 = .ok (.aload_n 0, 1) := by decide +kernel
theorem dX10_cell_33 : decode cX10_cell 33 = .ok (.getfield 7, 3) := by decide +kernel
theorem dX10_cell_36 : decode cX10_cell 36 = .ok (.bipush 14, 2) := by decide +kernel
theorem dX10_cell_38 : decode cX10_cell 38 = .ok (.iload_n 1, 1) := by decide +kernel
theorem dX10_cell_39 : decode cX10_cell 39 = .ok (.iadd, 1) := by decide +kernel
theorem dX10_cell_40 : decode cX10_cell 40 = .ok (.iload_n 2, 1) := by decide +kernel
theorem dX10_cell_41 : decode cX10_cell 41 = .ok (.iastore, 1) := by decide +kernel
theorem dX10_cell_42 : decode cX10_cell 42 = .ok (.iload_n 3, 1) := by decide +kernel
theorem dX10_cell_43 : decode cX10_cell 43 = .ok (.ireturn, 1) := by decide +kernel
def F_X10_cell (x1 : Int32) (x2 : Int32) (M : eMem) : Option (Int32 × eMem) :=
  (F_X10_isCell x1).bind fun q1 =>
  if q1 = 0 then
    (F_X10_finding 1 M).bind fun q2 =>
    some (q2.1, q2.2)
  else
    (F_X10_in x2 0 3).bind fun q3 =>
    if q3 = 0 then
      (F_X10_finding 1 M).bind fun q4 =>
      some (q4.1, q4.2)
    else
      eG (eIn (14 + x1) 2900) <|
      eG (eIn (14 + x1) 2900) <|
      some ((M.1 1 (14 + x1).toNatClampNeg), (eI M 1 (14 + x1).toNatClampNeg x2))
set_option maxRecDepth 100000 in
set_option maxHeartbeats 4000000 in
theorem ev_X10_cell (x1 : Int32) (x2 : Int32) (M : eMem) (q : (Int32 × eMem)) (h : F_X10_cell x1 x2 M = some q) : Ev layR 2 m_X10_cell 0 [some (.ref 0), some (.int x1), some (.int x2), none] [] M (some (.int q.1), q.2) := by
  rw [F_X10_cell] at h
  refine Ev.iload_n (pc := 0) dX10_cell_0 rfl ?_
  refine eBk h (fun q1 hq1 h => ?_)
  refine Ev.callS (pc := 1) (as := [.int x1]) (st := []) (z := 0) dX10_cell_1 wc_X10_isCell ml_RX10_62 sm_X10_isCell (ev_X10_isCell x1 M _ hq1) rfl rfl (by decide) rfl rfl (Nat.le_of_ble_eq_true rfl) ?_
  refine Ev.if_eq (pc := 4) (tgt := 16) dX10_cell_4 (by decide) (fun c9 => ?_) (fun c9 => ?_)
  · have h := eT h c9
    refine Ev.aload_n (pc := 16) dX10_cell_16 rfl ?_
    refine Ev.iconst (pc := 17) dX10_cell_17 (v := 1) (by decide) ?_
    refine eBk h (fun q2 hq2 h => ?_)
    refine Ev.callV (pc := 18) (as := [.int 1]) (st := []) (z := 0) dX10_cell_18 wc_X10_finding ml_RX10_66 im_X10_finding se_X10_finding lR_0 rfl rfl (ev_X10_finding 1 M _ hq2) rfl rfl (by decide) rfl rfl (Nat.le_of_ble_eq_true rfl) ?_
    obtain rfl := Option.some.inj h
    exact Ev.iret (pc := 21) dX10_cell_21 rfl rfl
  · have h := eF h c9
    refine Ev.iload_n (pc := 7) dX10_cell_7 rfl ?_
    refine Ev.iconst (pc := 8) dX10_cell_8 (v := 0) (by decide) ?_
    refine Ev.iconst (pc := 9) dX10_cell_9 (v := 3) (by decide) ?_
    refine eBk h (fun q3 hq3 h => ?_)
    refine Ev.callS (pc := 10) (as := [.int x2, .int 0, .int 3]) (st := []) (z := 0) dX10_cell_10 wc_X10_in ml_RX10_58 sm_X10_in (ev_X10_in x2 0 3 M _ hq3) rfl rfl (by decide) rfl rfl (Nat.le_of_ble_eq_true rfl) ?_
    refine Ev.if_ne (pc := 13) (tgt := 22) dX10_cell_13 (by decide) (fun c9 => ?_) (fun c9 => ?_)
    · have h := eF h c9
      refine Ev.aload_n (pc := 22) dX10_cell_22 rfl ?_
      refine Ev.getR (pc := 23) dX10_cell_23 fl_RX10_7 lR_0 rfl ?_
      refine Ev.bipush (pc := 26) dX10_cell_26 (v := 14) (by decide) ?_
      refine Ev.iload_n (pc := 28) dX10_cell_28 rfl ?_
      refine Ev.iadd (pc := 29) dX10_cell_29 ?_
      obtain ⟨g9, h⟩ := eGdB h
      refine Ev.ialdj (pc := 30) dX10_cell_30 (j := (14 + x1).toNatClampNeg) lR_1 g9 rfl ?_
      refine Ev.istore_n (pc := 31) dX10_cell_31 (by decide) rfl rfl ?_
      refine Ev.aload_n (pc := 32) dX10_cell_32 rfl ?_
      refine Ev.getR (pc := 33) dX10_cell_33 fl_RX10_7 lR_0 rfl ?_
      refine Ev.bipush (pc := 36) dX10_cell_36 (v := 14) (by decide) ?_
      refine Ev.iload_n (pc := 38) dX10_cell_38 rfl ?_
      refine Ev.iadd (pc := 39) dX10_cell_39 ?_
      refine Ev.iload_n (pc := 40) dX10_cell_40 rfl ?_
      obtain ⟨g9, h⟩ := eGdB h
      refine Ev.iastj (pc := 41) dX10_cell_41 (j := (14 + x1).toNatClampNeg) lR_1 g9 rfl ?_
      refine Ev.iload_n (pc := 42) dX10_cell_42 rfl ?_
      obtain rfl := Option.some.inj h
      exact Ev.iret (pc := 43) dX10_cell_43 rfl rfl
    · have h := eT h c9
      refine Ev.aload_n (pc := 16) dX10_cell_16 rfl ?_
      refine Ev.iconst (pc := 17) dX10_cell_17 (v := 1) (by decide) ?_
      refine eBk h (fun q4 hq4 h => ?_)
      refine Ev.callV (pc := 18) (as := [.int 1]) (st := []) (z := 0) dX10_cell_18 wc_X10_finding ml_RX10_66 im_X10_finding se_X10_finding lR_0 rfl rfl (ev_X10_finding 1 M _ hq4) rfl rfl (by decide) rfl rfl (Nat.le_of_ble_eq_true rfl) ?_
      obtain rfl := Option.some.inj h
      exact Ev.iret (pc := 21) dX10_cell_21 rfl rfl
theorem dX9_isBetween_0 : decode cX9_isBetween 0 = .ok (.iload_n 0, 1) := by decide +kernel
theorem dX9_isBetween_1 : decode cX9_isBetween 1 = .ok (.iload_n 1, 1) := by decide +kernel
theorem dX9_isBetween_2 : decode cX9_isBetween 2 = .ok (.if_icmp .lt 12, 3) := by decide +kernel
theorem dX9_isBetween_5 : decode cX9_isBetween 5 = .ok (.iload_n 0, 1) := by decide +kernel
theorem dX9_isBetween_6 : decode cX9_isBetween 6 = .ok (.iload_n 2, 1) := by decide +kernel
theorem dX9_isBetween_7 : decode cX9_isBetween 7 = .ok (.if_icmp .gt 7, 3) := by decide +kernel
theorem dX9_isBetween_10 : decode cX9_isBetween 10 = .ok (.iconst 1, 1) := by decide +kernel
theorem dX9_isBetween_11 : decode cX9_isBetween 11 = .ok (.goto 4, 3) := by decide +kernel
theorem dX9_isBetween_14 : decode cX9_isBetween 14 = .ok (.iconst 0, 1) := by decide +kernel
theorem dX9_isBetween_15 : decode cX9_isBetween 15 = .ok (.ireturn, 1) := by decide +kernel
def F_X9_isBetween (x0 : Int32) (x1 : Int32) (x2 : Int32) : Option Int32 :=
  if x0 < x1 then
    some 0
  else
    if x2 < x0 then
      some 0
    else
      some 1
set_option maxRecDepth 100000 in
set_option maxHeartbeats 4000000 in
theorem ev_X9_isBetween {lay : List eLC} (x0 : Int32) (x1 : Int32) (x2 : Int32) (M : eMem) (q : Int32) (h : F_X9_isBetween x0 x1 x2 = some q) : Ev lay 0 m_X9_isBetween 0 [some (.int x0), some (.int x1), some (.int x2)] [] M (some (.int q), M) := by
  rw [F_X9_isBetween] at h
  refine Ev.iload_n (pc := 0) dX9_isBetween_0 rfl ?_
  refine Ev.iload_n (pc := 1) dX9_isBetween_1 rfl ?_
  refine Ev.icmp_lt (pc := 2) (tgt := 14) dX9_isBetween_2 (by decide) (fun c9 => ?_) (fun c9 => ?_)
  · have h := eT h c9
    refine Ev.iconst (pc := 14) dX9_isBetween_14 (v := 0) (by decide) ?_
    obtain rfl := Option.some.inj h
    exact Ev.iret (pc := 15) dX9_isBetween_15 rfl rfl
  · have h := eF h c9
    refine Ev.iload_n (pc := 5) dX9_isBetween_5 rfl ?_
    refine Ev.iload_n (pc := 6) dX9_isBetween_6 rfl ?_
    refine Ev.icmp_gt (pc := 7) (tgt := 14) dX9_isBetween_7 (by decide) (fun c9 => ?_) (fun c9 => ?_)
    · have h := eT h c9
      refine Ev.iconst (pc := 14) dX9_isBetween_14 (v := 0) (by decide) ?_
      obtain rfl := Option.some.inj h
      exact Ev.iret (pc := 15) dX9_isBetween_15 rfl rfl
    · have h := eF h c9
      refine Ev.iconst (pc := 10) dX9_isBetween_10 (v := 1) (by decide) ?_
      refine Ev.goto (pc := 11) (tgt := 15) dX9_isBetween_11 (by decide) ?_
      obtain rfl := Option.some.inj h
      exact Ev.iret (pc := 15) dX9_isBetween_15 rfl rfl
theorem dX0_addRoad_0 : decode cX0_addRoad 0 = .ok (.aload_n 0, 1) := by decide +kernel
theorem dX0_addRoad_1 : decode cX0_addRoad 1 = .ok (.getfield 39, 3) := by decide +kernel
theorem dX0_addRoad_4 : decode cX0_addRoad 4 = .ok (.bipush 40, 2) := by decide +kernel
theorem dX0_addRoad_6 : decode cX0_addRoad 6 = .ok (.invokestatic 43, 3) := by decide +kernel
theorem dX0_addRoad_9 : decode cX0_addRoad 9 = .ok (.ifCond .ne 5, 3) := by decide +kernel
theorem dX0_addRoad_12 : decode cX0_addRoad 12 = .ok (.iconst (-1), 1) := by decide +kernel
theorem dX0_addRoad_13 : decode cX0_addRoad 13 = .ok (.ireturn, 1) := by decide +kernel
theorem dX0_addRoad_14 : decode cX0_addRoad 14 = .ok (.aload_n 0, 1) := by decide +kernel
theorem dX0_addRoad_15 : decode cX0_addRoad 15 = .ok (.getfield 15, 3) := by decide +kernel
theorem dX0_addRoad_18 : decode cX0_addRoad 18 = .ok (.aload_n 0, 1) := by decide +kernel
theorem dX0_addRoad_19 : decode cX0_addRoad 19 = .ok (.getfield 39, 3) := by decide +kernel
theorem dX0_addRoad_22 : decode cX0_addRoad 22 = .ok (.iload_n 1, 1) := by decide +kernel
theorem dX0_addRoad_23 : decode cX0_addRoad 23 = .ok (.iastore, 1) := by decide +kernel
theorem dX0_addRoad_24 : decode cX0_addRoad 24 = .ok (.aload_n 0, 1) := by decide +kernel
theorem dX0_addRoad_25 : decode cX0_addRoad 25 = .ok (.getfield 18, 3) := by decide +kernel
theorem dX0_addRoad_28 : decode cX0_addRoad 28 = .ok (.aload_n 0, 1) := by decide +kernel
theorem dX0_addRoad_29 : decode cX0_addRoad 29 = .ok (.getfield 39, 3) := by decide +kernel
theorem dX0_addRoad_32 : decode cX0_addRoad 32 = .ok (.iload_n 2, 1) := by decide +kernel
theorem dX0_addRoad_33 : decode cX0_addRoad 33 = .ok (.iastore, 1) := by decide +kernel
theorem dX0_addRoad_34 : decode cX0_addRoad 34 = .ok (.aload_n 0, 1) := by decide +kernel
theorem dX0_addRoad_35 : decode cX0_addRoad 35 = .ok (.getfield 21, 3) := by decide +kernel
theorem dX0_addRoad_38 : decode cX0_addRoad 38 = .ok (.aload_n 0, 1) := by decide +kernel
theorem dX0_addRoad_39 : decode cX0_addRoad 39 = .ok (.getfield 39, 3) := by decide +kernel
theorem dX0_addRoad_42 : decode cX0_addRoad 42 = .ok (.iload_n 3, 1) := by decide +kernel
theorem dX0_addRoad_43 : decode cX0_addRoad 43 = .ok (.iastore, 1) := by decide +kernel
theorem dX0_addRoad_44 : decode cX0_addRoad 44 = .ok (.aload_n 0, 1) := by decide +kernel
theorem dX0_addRoad_45 : decode cX0_addRoad 45 = .ok (.dup, 1) := by decide +kernel
theorem dX0_addRoad_46 : decode cX0_addRoad 46 = .ok (.getfield 39, 3) := by decide +kernel
theorem dX0_addRoad_49 : decode cX0_addRoad 49 = .ok (.dup_x1, 1) := by decide +kernel
theorem dX0_addRoad_50 : decode cX0_addRoad 50 = .ok (.iconst 1, 1) := by decide +kernel
theorem dX0_addRoad_51 : decode cX0_addRoad 51 = .ok (.iadd, 1) := by decide +kernel
theorem dX0_addRoad_52 : decode cX0_addRoad 52 = .ok (.putfield 39, 3) := by decide +kernel
theorem dX0_addRoad_55 : decode cX0_addRoad 55 = .ok (.ireturn, 1) := by decide +kernel
def F_X0_addRoad (x1 : Int32) (x2 : Int32) (x3 : Int32) (M : eMem) : Option (Int32 × eMem) :=
  (F_X9_isIn (M.1 2 4) 40).bind fun q1 =>
  if q1 = 0 then
    some ((-1), M)
  else
    eG (eIn (M.1 2 4) 40) <|
    eG (eIn (M.1 2 4) 40) <|
    eG (eIn (M.1 2 4) 40) <|
    some ((M.1 2 4), (eI (eI (eI (eI M 4 (M.1 2 4).toNatClampNeg x1) 5 (M.1 2 4).toNatClampNeg x2) 6 (M.1 2 4).toNatClampNeg x3) 2 4 ((M.1 2 4) + 1)))
set_option maxRecDepth 100000 in
set_option maxHeartbeats 4000000 in
theorem ev_X0_addRoad (x1 : Int32) (x2 : Int32) (x3 : Int32) (M : eMem) (q : (Int32 × eMem)) (h : F_X0_addRoad x1 x2 x3 M = some q) : Ev layC 1 m_X0_addRoad 0 [some (.ref 2), some (.int x1), some (.int x2), some (.int x3)] [] M (some (.int q.1), q.2) := by
  rw [F_X0_addRoad] at h
  refine Ev.aload_n (pc := 0) dX0_addRoad_0 rfl ?_
  refine Ev.getI (pc := 1) dX0_addRoad_1 fl_RX0_39 lC_2 rfl ?_
  refine Ev.bipush (pc := 4) dX0_addRoad_4 (v := 40) (by decide) ?_
  refine eBk h (fun q1 hq1 h => ?_)
  refine Ev.callSN (host := "GhostCoast") (pc := 6) (as := [.int (M.1 2 4), .int 40]) (st := []) (z := 0) dX0_addRoad_6 wc_X9_isIn mn_RX0_43 sm_X9_isIn (ev_X9_isIn (M.1 2 4) 40 M _ hq1) rfl rfl (by decide) rfl rfl (Nat.le_of_ble_eq_true rfl) ?_
  refine Ev.if_ne (pc := 9) (tgt := 14) dX0_addRoad_9 (by decide) (fun c9 => ?_) (fun c9 => ?_)
  · have h := eF h c9
    refine Ev.aload_n (pc := 14) dX0_addRoad_14 rfl ?_
    refine Ev.getR (pc := 15) dX0_addRoad_15 fl_RX0_15 lC_2 rfl ?_
    refine Ev.aload_n (pc := 18) dX0_addRoad_18 rfl ?_
    refine Ev.getI (pc := 19) dX0_addRoad_19 fl_RX0_39 lC_2 rfl ?_
    refine Ev.iload_n (pc := 22) dX0_addRoad_22 rfl ?_
    obtain ⟨g9, h⟩ := eGdB h
    refine Ev.iastj (pc := 23) dX0_addRoad_23 (j := (M.1 2 4).toNatClampNeg) lC_4 g9 rfl ?_
    refine Ev.aload_n (pc := 24) dX0_addRoad_24 rfl ?_
    refine Ev.getR (pc := 25) dX0_addRoad_25 fl_RX0_18 lC_2 rfl ?_
    refine Ev.aload_n (pc := 28) dX0_addRoad_28 rfl ?_
    refine Ev.getIv (pc := 29) dX0_addRoad_29 (v := (M.1 2 4)) fl_RX0_39 lC_2 rfl (eI_n (by decide)) ?_
    refine Ev.iload_n (pc := 32) dX0_addRoad_32 rfl ?_
    obtain ⟨g9, h⟩ := eGdB h
    refine Ev.iastj (pc := 33) dX0_addRoad_33 (j := (M.1 2 4).toNatClampNeg) lC_5 g9 rfl ?_
    refine Ev.aload_n (pc := 34) dX0_addRoad_34 rfl ?_
    refine Ev.getR (pc := 35) dX0_addRoad_35 fl_RX0_21 lC_2 rfl ?_
    refine Ev.aload_n (pc := 38) dX0_addRoad_38 rfl ?_
    refine Ev.getIv (pc := 39) dX0_addRoad_39 (v := (M.1 2 4)) fl_RX0_39 lC_2 rfl ((eI_n (by decide)).trans (eI_n (by decide))) ?_
    refine Ev.iload_n (pc := 42) dX0_addRoad_42 rfl ?_
    obtain ⟨g9, h⟩ := eGdB h
    refine Ev.iastj (pc := 43) dX0_addRoad_43 (j := (M.1 2 4).toNatClampNeg) lC_6 g9 rfl ?_
    refine Ev.aload_n (pc := 44) dX0_addRoad_44 rfl ?_
    refine Ev.dup (pc := 45) dX0_addRoad_45 rfl ?_
    refine Ev.getIv (pc := 46) dX0_addRoad_46 (v := (M.1 2 4)) fl_RX0_39 lC_2 rfl ((eI_n (by decide)).trans ((eI_n (by decide)).trans (eI_n (by decide)))) ?_
    refine Ev.dup_x1 (pc := 49) dX0_addRoad_49 rfl rfl ?_
    refine Ev.iconst (pc := 50) dX0_addRoad_50 (v := 1) (by decide) ?_
    refine Ev.iadd (pc := 51) dX0_addRoad_51 ?_
    refine Ev.putI (pc := 52) dX0_addRoad_52 fp_RX0_39 lC_2 rfl rfl rfl ?_
    obtain rfl := Option.some.inj h
    exact Ev.iret (pc := 55) dX0_addRoad_55 rfl rfl
  · have h := eT h c9
    refine Ev.iconst (pc := 12) dX0_addRoad_12 (v := (-1)) (by decide) ?_
    obtain rfl := Option.some.inj h
    exact Ev.iret (pc := 13) dX0_addRoad_13 rfl rfl
theorem dX9_road_0 : decode cX9_road 0 = .ok (.iload_n 1, 1) := by decide +kernel
theorem dX9_road_1 : decode cX9_road 1 = .ok (.bipush 96, 2) := by decide +kernel
theorem dX9_road_3 : decode cX9_road 3 = .ok (.invokestatic 37, 3) := by decide +kernel
theorem dX9_road_6 : decode cX9_road 6 = .ok (.ifCond .eq 17, 3) := by decide +kernel
theorem dX9_road_9 : decode cX9_road 9 = .ok (.iload_n 2, 1) := by decide +kernel
theorem dX9_road_10 : decode cX9_road 10 = .ok (.bipush 96, 2) := by decide +kernel
theorem dX9_road_12 : decode cX9_road 12 = .ok (.invokestatic 37, 3) := by decide +kernel
theorem dX9_road_15 : decode cX9_road 15 = .ok (.ifCond .eq 8, 3) := by decide +kernel
theorem dX9_road_18 : decode cX9_road 18 = .ok (.iload_n 1, 1) := by decide +kernel
theorem dX9_road_19 : decode cX9_road 19 = .ok (.iload_n 2, 1) := by decide +kernel
theorem dX9_road_20 : decode cX9_road 20 = .ok (.if_icmp .ne 10, 3) := by decide +kernel
theorem dX9_road_23 : decode cX9_road 23 = .ok (.aload_n 0, 1) := by decide +kernel
theorem dX9_road_24 : decode cX9_road 24 = .ok (.ldc 41, 2) := by decide +kernel
theorem dX9_road_26 : decode cX9_road 26 = .ok (.invokevirtual 42, 3) := by decide +kernel
theorem dX9_road_29 : decode cX9_road 29 = .ok (.ireturn, 1) := by decide +kernel
theorem dX9_road_30 : decode cX9_road 30 = .ok (.iload_n 3, 1) := by decide +kernel
theorem dX9_road_31 : decode cX9_road 31 = .ok (.iconst 1, 1) := by decide +kernel
theorem dX9_road_32 : decode cX9_road 32 = .ok (.bipush 30, 2) := by decide +kernel
theorem dX9_road_34 : decode cX9_road 34 = .ok (.invokestatic 55, 3) := by decide +kernel
theorem dX9_road_37 : decode cX9_road 37 = .ok (.ifCond .ne 10, 3) := by decide +kernel
theorem dX9_road_40 : decode cX9_road 40 = .ok (.aload_n 0, 1) := by decide +kernel
theorem dX9_road_41 : decode cX9_road 41 = .ok (.ldc 41, 2) := by decide +kernel
theorem dX9_road_43 : decode cX9_road 43 = .ok (.invokevirtual 42, 3) := by decide +kernel
theorem dX9_road_46 : decode cX9_road 46 = .ok (.ireturn, 1) := by decide +kernel
theorem dX9_road_47 : decode cX9_road 47 = .ok (.aload_n 0, 1) := by decide +kernel
theorem dX9_road_48 : decode cX9_road 48 = .ok (.getfield 12, 3) := by decide +kernel
theorem dX9_road_51 : decode cX9_road 51 = .ok (.getfield 46, 3) := by decide +kernel
theorem dX9_road_54 : decode cX9_road 54 = .ok (.getfield 59, 3) := by decide +kernel
theorem dX9_road_57 : decode cX9_road 57 = .ok (.bipush 40, 2) := by decide +kernel
theorem dX9_road_59 : decode cX9_road 59 = .ok (.if_icmp .lt 10, 3) := by decide +kernel
theorem dX9_road_62 : decode cX9_road 62 = .ok (.aload_n 0, 1) := by decide +kernel
theorem dX9_road_63 : decode cX9_road 63 = .ok (.ldc 63, 2) := by decide +kernel
theorem dX9_road_65 : decode cX9_road 65 = .ok (.invokevirtual 42, 3) := by decide +kernel
theorem dX9_road_68 : decode cX9_road 68 = .ok (.ireturn, 1) := by decide +kernel
theorem dX9_road_69 : decode cX9_road 69 = .ok (.aload_n 0, 1) := by decide +kernel
theorem dX9_road_70 : decode cX9_road 70 = .ok (.getfield 12, 3) := by decide +kernel
theorem dX9_road_73 : decode cX9_road 73 = .ok (.getfield 46, 3) := by decide +kernel
theorem dX9_road_76 : decode cX9_road 76 = .ok (.iload_n 1, 1) := by decide +kernel
theorem dX9_road_77 : decode cX9_road 77 = .ok (.iload_n 2, 1) := by decide +kernel
theorem dX9_road_78 : decode cX9_road 78 = .ok (.iload_n 3, 1) := by decide +kernel
theorem dX9_road_79 : decode cX9_road 79 = .ok (.invokevirtual 64, 3) := by decide +kernel
theorem dX9_road_82 : decode cX9_road 82 = .ok (.ireturn, 1) := by decide +kernel
def F_X9_road (x1 : Int32) (x2 : Int32) (x3 : Int32) (M : eMem) : Option (Int32 × eMem) :=
  (F_X9_isIn x1 96).bind fun q1 =>
  if q1 = 0 then
    (F_X9_found (-1000001) M).bind fun q2 =>
    some (q2.1, q2.2)
  else
    (F_X9_isIn x2 96).bind fun q3 =>
    if q3 = 0 then
      (F_X9_found (-1000001) M).bind fun q4 =>
      some (q4.1, q4.2)
    else
      if x1 = x2 then
        (F_X9_found (-1000001) M).bind fun q9 =>
        some (q9.1, q9.2)
      else
        (F_X9_isBetween x3 1 30).bind fun q5 =>
        if q5 = 0 then
          (F_X9_found (-1000001) M).bind fun q8 =>
          some (q8.1, q8.2)
        else
          if (M.1 2 4) < 40 then
            (F_X0_addRoad x1 x2 x3 M).bind fun q6 =>
            some (q6.1, q6.2)
          else
            (F_X9_found (-1000002) M).bind fun q7 =>
            some (q7.1, q7.2)
set_option maxRecDepth 100000 in
set_option maxHeartbeats 4000000 in
theorem ev_X9_road (x1 : Int32) (x2 : Int32) (x3 : Int32) (M : eMem) (q : (Int32 × eMem)) (h : F_X9_road x1 x2 x3 M = some q) : Ev layC 2 m_X9_road 0 [some (.ref 0), some (.int x1), some (.int x2), some (.int x3)] [] M (some (.int q.1), q.2) := by
  rw [F_X9_road] at h
  refine Ev.iload_n (pc := 0) dX9_road_0 rfl ?_
  refine Ev.bipush (pc := 1) dX9_road_1 (v := 96) (by decide) ?_
  refine eBk h (fun q1 hq1 h => ?_)
  refine Ev.callS (pc := 3) (as := [.int x1, .int 96]) (st := []) (z := 0) dX9_road_3 wc_X9_isIn ml_RX9_37 sm_X9_isIn (ev_X9_isIn x1 96 M _ hq1) rfl rfl (by decide) rfl rfl (Nat.le_of_ble_eq_true rfl) ?_
  refine Ev.if_eq (pc := 6) (tgt := 23) dX9_road_6 (by decide) (fun c9 => ?_) (fun c9 => ?_)
  · have h := eT h c9
    refine Ev.aload_n (pc := 23) dX9_road_23 rfl ?_
    refine Ev.ldc (pc := 24) dX9_road_24 ld_RX9_41 ?_
    refine eBk h (fun q2 hq2 h => ?_)
    refine Ev.callV (pc := 26) (as := [.int (-1000001)]) (st := []) (z := 1) dX9_road_26 wc_X9_found ml_RX9_42 im_X9_found se_X9_found lC_0 rfl rfl (ev_X9_found (-1000001) M _ hq2) rfl rfl (by decide) rfl rfl (Nat.le_of_ble_eq_true rfl) ?_
    obtain rfl := Option.some.inj h
    exact Ev.iret (pc := 29) dX9_road_29 rfl rfl
  · have h := eF h c9
    refine Ev.iload_n (pc := 9) dX9_road_9 rfl ?_
    refine Ev.bipush (pc := 10) dX9_road_10 (v := 96) (by decide) ?_
    refine eBk h (fun q3 hq3 h => ?_)
    refine Ev.callS (pc := 12) (as := [.int x2, .int 96]) (st := []) (z := 0) dX9_road_12 wc_X9_isIn ml_RX9_37 sm_X9_isIn (ev_X9_isIn x2 96 M _ hq3) rfl rfl (by decide) rfl rfl (Nat.le_of_ble_eq_true rfl) ?_
    refine Ev.if_eq (pc := 15) (tgt := 23) dX9_road_15 (by decide) (fun c9 => ?_) (fun c9 => ?_)
    · have h := eT h c9
      refine Ev.aload_n (pc := 23) dX9_road_23 rfl ?_
      refine Ev.ldc (pc := 24) dX9_road_24 ld_RX9_41 ?_
      refine eBk h (fun q4 hq4 h => ?_)
      refine Ev.callV (pc := 26) (as := [.int (-1000001)]) (st := []) (z := 1) dX9_road_26 wc_X9_found ml_RX9_42 im_X9_found se_X9_found lC_0 rfl rfl (ev_X9_found (-1000001) M _ hq4) rfl rfl (by decide) rfl rfl (Nat.le_of_ble_eq_true rfl) ?_
      obtain rfl := Option.some.inj h
      exact Ev.iret (pc := 29) dX9_road_29 rfl rfl
    · have h := eF h c9
      refine Ev.iload_n (pc := 18) dX9_road_18 rfl ?_
      refine Ev.iload_n (pc := 19) dX9_road_19 rfl ?_
      refine Ev.icmp_ne (pc := 20) (tgt := 30) dX9_road_20 (by decide) (fun c9 => ?_) (fun c9 => ?_)
      · have h := eF h c9
        refine Ev.iload_n (pc := 30) dX9_road_30 rfl ?_
        refine Ev.iconst (pc := 31) dX9_road_31 (v := 1) (by decide) ?_
        refine Ev.bipush (pc := 32) dX9_road_32 (v := 30) (by decide) ?_
        refine eBk h (fun q5 hq5 h => ?_)
        refine Ev.callS (pc := 34) (as := [.int x3, .int 1, .int 30]) (st := []) (z := 0) dX9_road_34 wc_X9_isBetween ml_RX9_55 sm_X9_isBetween (ev_X9_isBetween x3 1 30 M _ hq5) rfl rfl (by decide) rfl rfl (Nat.le_of_ble_eq_true rfl) ?_
        refine Ev.if_ne (pc := 37) (tgt := 47) dX9_road_37 (by decide) (fun c9 => ?_) (fun c9 => ?_)
        · have h := eF h c9
          refine Ev.aload_n (pc := 47) dX9_road_47 rfl ?_
          refine Ev.getR (pc := 48) dX9_road_48 fl_RX9_12 lC_0 rfl ?_
          refine Ev.getR (pc := 51) dX9_road_51 fl_RX9_46 lC_1 rfl ?_
          refine Ev.getI (pc := 54) dX9_road_54 fl_RX9_59 lC_2 rfl ?_
          refine Ev.bipush (pc := 57) dX9_road_57 (v := 40) (by decide) ?_
          refine Ev.icmp_lt (pc := 59) (tgt := 69) dX9_road_59 (by decide) (fun c9 => ?_) (fun c9 => ?_)
          · have h := eT h c9
            refine Ev.aload_n (pc := 69) dX9_road_69 rfl ?_
            refine Ev.getR (pc := 70) dX9_road_70 fl_RX9_12 lC_0 rfl ?_
            refine Ev.getR (pc := 73) dX9_road_73 fl_RX9_46 lC_1 rfl ?_
            refine Ev.iload_n (pc := 76) dX9_road_76 rfl ?_
            refine Ev.iload_n (pc := 77) dX9_road_77 rfl ?_
            refine Ev.iload_n (pc := 78) dX9_road_78 rfl ?_
            refine eBk h (fun q6 hq6 h => ?_)
            refine Ev.callV (pc := 79) (as := [.int x1, .int x2, .int x3]) (st := []) (z := 0) dX9_road_79 wc_X0_addRoad ml_RX9_64 im_X0_addRoad se_X0_addRoad lC_2 rfl rfl (ev_X0_addRoad x1 x2 x3 M _ hq6) rfl rfl (by decide) rfl rfl (Nat.le_of_ble_eq_true rfl) ?_
            obtain rfl := Option.some.inj h
            exact Ev.iret (pc := 82) dX9_road_82 rfl rfl
          · have h := eF h c9
            refine Ev.aload_n (pc := 62) dX9_road_62 rfl ?_
            refine Ev.ldc (pc := 63) dX9_road_63 ld_RX9_63 ?_
            refine eBk h (fun q7 hq7 h => ?_)
            refine Ev.callV (pc := 65) (as := [.int (-1000002)]) (st := []) (z := 1) dX9_road_65 wc_X9_found ml_RX9_42 im_X9_found se_X9_found lC_0 rfl rfl (ev_X9_found (-1000002) M _ hq7) rfl rfl (by decide) rfl rfl (Nat.le_of_ble_eq_true rfl) ?_
            obtain rfl := Option.some.inj h
            exact Ev.iret (pc := 68) dX9_road_68 rfl rfl
        · have h := eT h c9
          refine Ev.aload_n (pc := 40) dX9_road_40 rfl ?_
          refine Ev.ldc (pc := 41) dX9_road_41 ld_RX9_41 ?_
          refine eBk h (fun q8 hq8 h => ?_)
          refine Ev.callV (pc := 43) (as := [.int (-1000001)]) (st := []) (z := 1) dX9_road_43 wc_X9_found ml_RX9_42 im_X9_found se_X9_found lC_0 rfl rfl (ev_X9_found (-1000001) M _ hq8) rfl rfl (by decide) rfl rfl (Nat.le_of_ble_eq_true rfl) ?_
          obtain rfl := Option.some.inj h
          exact Ev.iret (pc := 46) dX9_road_46 rfl rfl
      · have h := eT h c9
        refine Ev.aload_n (pc := 23) dX9_road_23 rfl ?_
        refine Ev.ldc (pc := 24) dX9_road_24 ld_RX9_41 ?_
        refine eBk h (fun q9 hq9 h => ?_)
        refine Ev.callV (pc := 26) (as := [.int (-1000001)]) (st := []) (z := 1) dX9_road_26 wc_X9_found ml_RX9_42 im_X9_found se_X9_found lC_0 rfl rfl (ev_X9_found (-1000001) M _ hq9) rfl rfl (by decide) rfl rfl (Nat.le_of_ble_eq_true rfl) ?_
        obtain rfl := Option.some.inj h
        exact Ev.iret (pc := 29) dX9_road_29 rfl rfl
theorem dX10_road_0 : decode cX10_road 0 = .ok (.bipush 110, 2) := by decide +kernel
theorem dX10_road_2 : decode cX10_road 2 = .ok (.iconst 3, 1) := by decide +kernel
theorem dX10_road_3 : decode cX10_road 3 = .ok (.iload_n 0, 1) := by decide +kernel
theorem dX10_road_4 : decode cX10_road 4 = .ok (.imul, 1) := by decide +kernel
theorem dX10_road_5 : decode cX10_road 5 = .ok (.iadd, 1) := by decide +kernel
theorem dX10_road_6 : decode cX10_road 6 = .ok (.iload_n 1, 1) := by decide +kernel
theorem dX10_road_7 : decode cX10_road 7 = .ok (.iadd, 1) := by decide +kernel
theorem dX10_road_8 : decode cX10_road 8 = .ok (.ireturn, 1) := by decide +kernel
def F_X10_road (x0 : Int32) (x1 : Int32) : Option Int32 :=
  some ((110 + (3 * x0)) + x1)
set_option maxRecDepth 100000 in
set_option maxHeartbeats 4000000 in
theorem ev_X10_road {lay : List eLC} (x0 : Int32) (x1 : Int32) (M : eMem) (q : Int32) (h : F_X10_road x0 x1 = some q) : Ev lay 0 m_X10_road 0 [some (.int x0), some (.int x1)] [] M (some (.int q), M) := by
  rw [F_X10_road] at h
  refine Ev.bipush (pc := 0) dX10_road_0 (v := 110) (by decide) ?_
  refine Ev.iconst (pc := 2) dX10_road_2 (v := 3) (by decide) ?_
  refine Ev.iload_n (pc := 3) dX10_road_3 rfl ?_
  refine Ev.imul (pc := 4) dX10_road_4 ?_
  refine Ev.iadd (pc := 5) dX10_road_5 ?_
  refine Ev.iload_n (pc := 6) dX10_road_6 rfl ?_
  refine Ev.iadd (pc := 7) dX10_road_7 ?_
  obtain rfl := Option.some.inj h
  exact Ev.iret (pc := 8) dX10_road_8 rfl rfl
theorem dX10_road__0 : decode cX10_road_ 0 = .ok (.iload_n 1, 1) := by decide +kernel
theorem dX10_road__1 : decode cX10_road_ 1 = .ok (.invokestatic 62, 3) := by decide +kernel
theorem dX10_road__4 : decode cX10_road_ 4 = .ok (.ifCond .eq 25, 3) := by decide +kernel
theorem dX10_road__7 : decode cX10_road_ 7 = .ok (.iload_n 2, 1) := by decide +kernel
theorem dX10_road__8 : decode cX10_road_ 8 = .ok (.invokestatic 62, 3) := by decide +kernel
theorem dX10_road__11 : decode cX10_road_ 11 = .ok (.ifCond .eq 18, 3) := by decide +kernel
theorem dX10_road__14 : decode cX10_road_ 14 = .ok (.iload_n 1, 1) := by decide +kernel
theorem dX10_road__15 : decode cX10_road_ 15 = .ok (.iload_n 2, 1) := by decide +kernel
theorem dX10_road__16 : decode cX10_road_ 16 = .ok (.if_icmp .eq 13, 3) := by decide +kernel
theorem dX10_road__19 : decode cX10_road_ 19 = .ok (.iload_n 3, 1) := by decide +kernel
theorem dX10_road__20 : decode cX10_road_ 20 = .ok (.iconst 1, 1) := by decide +kernel
theorem dX10_road__21 : decode cX10_road_ 21 = .ok (.bipush 30, 2) := by decide +kernel
theorem dX10_road__23 : decode cX10_road_ 23 = .ok (.invokestatic 58, 3) := by decide +kernel
theorem dX10_road__26 : decode cX10_road_ 26 = .ok (.ifCond .ne 9, 3) := by decide +kernel
theorem dX10_road__29 : decode cX10_road_ 29 = .ok (.aload_n 0, 1) := by decide +kernel
theorem dX10_road__30 : decode cX10_road_ 30 = .ok (.iconst 1, 1) := by decide +kernel
theorem dX10_road__31 : decode cX10_road_ 31 = .ok (.invokevirtual 66, 3) := by decide +kernel
theorem dX10_road__34 : decode cX10_road_ 34 = .ok (.ireturn, 1) := by decide +kernel
theorem dX10_road__35 : decode cX10_road_ 35 = .ok (.aload_n 0, 1) := by decide +kernel
theorem dX10_road__36 : decode cX10_road_ 36 = .ok (.getfield 7, 3) := by decide +kernel
theorem dX10_road__39 : decode cX10_road_ 39 = .ok (.bipush 7, 2) := by decide +kernel
theorem dX10_road__41 : decode cX10_road_ 41 = .ok (.iaload, 1) := by decide +kernel
theorem dX10_road__42 : decode cX10_road_ 42 = .ok (.bipush 40, 2) := by decide +kernel
theorem dX10_road__44 : decode cX10_road_ 44 = .ok (.if_icmp .ne 9, 3) := by decide +kernel
theorem dX10_road__47 : decode cX10_road_ 47 = .ok (.aload_n 0, 1) := by decide +kernel
theorem dX10_road__48 : decode cX10_road_ 48 = .ok (.iconst 2, 1) := by decide +kernel
theorem dX10_road__49 : decode cX10_road_ 49 = .ok (.invokevirtual 66, 3) := by decide +kernel
theorem dX10_road__52 : decode cX10_road_ 52 = .ok (.ireturn, 1) := by decide +kernel
theorem dX10_road__53 : decode cX10_road_ 53 = .ok (.aload_n 0, 1) := by decide +kernel
theorem dX10_road__54 : decode cX10_road_ 54 = .ok (.getfield 7, 3) := by decide +kernel
theorem dX10_road__57 : decode cX10_road_ 57 = .ok (.bipush 7, 2) := by decide +kernel
theorem dX10_road__59 : decode cX10_road_ 59 = .ok (.iaload, 1) := by decide +kernel
theorem dX10_road__60 : decode cX10_road_ 60 = .ok (.istore 4, 2) := by decide +kernel
theorem dX10_road__62 : decode cX10_road_ 62 = .ok (.aload_n 0, 1) := by decide +kernel
theorem dX10_road__63 : decode cX10_road_ 63 = .ok (.getfield 7, 3) := by decide +kernel
theorem dX10_road__66 : decode cX10_road_ 66 = .ok (.bipush 7, 2) := by decide +kernel
theorem dX10_road__68 : decode cX10_road_ 68 = .ok (.dup2, 1) := by decide +kernel
theorem dX10_road__69 : decode cX10_road_ 69 = .ok (.iaload, 1) := by decide +kernel
theorem dX10_road__70 : decode cX10_road_ 70 = .ok (.iconst 1, 1) := by decide +kernel
theorem dX10_road__71 : decode cX10_road_ 71 = .ok (.iadd, 1) := by decide +kernel
theorem dX10_road__72 : decode cX10_road_ 72 = .ok (.iastore, 1) := by decide +kernel
theorem dX10_road__73 : decode cX10_road_ 73 = .ok (.aload_n 0, 1) := by decide +kernel
theorem dX10_road__74 : decode cX10_road_ 74 = .ok (.getfield 7, 3) := by decide +kernel
theorem dX10_road__77 : decode cX10_road_ 77 = .ok (.iload 4, 2) := by decide +kernel
theorem dX10_road__79 : decode cX10_road_ 79 = .ok (.iconst 0, 1) := by decide +kernel
theorem dX10_road__80 : decode cX10_road_ 80 = .ok (.invokestatic 70, 3) := by decide +kernel
theorem dX10_road__83 : decode cX10_road_ 83 = .ok (.iload_n 1, 1) := by decide +kernel
theorem dX10_road__84 : decode cX10_road_ 84 = .ok (.iastore, 1) := by decide +kernel
theorem dX10_road__85 : decode cX10_road_ 85 = .ok (.aload_n 0, 1) := by decide +kernel
theorem dX10_road__86 : decode cX10_road_ 86 = .ok (.getfield 7, 3) := by decide +kernel
theorem dX10_road__89 : decode cX10_road_ 89 = .ok (.iload 4, 2) := by decide +kernel
theorem dX10_road__91 : decode cX10_road_ 91 = .ok (.iconst 1, 1) := by decide +kernel
theorem dX10_road__92 : decode cX10_road_ 92 = .ok (.invokestatic 70, 3) := by decide +kernel
theorem dX10_road__95 : decode cX10_road_ 95 = .ok (.iload_n 2, 1) := by decide +kernel
theorem dX10_road__96 : decode cX10_road_ 96 = .ok (.iastore, 1) := by decide +kernel
theorem dX10_road__97 : decode cX10_road_ 97 = .ok (.aload_n 0, 1) := by decide +kernel
theorem dX10_road__98 : decode cX10_road_ 98 = .ok (.getfield 7, 3) := by decide +kernel
theorem dX10_road__101 : decode cX10_road_ 101 = .ok (.iload 4, 2) := by decide +kernel
theorem dX10_road__103 : decode cX10_road_ 103 = .ok (.iconst 2, 1) := by decide +kernel
theorem dX10_road__104 : decode cX10_road_ 104 = .ok (.invokestatic 70, 3) := by decide +kernel
theorem dX10_road__107 : decode cX10_road_ 107 = .ok (.iload_n 3, 1) := by decide +kernel
theorem dX10_road__108 : decode cX10_road_ 108 = .ok (.iastore, 1) := by decide +kernel
theorem dX10_road__109 : decode cX10_road_ 109 = .ok (.iload 4, 2) := by decide +kernel
theorem dX10_road__111 : decode cX10_road_ 111 = .ok (.ireturn, 1) := by decide +kernel
def F_X10_road_ (x1 : Int32) (x2 : Int32) (x3 : Int32) (M : eMem) : Option (Int32 × eMem) :=
  (F_X10_isCell x1).bind fun q1 =>
  if q1 = 0 then
    (F_X10_finding 1 M).bind fun q2 =>
    some (q2.1, q2.2)
  else
    (F_X10_isCell x2).bind fun q3 =>
    if q3 = 0 then
      (F_X10_finding 1 M).bind fun q4 =>
      some (q4.1, q4.2)
    else
      if x1 = x2 then
        (F_X10_finding 1 M).bind fun q5 =>
        some (q5.1, q5.2)
      else
        (F_X10_in x3 1 30).bind fun q6 =>
        if q6 = 0 then
          (F_X10_finding 1 M).bind fun q11 =>
          some (q11.1, q11.2)
        else
          if (M.1 1 7) = 40 then
            (F_X10_finding 2 M).bind fun q10 =>
            some (q10.1, q10.2)
          else
            (F_X10_road (M.1 1 7) 0).bind fun q7 =>
            eG (eIn q7 2900) <|
            (F_X10_road (M.1 1 7) 1).bind fun q8 =>
            eG (eIn q8 2900) <|
            (F_X10_road (M.1 1 7) 2).bind fun q9 =>
            eG (eIn q9 2900) <|
            some ((M.1 1 7), (eI (eI (eI (eI M 1 7 ((M.1 1 7) + 1)) 1 q7.toNatClampNeg x1) 1 q8.toNatClampNeg x2) 1 q9.toNatClampNeg x3))
set_option maxRecDepth 100000 in
set_option maxHeartbeats 4000000 in
theorem ev_X10_road_ (x1 : Int32) (x2 : Int32) (x3 : Int32) (M : eMem) (q : (Int32 × eMem)) (h : F_X10_road_ x1 x2 x3 M = some q) : Ev layR 2 m_X10_road_ 0 [some (.ref 0), some (.int x1), some (.int x2), some (.int x3), none] [] M (some (.int q.1), q.2) := by
  rw [F_X10_road_] at h
  refine Ev.iload_n (pc := 0) dX10_road__0 rfl ?_
  refine eBk h (fun q1 hq1 h => ?_)
  refine Ev.callS (pc := 1) (as := [.int x1]) (st := []) (z := 0) dX10_road__1 wc_X10_isCell ml_RX10_62 sm_X10_isCell (ev_X10_isCell x1 M _ hq1) rfl rfl (by decide) rfl rfl (Nat.le_of_ble_eq_true rfl) ?_
  refine Ev.if_eq (pc := 4) (tgt := 29) dX10_road__4 (by decide) (fun c9 => ?_) (fun c9 => ?_)
  · have h := eT h c9
    refine Ev.aload_n (pc := 29) dX10_road__29 rfl ?_
    refine Ev.iconst (pc := 30) dX10_road__30 (v := 1) (by decide) ?_
    refine eBk h (fun q2 hq2 h => ?_)
    refine Ev.callV (pc := 31) (as := [.int 1]) (st := []) (z := 0) dX10_road__31 wc_X10_finding ml_RX10_66 im_X10_finding se_X10_finding lR_0 rfl rfl (ev_X10_finding 1 M _ hq2) rfl rfl (by decide) rfl rfl (Nat.le_of_ble_eq_true rfl) ?_
    obtain rfl := Option.some.inj h
    exact Ev.iret (pc := 34) dX10_road__34 rfl rfl
  · have h := eF h c9
    refine Ev.iload_n (pc := 7) dX10_road__7 rfl ?_
    refine eBk h (fun q3 hq3 h => ?_)
    refine Ev.callS (pc := 8) (as := [.int x2]) (st := []) (z := 0) dX10_road__8 wc_X10_isCell ml_RX10_62 sm_X10_isCell (ev_X10_isCell x2 M _ hq3) rfl rfl (by decide) rfl rfl (Nat.le_of_ble_eq_true rfl) ?_
    refine Ev.if_eq (pc := 11) (tgt := 29) dX10_road__11 (by decide) (fun c9 => ?_) (fun c9 => ?_)
    · have h := eT h c9
      refine Ev.aload_n (pc := 29) dX10_road__29 rfl ?_
      refine Ev.iconst (pc := 30) dX10_road__30 (v := 1) (by decide) ?_
      refine eBk h (fun q4 hq4 h => ?_)
      refine Ev.callV (pc := 31) (as := [.int 1]) (st := []) (z := 0) dX10_road__31 wc_X10_finding ml_RX10_66 im_X10_finding se_X10_finding lR_0 rfl rfl (ev_X10_finding 1 M _ hq4) rfl rfl (by decide) rfl rfl (Nat.le_of_ble_eq_true rfl) ?_
      obtain rfl := Option.some.inj h
      exact Ev.iret (pc := 34) dX10_road__34 rfl rfl
    · have h := eF h c9
      refine Ev.iload_n (pc := 14) dX10_road__14 rfl ?_
      refine Ev.iload_n (pc := 15) dX10_road__15 rfl ?_
      refine Ev.icmp_eq (pc := 16) (tgt := 29) dX10_road__16 (by decide) (fun c9 => ?_) (fun c9 => ?_)
      · have h := eT h c9
        refine Ev.aload_n (pc := 29) dX10_road__29 rfl ?_
        refine Ev.iconst (pc := 30) dX10_road__30 (v := 1) (by decide) ?_
        refine eBk h (fun q5 hq5 h => ?_)
        refine Ev.callV (pc := 31) (as := [.int 1]) (st := []) (z := 0) dX10_road__31 wc_X10_finding ml_RX10_66 im_X10_finding se_X10_finding lR_0 rfl rfl (ev_X10_finding 1 M _ hq5) rfl rfl (by decide) rfl rfl (Nat.le_of_ble_eq_true rfl) ?_
        obtain rfl := Option.some.inj h
        exact Ev.iret (pc := 34) dX10_road__34 rfl rfl
      · have h := eF h c9
        refine Ev.iload_n (pc := 19) dX10_road__19 rfl ?_
        refine Ev.iconst (pc := 20) dX10_road__20 (v := 1) (by decide) ?_
        refine Ev.bipush (pc := 21) dX10_road__21 (v := 30) (by decide) ?_
        refine eBk h (fun q6 hq6 h => ?_)
        refine Ev.callS (pc := 23) (as := [.int x3, .int 1, .int 30]) (st := []) (z := 0) dX10_road__23 wc_X10_in ml_RX10_58 sm_X10_in (ev_X10_in x3 1 30 M _ hq6) rfl rfl (by decide) rfl rfl (Nat.le_of_ble_eq_true rfl) ?_
        refine Ev.if_ne (pc := 26) (tgt := 35) dX10_road__26 (by decide) (fun c9 => ?_) (fun c9 => ?_)
        · have h := eF h c9
          refine Ev.aload_n (pc := 35) dX10_road__35 rfl ?_
          refine Ev.getR (pc := 36) dX10_road__36 fl_RX10_7 lR_0 rfl ?_
          refine Ev.bipush (pc := 39) dX10_road__39 (v := 7) (by decide) ?_
          refine Ev.ialdj (pc := 41) dX10_road__41 (j := 7) lR_1 (by decide) (by decide) ?_
          refine Ev.bipush (pc := 42) dX10_road__42 (v := 40) (by decide) ?_
          refine Ev.icmp_ne (pc := 44) (tgt := 53) dX10_road__44 (by decide) (fun c9 => ?_) (fun c9 => ?_)
          · have h := eF h c9
            refine Ev.aload_n (pc := 53) dX10_road__53 rfl ?_
            refine Ev.getR (pc := 54) dX10_road__54 fl_RX10_7 lR_0 rfl ?_
            refine Ev.bipush (pc := 57) dX10_road__57 (v := 7) (by decide) ?_
            refine Ev.ialdj (pc := 59) dX10_road__59 (j := 7) lR_1 (by decide) (by decide) ?_
            refine Ev.istore (pc := 60) dX10_road__60 (by decide) rfl rfl ?_
            refine Ev.aload_n (pc := 62) dX10_road__62 rfl ?_
            refine Ev.getR (pc := 63) dX10_road__63 fl_RX10_7 lR_0 rfl ?_
            refine Ev.bipush (pc := 66) dX10_road__66 (v := 7) (by decide) ?_
            refine Ev.dup2 (pc := 68) dX10_road__68 rfl rfl ?_
            refine Ev.ialdj (pc := 69) dX10_road__69 (j := 7) lR_1 (by decide) (by decide) ?_
            refine Ev.iconst (pc := 70) dX10_road__70 (v := 1) (by decide) ?_
            refine Ev.iadd (pc := 71) dX10_road__71 ?_
            refine Ev.iastj (pc := 72) dX10_road__72 (j := 7) lR_1 (by decide) (by decide) ?_
            refine Ev.aload_n (pc := 73) dX10_road__73 rfl ?_
            refine Ev.getR (pc := 74) dX10_road__74 fl_RX10_7 lR_0 rfl ?_
            refine Ev.iload (pc := 77) dX10_road__77 rfl ?_
            refine Ev.iconst (pc := 79) dX10_road__79 (v := 0) (by decide) ?_
            refine eBk h (fun q7 hq7 h => ?_)
            refine Ev.callS (pc := 80) (as := [.int (M.1 1 7), .int 0]) (st := [.ref 1]) (z := 0) dX10_road__80 wc_X10_road ml_RX10_70 sm_X10_road (ev_X10_road (M.1 1 7) 0 (eI M 1 7 ((M.1 1 7) + 1)) _ hq7) rfl rfl (by decide) rfl rfl (Nat.le_of_ble_eq_true rfl) ?_
            refine Ev.iload_n (pc := 83) dX10_road__83 rfl ?_
            obtain ⟨g9, h⟩ := eGdB h
            refine Ev.iastj (pc := 84) dX10_road__84 (j := q7.toNatClampNeg) lR_1 g9 rfl ?_
            refine Ev.aload_n (pc := 85) dX10_road__85 rfl ?_
            refine Ev.getR (pc := 86) dX10_road__86 fl_RX10_7 lR_0 rfl ?_
            refine Ev.iload (pc := 89) dX10_road__89 rfl ?_
            refine Ev.iconst (pc := 91) dX10_road__91 (v := 1) (by decide) ?_
            refine eBk h (fun q8 hq8 h => ?_)
            refine Ev.callS (pc := 92) (as := [.int (M.1 1 7), .int 1]) (st := [.ref 1]) (z := 0) dX10_road__92 wc_X10_road ml_RX10_70 sm_X10_road (ev_X10_road (M.1 1 7) 1 (eI (eI M 1 7 ((M.1 1 7) + 1)) 1 q7.toNatClampNeg x1) _ hq8) rfl rfl (by decide) rfl rfl (Nat.le_of_ble_eq_true rfl) ?_
            refine Ev.iload_n (pc := 95) dX10_road__95 rfl ?_
            obtain ⟨g9, h⟩ := eGdB h
            refine Ev.iastj (pc := 96) dX10_road__96 (j := q8.toNatClampNeg) lR_1 g9 rfl ?_
            refine Ev.aload_n (pc := 97) dX10_road__97 rfl ?_
            refine Ev.getR (pc := 98) dX10_road__98 fl_RX10_7 lR_0 rfl ?_
            refine Ev.iload (pc := 101) dX10_road__101 rfl ?_
            refine Ev.iconst (pc := 103) dX10_road__103 (v := 2) (by decide) ?_
            refine eBk h (fun q9 hq9 h => ?_)
            refine Ev.callS (pc := 104) (as := [.int (M.1 1 7), .int 2]) (st := [.ref 1]) (z := 0) dX10_road__104 wc_X10_road ml_RX10_70 sm_X10_road (ev_X10_road (M.1 1 7) 2 (eI (eI (eI M 1 7 ((M.1 1 7) + 1)) 1 q7.toNatClampNeg x1) 1 q8.toNatClampNeg x2) _ hq9) rfl rfl (by decide) rfl rfl (Nat.le_of_ble_eq_true rfl) ?_
            refine Ev.iload_n (pc := 107) dX10_road__107 rfl ?_
            obtain ⟨g9, h⟩ := eGdB h
            refine Ev.iastj (pc := 108) dX10_road__108 (j := q9.toNatClampNeg) lR_1 g9 rfl ?_
            refine Ev.iload (pc := 109) dX10_road__109 rfl ?_
            obtain rfl := Option.some.inj h
            exact Ev.iret (pc := 111) dX10_road__111 rfl rfl
          · have h := eT h c9
            refine Ev.aload_n (pc := 47) dX10_road__47 rfl ?_
            refine Ev.iconst (pc := 48) dX10_road__48 (v := 2) (by decide) ?_
            refine eBk h (fun q10 hq10 h => ?_)
            refine Ev.callV (pc := 49) (as := [.int 2]) (st := []) (z := 0) dX10_road__49 wc_X10_finding ml_RX10_66 im_X10_finding se_X10_finding lR_0 rfl rfl (ev_X10_finding 2 M _ hq10) rfl rfl (by decide) rfl rfl (Nat.le_of_ble_eq_true rfl) ?_
            obtain rfl := Option.some.inj h
            exact Ev.iret (pc := 52) dX10_road__52 rfl rfl
        · have h := eT h c9
          refine Ev.aload_n (pc := 29) dX10_road__29 rfl ?_
          refine Ev.iconst (pc := 30) dX10_road__30 (v := 1) (by decide) ?_
          refine eBk h (fun q11 hq11 h => ?_)
          refine Ev.callV (pc := 31) (as := [.int 1]) (st := []) (z := 0) dX10_road__31 wc_X10_finding ml_RX10_66 im_X10_finding se_X10_finding lR_0 rfl rfl (ev_X10_finding 1 M _ hq11) rfl rfl (by decide) rfl rfl (Nat.le_of_ble_eq_true rfl) ?_
          obtain rfl := Option.some.inj h
          exact Ev.iret (pc := 34) dX10_road__34 rfl rfl
theorem dX0_addUnit_0 : decode cX0_addUnit 0 = .ok (.aload_n 0, 1) := by decide +kernel
theorem dX0_addUnit_1 : decode cX0_addUnit 1 = .ok (.getfield 47, 3) := by decide +kernel
theorem dX0_addUnit_4 : decode cX0_addUnit 4 = .ok (.bipush 12, 2) := by decide +kernel
theorem dX0_addUnit_6 : decode cX0_addUnit 6 = .ok (.invokestatic 43, 3) := by decide +kernel
theorem dX0_addUnit_9 : decode cX0_addUnit 9 = .ok (.ifCond .ne 5, 3) := by decide +kernel
theorem dX0_addUnit_12 : decode cX0_addUnit 12 = .ok (.iconst (-1), 1) := by decide +kernel
theorem dX0_addUnit_13 : decode cX0_addUnit 13 = .ok (.ireturn, 1) := by decide +kernel
theorem dX0_addUnit_14 : decode cX0_addUnit 14 = .ok (.aload_n 0, 1) := by decide +kernel
theorem dX0_addUnit_15 : decode cX0_addUnit 15 = .ok (.getfield 24, 3) := by decide +kernel
theorem dX0_addUnit_18 : decode cX0_addUnit 18 = .ok (.aload_n 0, 1) := by decide +kernel
theorem dX0_addUnit_19 : decode cX0_addUnit 19 = .ok (.getfield 47, 3) := by decide +kernel
theorem dX0_addUnit_22 : decode cX0_addUnit 22 = .ok (.iload_n 1, 1) := by decide +kernel
theorem dX0_addUnit_23 : decode cX0_addUnit 23 = .ok (.iastore, 1) := by decide +kernel
theorem dX0_addUnit_24 : decode cX0_addUnit 24 = .ok (.aload_n 0, 1) := by decide +kernel
theorem dX0_addUnit_25 : decode cX0_addUnit 25 = .ok (.getfield 27, 3) := by decide +kernel
theorem dX0_addUnit_28 : decode cX0_addUnit 28 = .ok (.aload_n 0, 1) := by decide +kernel
theorem dX0_addUnit_29 : decode cX0_addUnit 29 = .ok (.getfield 47, 3) := by decide +kernel
theorem dX0_addUnit_32 : decode cX0_addUnit 32 = .ok (.iload_n 2, 1) := by decide +kernel
theorem dX0_addUnit_33 : decode cX0_addUnit 33 = .ok (.iastore, 1) := by decide +kernel
theorem dX0_addUnit_34 : decode cX0_addUnit 34 = .ok (.aload_n 0, 1) := by decide +kernel
theorem dX0_addUnit_35 : decode cX0_addUnit 35 = .ok (.getfield 30, 3) := by decide +kernel
theorem dX0_addUnit_38 : decode cX0_addUnit 38 = .ok (.aload_n 0, 1) := by decide +kernel
theorem dX0_addUnit_39 : decode cX0_addUnit 39 = .ok (.getfield 47, 3) := by decide +kernel
theorem dX0_addUnit_42 : decode cX0_addUnit 42 = .ok (.iconst (-1), 1) := by decide +kernel
theorem dX0_addUnit_43 : decode cX0_addUnit 43 = .ok (.iastore, 1) := by decide +kernel
theorem dX0_addUnit_44 : decode cX0_addUnit 44 = .ok (.aload_n 0, 1) := by decide +kernel
theorem dX0_addUnit_45 : decode cX0_addUnit 45 = .ok (.getfield 33, 3) := by decide +kernel
theorem dX0_addUnit_48 : decode cX0_addUnit 48 = .ok (.aload_n 0, 1) := by decide +kernel
theorem dX0_addUnit_49 : decode cX0_addUnit 49 = .ok (.getfield 47, 3) := by decide +kernel
theorem dX0_addUnit_52 : decode cX0_addUnit 52 = .ok (.iconst 0, 1) := by decide +kernel
theorem dX0_addUnit_53 : decode cX0_addUnit 53 = .ok (.iastore, 1) := by decide +kernel
theorem dX0_addUnit_54 : decode cX0_addUnit 54 = .ok (.aload_n 0, 1) := by decide +kernel
theorem dX0_addUnit_55 : decode cX0_addUnit 55 = .ok (.dup, 1) := by decide +kernel
theorem dX0_addUnit_56 : decode cX0_addUnit 56 = .ok (.getfield 47, 3) := by decide +kernel
theorem dX0_addUnit_59 : decode cX0_addUnit 59 = .ok (.dup_x1, 1) := by decide +kernel
theorem dX0_addUnit_60 : decode cX0_addUnit 60 = .ok (.iconst 1, 1) := by decide +kernel
theorem dX0_addUnit_61 : decode cX0_addUnit 61 = .ok (.iadd, 1) := by decide +kernel
theorem dX0_addUnit_62 : decode cX0_addUnit 62 = .ok (.putfield 47, 3) := by decide +kernel
theorem dX0_addUnit_65 : decode cX0_addUnit 65 = .ok (.ireturn, 1) := by decide +kernel
def F_X0_addUnit (x1 : Int32) (x2 : Int32) (M : eMem) : Option (Int32 × eMem) :=
  (F_X9_isIn (M.1 2 9) 12).bind fun q1 =>
  if q1 = 0 then
    some ((-1), M)
  else
    eG (eIn (M.1 2 9) 12) <|
    eG (eIn (M.1 2 9) 12) <|
    eG (eIn (M.1 2 9) 12) <|
    eG (eIn (M.1 2 9) 12) <|
    some ((M.1 2 9), (eI (eI (eI (eI (eI M 7 (M.1 2 9).toNatClampNeg x1) 8 (M.1 2 9).toNatClampNeg x2) 9 (M.1 2 9).toNatClampNeg (-1)) 10 (M.1 2 9).toNatClampNeg 0) 2 9 ((M.1 2 9) + 1)))
set_option maxRecDepth 100000 in
set_option maxHeartbeats 4000000 in
theorem ev_X0_addUnit (x1 : Int32) (x2 : Int32) (M : eMem) (q : (Int32 × eMem)) (h : F_X0_addUnit x1 x2 M = some q) : Ev layC 1 m_X0_addUnit 0 [some (.ref 2), some (.int x1), some (.int x2)] [] M (some (.int q.1), q.2) := by
  rw [F_X0_addUnit] at h
  refine Ev.aload_n (pc := 0) dX0_addUnit_0 rfl ?_
  refine Ev.getI (pc := 1) dX0_addUnit_1 fl_RX0_47 lC_2 rfl ?_
  refine Ev.bipush (pc := 4) dX0_addUnit_4 (v := 12) (by decide) ?_
  refine eBk h (fun q1 hq1 h => ?_)
  refine Ev.callSN (host := "GhostCoast") (pc := 6) (as := [.int (M.1 2 9), .int 12]) (st := []) (z := 0) dX0_addUnit_6 wc_X9_isIn mn_RX0_43 sm_X9_isIn (ev_X9_isIn (M.1 2 9) 12 M _ hq1) rfl rfl (by decide) rfl rfl (Nat.le_of_ble_eq_true rfl) ?_
  refine Ev.if_ne (pc := 9) (tgt := 14) dX0_addUnit_9 (by decide) (fun c9 => ?_) (fun c9 => ?_)
  · have h := eF h c9
    refine Ev.aload_n (pc := 14) dX0_addUnit_14 rfl ?_
    refine Ev.getR (pc := 15) dX0_addUnit_15 fl_RX0_24 lC_2 rfl ?_
    refine Ev.aload_n (pc := 18) dX0_addUnit_18 rfl ?_
    refine Ev.getI (pc := 19) dX0_addUnit_19 fl_RX0_47 lC_2 rfl ?_
    refine Ev.iload_n (pc := 22) dX0_addUnit_22 rfl ?_
    obtain ⟨g9, h⟩ := eGdB h
    refine Ev.iastj (pc := 23) dX0_addUnit_23 (j := (M.1 2 9).toNatClampNeg) lC_7 g9 rfl ?_
    refine Ev.aload_n (pc := 24) dX0_addUnit_24 rfl ?_
    refine Ev.getR (pc := 25) dX0_addUnit_25 fl_RX0_27 lC_2 rfl ?_
    refine Ev.aload_n (pc := 28) dX0_addUnit_28 rfl ?_
    refine Ev.getIv (pc := 29) dX0_addUnit_29 (v := (M.1 2 9)) fl_RX0_47 lC_2 rfl (eI_n (by decide)) ?_
    refine Ev.iload_n (pc := 32) dX0_addUnit_32 rfl ?_
    obtain ⟨g9, h⟩ := eGdB h
    refine Ev.iastj (pc := 33) dX0_addUnit_33 (j := (M.1 2 9).toNatClampNeg) lC_8 g9 rfl ?_
    refine Ev.aload_n (pc := 34) dX0_addUnit_34 rfl ?_
    refine Ev.getR (pc := 35) dX0_addUnit_35 fl_RX0_30 lC_2 rfl ?_
    refine Ev.aload_n (pc := 38) dX0_addUnit_38 rfl ?_
    refine Ev.getIv (pc := 39) dX0_addUnit_39 (v := (M.1 2 9)) fl_RX0_47 lC_2 rfl ((eI_n (by decide)).trans (eI_n (by decide))) ?_
    refine Ev.iconst (pc := 42) dX0_addUnit_42 (v := (-1)) (by decide) ?_
    obtain ⟨g9, h⟩ := eGdB h
    refine Ev.iastj (pc := 43) dX0_addUnit_43 (j := (M.1 2 9).toNatClampNeg) lC_9 g9 rfl ?_
    refine Ev.aload_n (pc := 44) dX0_addUnit_44 rfl ?_
    refine Ev.getR (pc := 45) dX0_addUnit_45 fl_RX0_33 lC_2 rfl ?_
    refine Ev.aload_n (pc := 48) dX0_addUnit_48 rfl ?_
    refine Ev.getIv (pc := 49) dX0_addUnit_49 (v := (M.1 2 9)) fl_RX0_47 lC_2 rfl ((eI_n (by decide)).trans ((eI_n (by decide)).trans (eI_n (by decide)))) ?_
    refine Ev.iconst (pc := 52) dX0_addUnit_52 (v := 0) (by decide) ?_
    obtain ⟨g9, h⟩ := eGdB h
    refine Ev.iastj (pc := 53) dX0_addUnit_53 (j := (M.1 2 9).toNatClampNeg) lC_10 g9 rfl ?_
    refine Ev.aload_n (pc := 54) dX0_addUnit_54 rfl ?_
    refine Ev.dup (pc := 55) dX0_addUnit_55 rfl ?_
    refine Ev.getIv (pc := 56) dX0_addUnit_56 (v := (M.1 2 9)) fl_RX0_47 lC_2 rfl ((eI_n (by decide)).trans ((eI_n (by decide)).trans ((eI_n (by decide)).trans (eI_n (by decide))))) ?_
    refine Ev.dup_x1 (pc := 59) dX0_addUnit_59 rfl rfl ?_
    refine Ev.iconst (pc := 60) dX0_addUnit_60 (v := 1) (by decide) ?_
    refine Ev.iadd (pc := 61) dX0_addUnit_61 ?_
    refine Ev.putI (pc := 62) dX0_addUnit_62 fp_RX0_47 lC_2 rfl rfl rfl ?_
    obtain rfl := Option.some.inj h
    exact Ev.iret (pc := 65) dX0_addUnit_65 rfl rfl
  · have h := eT h c9
    refine Ev.iconst (pc := 12) dX0_addUnit_12 (v := (-1)) (by decide) ?_
    obtain rfl := Option.some.inj h
    exact Ev.iret (pc := 13) dX0_addUnit_13 rfl rfl
theorem dX9_unit_0 : decode cX9_unit 0 = .ok (.iload_n 1, 1) := by decide +kernel
theorem dX9_unit_1 : decode cX9_unit 1 = .ok (.bipush 96, 2) := by decide +kernel
theorem dX9_unit_3 : decode cX9_unit 3 = .ok (.invokestatic 37, 3) := by decide +kernel
theorem dX9_unit_6 : decode cX9_unit 6 = .ok (.ifCond .eq 13, 3) := by decide +kernel
theorem dX9_unit_9 : decode cX9_unit 9 = .ok (.iload_n 2, 1) := by decide +kernel
theorem dX9_unit_10 : decode cX9_unit 10 = .ok (.iconst 1, 1) := by decide +kernel
theorem dX9_unit_11 : decode cX9_unit 11 = .ok (.bipush 90, 2) := by decide +kernel
theorem dX9_unit_13 : decode cX9_unit 13 = .ok (.invokestatic 55, 3) := by decide +kernel
theorem dX9_unit_16 : decode cX9_unit 16 = .ok (.ifCond .ne 10, 3) := by decide +kernel
theorem dX9_unit_19 : decode cX9_unit 19 = .ok (.aload_n 0, 1) := by decide +kernel
theorem dX9_unit_20 : decode cX9_unit 20 = .ok (.ldc 41, 2) := by decide +kernel
theorem dX9_unit_22 : decode cX9_unit 22 = .ok (.invokevirtual 42, 3) := by decide +kernel
theorem dX9_unit_25 : decode cX9_unit 25 = .ok (.ireturn, 1) := by decide +kernel
theorem dX9_unit_26 : decode cX9_unit 26 = .ok (.aload_n 0, 1) := by decide +kernel
theorem dX9_unit_27 : decode cX9_unit 27 = .ok (.getfield 12, 3) := by decide +kernel
theorem dX9_unit_30 : decode cX9_unit 30 = .ok (.getfield 46, 3) := by decide +kernel
theorem dX9_unit_33 : decode cX9_unit 33 = .ok (.getfield 68, 3) := by decide +kernel
theorem dX9_unit_36 : decode cX9_unit 36 = .ok (.bipush 12, 2) := by decide +kernel
theorem dX9_unit_38 : decode cX9_unit 38 = .ok (.if_icmp .lt 10, 3) := by decide +kernel
theorem dX9_unit_41 : decode cX9_unit 41 = .ok (.aload_n 0, 1) := by decide +kernel
theorem dX9_unit_42 : decode cX9_unit 42 = .ok (.ldc 63, 2) := by decide +kernel
theorem dX9_unit_44 : decode cX9_unit 44 = .ok (.invokevirtual 42, 3) := by decide +kernel
theorem dX9_unit_47 : decode cX9_unit 47 = .ok (.ireturn, 1) := by decide +kernel
theorem dX9_unit_48 : decode cX9_unit 48 = .ok (.aload_n 0, 1) := by decide +kernel
theorem dX9_unit_49 : decode cX9_unit 49 = .ok (.getfield 12, 3) := by decide +kernel
theorem dX9_unit_52 : decode cX9_unit 52 = .ok (.getfield 46, 3) := by decide +kernel
theorem dX9_unit_55 : decode cX9_unit 55 = .ok (.iload_n 1, 1) := by decide +kernel
theorem dX9_unit_56 : decode cX9_unit 56 = .ok (.iload_n 2, 1) := by decide +kernel
theorem dX9_unit_57 : decode cX9_unit 57 = .ok (.invokevirtual 71, 3) := by decide +kernel
theorem dX9_unit_60 : decode cX9_unit 60 = .ok (.ireturn, 1) := by decide +kernel
def F_X9_unit (x1 : Int32) (x2 : Int32) (M : eMem) : Option (Int32 × eMem) :=
  (F_X9_isIn x1 96).bind fun q1 =>
  if q1 = 0 then
    (F_X9_found (-1000001) M).bind fun q2 =>
    some (q2.1, q2.2)
  else
    (F_X9_isBetween x2 1 90).bind fun q3 =>
    if q3 = 0 then
      (F_X9_found (-1000001) M).bind fun q6 =>
      some (q6.1, q6.2)
    else
      if (M.1 2 9) < 12 then
        (F_X0_addUnit x1 x2 M).bind fun q4 =>
        some (q4.1, q4.2)
      else
        (F_X9_found (-1000002) M).bind fun q5 =>
        some (q5.1, q5.2)
set_option maxRecDepth 100000 in
set_option maxHeartbeats 4000000 in
theorem ev_X9_unit (x1 : Int32) (x2 : Int32) (M : eMem) (q : (Int32 × eMem)) (h : F_X9_unit x1 x2 M = some q) : Ev layC 2 m_X9_unit 0 [some (.ref 0), some (.int x1), some (.int x2)] [] M (some (.int q.1), q.2) := by
  rw [F_X9_unit] at h
  refine Ev.iload_n (pc := 0) dX9_unit_0 rfl ?_
  refine Ev.bipush (pc := 1) dX9_unit_1 (v := 96) (by decide) ?_
  refine eBk h (fun q1 hq1 h => ?_)
  refine Ev.callS (pc := 3) (as := [.int x1, .int 96]) (st := []) (z := 0) dX9_unit_3 wc_X9_isIn ml_RX9_37 sm_X9_isIn (ev_X9_isIn x1 96 M _ hq1) rfl rfl (by decide) rfl rfl (Nat.le_of_ble_eq_true rfl) ?_
  refine Ev.if_eq (pc := 6) (tgt := 19) dX9_unit_6 (by decide) (fun c9 => ?_) (fun c9 => ?_)
  · have h := eT h c9
    refine Ev.aload_n (pc := 19) dX9_unit_19 rfl ?_
    refine Ev.ldc (pc := 20) dX9_unit_20 ld_RX9_41 ?_
    refine eBk h (fun q2 hq2 h => ?_)
    refine Ev.callV (pc := 22) (as := [.int (-1000001)]) (st := []) (z := 1) dX9_unit_22 wc_X9_found ml_RX9_42 im_X9_found se_X9_found lC_0 rfl rfl (ev_X9_found (-1000001) M _ hq2) rfl rfl (by decide) rfl rfl (Nat.le_of_ble_eq_true rfl) ?_
    obtain rfl := Option.some.inj h
    exact Ev.iret (pc := 25) dX9_unit_25 rfl rfl
  · have h := eF h c9
    refine Ev.iload_n (pc := 9) dX9_unit_9 rfl ?_
    refine Ev.iconst (pc := 10) dX9_unit_10 (v := 1) (by decide) ?_
    refine Ev.bipush (pc := 11) dX9_unit_11 (v := 90) (by decide) ?_
    refine eBk h (fun q3 hq3 h => ?_)
    refine Ev.callS (pc := 13) (as := [.int x2, .int 1, .int 90]) (st := []) (z := 0) dX9_unit_13 wc_X9_isBetween ml_RX9_55 sm_X9_isBetween (ev_X9_isBetween x2 1 90 M _ hq3) rfl rfl (by decide) rfl rfl (Nat.le_of_ble_eq_true rfl) ?_
    refine Ev.if_ne (pc := 16) (tgt := 26) dX9_unit_16 (by decide) (fun c9 => ?_) (fun c9 => ?_)
    · have h := eF h c9
      refine Ev.aload_n (pc := 26) dX9_unit_26 rfl ?_
      refine Ev.getR (pc := 27) dX9_unit_27 fl_RX9_12 lC_0 rfl ?_
      refine Ev.getR (pc := 30) dX9_unit_30 fl_RX9_46 lC_1 rfl ?_
      refine Ev.getI (pc := 33) dX9_unit_33 fl_RX9_68 lC_2 rfl ?_
      refine Ev.bipush (pc := 36) dX9_unit_36 (v := 12) (by decide) ?_
      refine Ev.icmp_lt (pc := 38) (tgt := 48) dX9_unit_38 (by decide) (fun c9 => ?_) (fun c9 => ?_)
      · have h := eT h c9
        refine Ev.aload_n (pc := 48) dX9_unit_48 rfl ?_
        refine Ev.getR (pc := 49) dX9_unit_49 fl_RX9_12 lC_0 rfl ?_
        refine Ev.getR (pc := 52) dX9_unit_52 fl_RX9_46 lC_1 rfl ?_
        refine Ev.iload_n (pc := 55) dX9_unit_55 rfl ?_
        refine Ev.iload_n (pc := 56) dX9_unit_56 rfl ?_
        refine eBk h (fun q4 hq4 h => ?_)
        refine Ev.callV (pc := 57) (as := [.int x1, .int x2]) (st := []) (z := 0) dX9_unit_57 wc_X0_addUnit ml_RX9_71 im_X0_addUnit se_X0_addUnit lC_2 rfl rfl (ev_X0_addUnit x1 x2 M _ hq4) rfl rfl (by decide) rfl rfl (Nat.le_of_ble_eq_true rfl) ?_
        obtain rfl := Option.some.inj h
        exact Ev.iret (pc := 60) dX9_unit_60 rfl rfl
      · have h := eF h c9
        refine Ev.aload_n (pc := 41) dX9_unit_41 rfl ?_
        refine Ev.ldc (pc := 42) dX9_unit_42 ld_RX9_63 ?_
        refine eBk h (fun q5 hq5 h => ?_)
        refine Ev.callV (pc := 44) (as := [.int (-1000002)]) (st := []) (z := 1) dX9_unit_44 wc_X9_found ml_RX9_42 im_X9_found se_X9_found lC_0 rfl rfl (ev_X9_found (-1000002) M _ hq5) rfl rfl (by decide) rfl rfl (Nat.le_of_ble_eq_true rfl) ?_
        obtain rfl := Option.some.inj h
        exact Ev.iret (pc := 47) dX9_unit_47 rfl rfl
    · have h := eT h c9
      refine Ev.aload_n (pc := 19) dX9_unit_19 rfl ?_
      refine Ev.ldc (pc := 20) dX9_unit_20 ld_RX9_41 ?_
      refine eBk h (fun q6 hq6 h => ?_)
      refine Ev.callV (pc := 22) (as := [.int (-1000001)]) (st := []) (z := 1) dX9_unit_22 wc_X9_found ml_RX9_42 im_X9_found se_X9_found lC_0 rfl rfl (ev_X9_found (-1000001) M _ hq6) rfl rfl (by decide) rfl rfl (Nat.le_of_ble_eq_true rfl) ?_
      obtain rfl := Option.some.inj h
      exact Ev.iret (pc := 25) dX9_unit_25 rfl rfl
theorem dX10_unitAt_0 : decode cX10_unitAt 0 = .ok (.sipush 230, 3) := by decide +kernel
theorem dX10_unitAt_3 : decode cX10_unitAt 3 = .ok (.iconst 5, 1) := by decide +kernel
theorem dX10_unitAt_4 : decode cX10_unitAt 4 = .ok (.iload_n 0, 1) := by decide +kernel
theorem dX10_unitAt_5 : decode cX10_unitAt 5 = .ok (.imul, 1) := by decide +kernel
theorem dX10_unitAt_6 : decode cX10_unitAt 6 = .ok (.iadd, 1) := by decide +kernel
theorem dX10_unitAt_7 : decode cX10_unitAt 7 = .ok (.iload_n 1, 1) := by decide +kernel
theorem dX10_unitAt_8 : decode cX10_unitAt 8 = .ok (.iadd, 1) := by decide +kernel
theorem dX10_unitAt_9 : decode cX10_unitAt 9 = .ok (.ireturn, 1) := by decide +kernel
def F_X10_unitAt (x0 : Int32) (x1 : Int32) : Option Int32 :=
  some ((230 + (5 * x0)) + x1)
set_option maxRecDepth 100000 in
set_option maxHeartbeats 4000000 in
theorem ev_X10_unitAt {lay : List eLC} (x0 : Int32) (x1 : Int32) (M : eMem) (q : Int32) (h : F_X10_unitAt x0 x1 = some q) : Ev lay 0 m_X10_unitAt 0 [some (.int x0), some (.int x1)] [] M (some (.int q), M) := by
  rw [F_X10_unitAt] at h
  refine Ev.sipush (pc := 0) dX10_unitAt_0 (v := 230) (by decide) ?_
  refine Ev.iconst (pc := 3) dX10_unitAt_3 (v := 5) (by decide) ?_
  refine Ev.iload_n (pc := 4) dX10_unitAt_4 rfl ?_
  refine Ev.imul (pc := 5) dX10_unitAt_5 ?_
  refine Ev.iadd (pc := 6) dX10_unitAt_6 ?_
  refine Ev.iload_n (pc := 7) dX10_unitAt_7 rfl ?_
  refine Ev.iadd (pc := 8) dX10_unitAt_8 ?_
  obtain rfl := Option.some.inj h
  exact Ev.iret (pc := 9) dX10_unitAt_9 rfl rfl
theorem dX10_unit_0 : decode cX10_unit 0 = .ok (.iload_n 1, 1) := by decide +kernel
theorem dX10_unit_1 : decode cX10_unit 1 = .ok (.invokestatic 62, 3) := by decide +kernel
theorem dX10_unit_4 : decode cX10_unit 4 = .ok (.ifCond .eq 13, 3) := by decide +kernel
theorem dX10_unit_7 : decode cX10_unit 7 = .ok (.iload_n 2, 1) := by decide +kernel
theorem dX10_unit_8 : decode cX10_unit 8 = .ok (.iconst 1, 1) := by decide +kernel
theorem dX10_unit_9 : decode cX10_unit 9 = .ok (.bipush 90, 2) := by decide +kernel
theorem dX10_unit_11 : decode cX10_unit 11 = .ok (.invokestatic 58, 3) := by decide +kernel
theorem dX10_unit_14 : decode cX10_unit 14 = .ok (.ifCond .ne 9, 3) := by decide +kernel
theorem dX10_unit_17 : decode cX10_unit 17 = .ok (.aload_n 0, 1) := by decide +kernel
theorem dX10_unit_18 : decode cX10_unit 18 = .ok (.iconst 1, 1) := by decide +kernel
theorem dX10_unit_19 : decode cX10_unit 19 = .ok (.invokevirtual 66, 3) := by decide +kernel
theorem dX10_unit_22 : decode cX10_unit 22 = .ok (.ireturn, 1) := by decide +kernel
theorem dX10_unit_23 : decode cX10_unit 23 = .ok (.aload_n 0, 1) := by decide +kernel
theorem dX10_unit_24 : decode cX10_unit 24 = .ok (.getfield 7, 3) := by decide +kernel
theorem dX10_unit_27 : decode cX10_unit 27 = .ok (.bipush 8, 2) := by decide +kernel
theorem dX10_unit_29 : decode cX10_unit 29 = .ok (.iaload, 1) := by decide +kernel
theorem dX10_unit_30 : decode cX10_unit 30 = .ok (.bipush 12, 2) := by decide +kernel
theorem dX10_unit_32 : decode cX10_unit 32 = .ok (.if_icmp .ne 9, 3) := by decide +kernel
theorem dX10_unit_35 : decode cX10_unit 35 = .ok (.aload_n 0, 1) := by decide +kernel
theorem dX10_unit_36 : decode cX10_unit 36 = .ok (.iconst 2, 1) := by decide +kernel
theorem dX10_unit_37 : decode cX10_unit 37 = .ok (.invokevirtual 66, 3) := by decide +kernel
theorem dX10_unit_40 : decode cX10_unit 40 = .ok (.ireturn, 1) := by decide +kernel
theorem dX10_unit_41 : decode cX10_unit 41 = .ok (.aload_n 0, 1) := by decide +kernel
theorem dX10_unit_42 : decode cX10_unit 42 = .ok (.getfield 7, 3) := by decide +kernel
theorem dX10_unit_45 : decode cX10_unit 45 = .ok (.bipush 8, 2) := by decide +kernel
theorem dX10_unit_47 : decode cX10_unit 47 = .ok (.iaload, 1) := by decide +kernel
theorem dX10_unit_48 : decode cX10_unit 48 = .ok (.istore_n 3, 1) := by decide +kernel
theorem dX10_unit_49 : decode cX10_unit 49 = .ok (.aload_n 0, 1) := by decide +kernel
theorem dX10_unit_50 : decode cX10_unit 50 = .ok (.getfield 7, 3) := by decide +kernel
theorem dX10_unit_53 : decode cX10_unit 53 = .ok (.bipush 8, 2) := by decide +kernel
theorem dX10_unit_55 : decode cX10_unit 55 = .ok (.dup2, 1) := by decide +kernel
theorem dX10_unit_56 : decode cX10_unit 56 = .ok (.iaload, 1) := by decide +kernel
theorem dX10_unit_57 : decode cX10_unit 57 = .ok (.iconst 1, 1) := by decide +kernel
theorem dX10_unit_58 : decode cX10_unit 58 = .ok (.iadd, 1) := by decide +kernel
theorem dX10_unit_59 : decode cX10_unit 59 = .ok (.iastore, 1) := by decide +kernel
theorem dX10_unit_60 : decode cX10_unit 60 = .ok (.aload_n 0, 1) := by decide +kernel
theorem dX10_unit_61 : decode cX10_unit 61 = .ok (.getfield 7, 3) := by decide +kernel
theorem dX10_unit_64 : decode cX10_unit 64 = .ok (.iload_n 3, 1) := by decide +kernel
theorem dX10_unit_65 : decode cX10_unit 65 = .ok (.iconst 0, 1) := by decide +kernel
theorem dX10_unit_66 : decode cX10_unit 66 = .ok (.invokestatic 74, 3) := by decide +kernel
theorem dX10_unit_69 : decode cX10_unit 69 = .ok (.iload_n 1, 1) := by decide +kernel
theorem dX10_unit_70 : decode cX10_unit 70 = .ok (.iastore, 1) := by decide +kernel
theorem dX10_unit_71 : decode cX10_unit 71 = .ok (.aload_n 0, 1) := by decide +kernel
theorem dX10_unit_72 : decode cX10_unit 72 = .ok (.getfield 7, 3) := by decide +kernel
theorem dX10_unit_75 : decode cX10_unit 75 = .ok (.iload_n 3, 1) := by decide +kernel
theorem dX10_unit_76 : decode cX10_unit 76 = .ok (.iconst 1, 1) := by decide +kernel
theorem dX10_unit_77 : decode cX10_unit 77 = .ok (.invokestatic 74, 3) := by decide +kernel
theorem dX10_unit_80 : decode cX10_unit 80 = .ok (.iload_n 2, 1) := by decide +kernel
theorem dX10_unit_81 : decode cX10_unit 81 = .ok (.iastore, 1) := by decide +kernel
theorem dX10_unit_82 : decode cX10_unit 82 = .ok (.aload_n 0, 1) := by decide +kernel
theorem dX10_unit_83 : decode cX10_unit 83 = .ok (.getfield 7, 3) := by decide +kernel
theorem dX10_unit_86 : decode cX10_unit 86 = .ok (.iload_n 3, 1) := by decide +kernel
theorem dX10_unit_87 : decode cX10_unit 87 = .ok (.iconst 2, 1) := by decide +kernel
theorem dX10_unit_88 : decode cX10_unit 88 = .ok (.invokestatic 74, 3) := by decide +kernel
theorem dX10_unit_91 : decode cX10_unit 91 = .ok (.iconst (-1), 1) := by decide +kernel
theorem dX10_unit_92 : decode cX10_unit 92 = .ok (.iastore, 1) := by decide +kernel
theorem dX10_unit_93 : decode cX10_unit 93 = .ok (.aload_n 0, 1) := by decide +kernel
theorem dX10_unit_94 : decode cX10_unit 94 = .ok (.getfield 7, 3) := by decide +kernel
theorem dX10_unit_97 : decode cX10_unit 97 = .ok (.iload_n 3, 1) := by decide +kernel
theorem dX10_unit_98 : decode cX10_unit 98 = .ok (.iconst 3, 1) := by decide +kernel
theorem dX10_unit_99 : decode cX10_unit 99 = .ok (.invokestatic 74, 3) := by decide +kernel
theorem dX10_unit_102 : decode cX10_unit 102 = .ok (.iconst 0, 1) := by decide +kernel
theorem dX10_unit_103 : decode cX10_unit 103 = .ok (.iastore, 1) := by decide +kernel
theorem dX10_unit_104 : decode cX10_unit 104 = .ok (.aload_n 0, 1) := by decide +kernel
theorem dX10_unit_105 : decode cX10_unit 105 = .ok (.getfield 7, 3) := by decide +kernel
theorem dX10_unit_108 : decode cX10_unit 108 = .ok (.iload_n 3, 1) := by decide +kernel
theorem dX10_unit_109 : decode cX10_unit 109 = .ok (.iconst 4, 1) := by decide +kernel
theorem dX10_unit_110 : decode cX10_unit 110 = .ok (.invokestatic 74, 3) := by decide +kernel
theorem dX10_unit_113 : decode cX10_unit 113 = .ok (.iconst 0, 1) := by decide +kernel
theorem dX10_unit_114 : decode cX10_unit 114 = .ok (.iastore, 1) := by decide +kernel
theorem dX10_unit_115 : decode cX10_unit 115 = .ok (.iload_n 3, 1) := by decide +kernel
theorem dX10_unit_116 : decode cX10_unit 116 = .ok (.ireturn, 1) := by decide +kernel
def F_X10_unit (x1 : Int32) (x2 : Int32) (M : eMem) : Option (Int32 × eMem) :=
  (F_X10_isCell x1).bind fun q1 =>
  if q1 = 0 then
    (F_X10_finding 1 M).bind fun q2 =>
    some (q2.1, q2.2)
  else
    (F_X10_in x2 1 90).bind fun q3 =>
    if q3 = 0 then
      (F_X10_finding 1 M).bind fun q10 =>
      some (q10.1, q10.2)
    else
      if (M.1 1 8) = 12 then
        (F_X10_finding 2 M).bind fun q9 =>
        some (q9.1, q9.2)
      else
        (F_X10_unitAt (M.1 1 8) 0).bind fun q4 =>
        eG (eIn q4 2900) <|
        (F_X10_unitAt (M.1 1 8) 1).bind fun q5 =>
        eG (eIn q5 2900) <|
        (F_X10_unitAt (M.1 1 8) 2).bind fun q6 =>
        eG (eIn q6 2900) <|
        (F_X10_unitAt (M.1 1 8) 3).bind fun q7 =>
        eG (eIn q7 2900) <|
        (F_X10_unitAt (M.1 1 8) 4).bind fun q8 =>
        eG (eIn q8 2900) <|
        some ((M.1 1 8), (eI (eI (eI (eI (eI (eI M 1 8 ((M.1 1 8) + 1)) 1 q4.toNatClampNeg x1) 1 q5.toNatClampNeg x2) 1 q6.toNatClampNeg (-1)) 1 q7.toNatClampNeg 0) 1 q8.toNatClampNeg 0))
set_option maxRecDepth 100000 in
set_option maxHeartbeats 4000000 in
theorem ev_X10_unit (x1 : Int32) (x2 : Int32) (M : eMem) (q : (Int32 × eMem)) (h : F_X10_unit x1 x2 M = some q) : Ev layR 2 m_X10_unit 0 [some (.ref 0), some (.int x1), some (.int x2), none] [] M (some (.int q.1), q.2) := by
  rw [F_X10_unit] at h
  refine Ev.iload_n (pc := 0) dX10_unit_0 rfl ?_
  refine eBk h (fun q1 hq1 h => ?_)
  refine Ev.callS (pc := 1) (as := [.int x1]) (st := []) (z := 0) dX10_unit_1 wc_X10_isCell ml_RX10_62 sm_X10_isCell (ev_X10_isCell x1 M _ hq1) rfl rfl (by decide) rfl rfl (Nat.le_of_ble_eq_true rfl) ?_
  refine Ev.if_eq (pc := 4) (tgt := 17) dX10_unit_4 (by decide) (fun c9 => ?_) (fun c9 => ?_)
  · have h := eT h c9
    refine Ev.aload_n (pc := 17) dX10_unit_17 rfl ?_
    refine Ev.iconst (pc := 18) dX10_unit_18 (v := 1) (by decide) ?_
    refine eBk h (fun q2 hq2 h => ?_)
    refine Ev.callV (pc := 19) (as := [.int 1]) (st := []) (z := 0) dX10_unit_19 wc_X10_finding ml_RX10_66 im_X10_finding se_X10_finding lR_0 rfl rfl (ev_X10_finding 1 M _ hq2) rfl rfl (by decide) rfl rfl (Nat.le_of_ble_eq_true rfl) ?_
    obtain rfl := Option.some.inj h
    exact Ev.iret (pc := 22) dX10_unit_22 rfl rfl
  · have h := eF h c9
    refine Ev.iload_n (pc := 7) dX10_unit_7 rfl ?_
    refine Ev.iconst (pc := 8) dX10_unit_8 (v := 1) (by decide) ?_
    refine Ev.bipush (pc := 9) dX10_unit_9 (v := 90) (by decide) ?_
    refine eBk h (fun q3 hq3 h => ?_)
    refine Ev.callS (pc := 11) (as := [.int x2, .int 1, .int 90]) (st := []) (z := 0) dX10_unit_11 wc_X10_in ml_RX10_58 sm_X10_in (ev_X10_in x2 1 90 M _ hq3) rfl rfl (by decide) rfl rfl (Nat.le_of_ble_eq_true rfl) ?_
    refine Ev.if_ne (pc := 14) (tgt := 23) dX10_unit_14 (by decide) (fun c9 => ?_) (fun c9 => ?_)
    · have h := eF h c9
      refine Ev.aload_n (pc := 23) dX10_unit_23 rfl ?_
      refine Ev.getR (pc := 24) dX10_unit_24 fl_RX10_7 lR_0 rfl ?_
      refine Ev.bipush (pc := 27) dX10_unit_27 (v := 8) (by decide) ?_
      refine Ev.ialdj (pc := 29) dX10_unit_29 (j := 8) lR_1 (by decide) (by decide) ?_
      refine Ev.bipush (pc := 30) dX10_unit_30 (v := 12) (by decide) ?_
      refine Ev.icmp_ne (pc := 32) (tgt := 41) dX10_unit_32 (by decide) (fun c9 => ?_) (fun c9 => ?_)
      · have h := eF h c9
        refine Ev.aload_n (pc := 41) dX10_unit_41 rfl ?_
        refine Ev.getR (pc := 42) dX10_unit_42 fl_RX10_7 lR_0 rfl ?_
        refine Ev.bipush (pc := 45) dX10_unit_45 (v := 8) (by decide) ?_
        refine Ev.ialdj (pc := 47) dX10_unit_47 (j := 8) lR_1 (by decide) (by decide) ?_
        refine Ev.istore_n (pc := 48) dX10_unit_48 (by decide) rfl rfl ?_
        refine Ev.aload_n (pc := 49) dX10_unit_49 rfl ?_
        refine Ev.getR (pc := 50) dX10_unit_50 fl_RX10_7 lR_0 rfl ?_
        refine Ev.bipush (pc := 53) dX10_unit_53 (v := 8) (by decide) ?_
        refine Ev.dup2 (pc := 55) dX10_unit_55 rfl rfl ?_
        refine Ev.ialdj (pc := 56) dX10_unit_56 (j := 8) lR_1 (by decide) (by decide) ?_
        refine Ev.iconst (pc := 57) dX10_unit_57 (v := 1) (by decide) ?_
        refine Ev.iadd (pc := 58) dX10_unit_58 ?_
        refine Ev.iastj (pc := 59) dX10_unit_59 (j := 8) lR_1 (by decide) (by decide) ?_
        refine Ev.aload_n (pc := 60) dX10_unit_60 rfl ?_
        refine Ev.getR (pc := 61) dX10_unit_61 fl_RX10_7 lR_0 rfl ?_
        refine Ev.iload_n (pc := 64) dX10_unit_64 rfl ?_
        refine Ev.iconst (pc := 65) dX10_unit_65 (v := 0) (by decide) ?_
        refine eBk h (fun q4 hq4 h => ?_)
        refine Ev.callS (pc := 66) (as := [.int (M.1 1 8), .int 0]) (st := [.ref 1]) (z := 0) dX10_unit_66 wc_X10_unitAt ml_RX10_74 sm_X10_unitAt (ev_X10_unitAt (M.1 1 8) 0 (eI M 1 8 ((M.1 1 8) + 1)) _ hq4) rfl rfl (by decide) rfl rfl (Nat.le_of_ble_eq_true rfl) ?_
        refine Ev.iload_n (pc := 69) dX10_unit_69 rfl ?_
        obtain ⟨g9, h⟩ := eGdB h
        refine Ev.iastj (pc := 70) dX10_unit_70 (j := q4.toNatClampNeg) lR_1 g9 rfl ?_
        refine Ev.aload_n (pc := 71) dX10_unit_71 rfl ?_
        refine Ev.getR (pc := 72) dX10_unit_72 fl_RX10_7 lR_0 rfl ?_
        refine Ev.iload_n (pc := 75) dX10_unit_75 rfl ?_
        refine Ev.iconst (pc := 76) dX10_unit_76 (v := 1) (by decide) ?_
        refine eBk h (fun q5 hq5 h => ?_)
        refine Ev.callS (pc := 77) (as := [.int (M.1 1 8), .int 1]) (st := [.ref 1]) (z := 0) dX10_unit_77 wc_X10_unitAt ml_RX10_74 sm_X10_unitAt (ev_X10_unitAt (M.1 1 8) 1 (eI (eI M 1 8 ((M.1 1 8) + 1)) 1 q4.toNatClampNeg x1) _ hq5) rfl rfl (by decide) rfl rfl (Nat.le_of_ble_eq_true rfl) ?_
        refine Ev.iload_n (pc := 80) dX10_unit_80 rfl ?_
        obtain ⟨g9, h⟩ := eGdB h
        refine Ev.iastj (pc := 81) dX10_unit_81 (j := q5.toNatClampNeg) lR_1 g9 rfl ?_
        refine Ev.aload_n (pc := 82) dX10_unit_82 rfl ?_
        refine Ev.getR (pc := 83) dX10_unit_83 fl_RX10_7 lR_0 rfl ?_
        refine Ev.iload_n (pc := 86) dX10_unit_86 rfl ?_
        refine Ev.iconst (pc := 87) dX10_unit_87 (v := 2) (by decide) ?_
        refine eBk h (fun q6 hq6 h => ?_)
        refine Ev.callS (pc := 88) (as := [.int (M.1 1 8), .int 2]) (st := [.ref 1]) (z := 0) dX10_unit_88 wc_X10_unitAt ml_RX10_74 sm_X10_unitAt (ev_X10_unitAt (M.1 1 8) 2 (eI (eI (eI M 1 8 ((M.1 1 8) + 1)) 1 q4.toNatClampNeg x1) 1 q5.toNatClampNeg x2) _ hq6) rfl rfl (by decide) rfl rfl (Nat.le_of_ble_eq_true rfl) ?_
        refine Ev.iconst (pc := 91) dX10_unit_91 (v := (-1)) (by decide) ?_
        obtain ⟨g9, h⟩ := eGdB h
        refine Ev.iastj (pc := 92) dX10_unit_92 (j := q6.toNatClampNeg) lR_1 g9 rfl ?_
        refine Ev.aload_n (pc := 93) dX10_unit_93 rfl ?_
        refine Ev.getR (pc := 94) dX10_unit_94 fl_RX10_7 lR_0 rfl ?_
        refine Ev.iload_n (pc := 97) dX10_unit_97 rfl ?_
        refine Ev.iconst (pc := 98) dX10_unit_98 (v := 3) (by decide) ?_
        refine eBk h (fun q7 hq7 h => ?_)
        refine Ev.callS (pc := 99) (as := [.int (M.1 1 8), .int 3]) (st := [.ref 1]) (z := 0) dX10_unit_99 wc_X10_unitAt ml_RX10_74 sm_X10_unitAt (ev_X10_unitAt (M.1 1 8) 3 (eI (eI (eI (eI M 1 8 ((M.1 1 8) + 1)) 1 q4.toNatClampNeg x1) 1 q5.toNatClampNeg x2) 1 q6.toNatClampNeg (-1)) _ hq7) rfl rfl (by decide) rfl rfl (Nat.le_of_ble_eq_true rfl) ?_
        refine Ev.iconst (pc := 102) dX10_unit_102 (v := 0) (by decide) ?_
        obtain ⟨g9, h⟩ := eGdB h
        refine Ev.iastj (pc := 103) dX10_unit_103 (j := q7.toNatClampNeg) lR_1 g9 rfl ?_
        refine Ev.aload_n (pc := 104) dX10_unit_104 rfl ?_
        refine Ev.getR (pc := 105) dX10_unit_105 fl_RX10_7 lR_0 rfl ?_
        refine Ev.iload_n (pc := 108) dX10_unit_108 rfl ?_
        refine Ev.iconst (pc := 109) dX10_unit_109 (v := 4) (by decide) ?_
        refine eBk h (fun q8 hq8 h => ?_)
        refine Ev.callS (pc := 110) (as := [.int (M.1 1 8), .int 4]) (st := [.ref 1]) (z := 0) dX10_unit_110 wc_X10_unitAt ml_RX10_74 sm_X10_unitAt (ev_X10_unitAt (M.1 1 8) 4 (eI (eI (eI (eI (eI M 1 8 ((M.1 1 8) + 1)) 1 q4.toNatClampNeg x1) 1 q5.toNatClampNeg x2) 1 q6.toNatClampNeg (-1)) 1 q7.toNatClampNeg 0) _ hq8) rfl rfl (by decide) rfl rfl (Nat.le_of_ble_eq_true rfl) ?_
        refine Ev.iconst (pc := 113) dX10_unit_113 (v := 0) (by decide) ?_
        obtain ⟨g9, h⟩ := eGdB h
        refine Ev.iastj (pc := 114) dX10_unit_114 (j := q8.toNatClampNeg) lR_1 g9 rfl ?_
        refine Ev.iload_n (pc := 115) dX10_unit_115 rfl ?_
        obtain rfl := Option.some.inj h
        exact Ev.iret (pc := 116) dX10_unit_116 rfl rfl
      · have h := eT h c9
        refine Ev.aload_n (pc := 35) dX10_unit_35 rfl ?_
        refine Ev.iconst (pc := 36) dX10_unit_36 (v := 2) (by decide) ?_
        refine eBk h (fun q9 hq9 h => ?_)
        refine Ev.callV (pc := 37) (as := [.int 2]) (st := []) (z := 0) dX10_unit_37 wc_X10_finding ml_RX10_66 im_X10_finding se_X10_finding lR_0 rfl rfl (ev_X10_finding 2 M _ hq9) rfl rfl (by decide) rfl rfl (Nat.le_of_ble_eq_true rfl) ?_
        obtain rfl := Option.some.inj h
        exact Ev.iret (pc := 40) dX10_unit_40 rfl rfl
    · have h := eT h c9
      refine Ev.aload_n (pc := 17) dX10_unit_17 rfl ?_
      refine Ev.iconst (pc := 18) dX10_unit_18 (v := 1) (by decide) ?_
      refine eBk h (fun q10 hq10 h => ?_)
      refine Ev.callV (pc := 19) (as := [.int 1]) (st := []) (z := 0) dX10_unit_19 wc_X10_finding ml_RX10_66 im_X10_finding se_X10_finding lR_0 rfl rfl (ev_X10_finding 1 M _ hq10) rfl rfl (by decide) rfl rfl (Nat.le_of_ble_eq_true rfl) ?_
      obtain rfl := Option.some.inj h
      exact Ev.iret (pc := 22) dX10_unit_22 rfl rfl
theorem dX0_isOnRoad_0 : decode cX0_isOnRoad 0 = .ok (.aload_n 0, 1) := by decide +kernel
theorem dX0_isOnRoad_1 : decode cX0_isOnRoad 1 = .ok (.getfield 30, 3) := by decide +kernel
theorem dX0_isOnRoad_4 : decode cX0_isOnRoad 4 = .ok (.iload_n 1, 1) := by decide +kernel
theorem dX0_isOnRoad_5 : decode cX0_isOnRoad 5 = .ok (.iaload, 1) := by decide +kernel
theorem dX0_isOnRoad_6 : decode cX0_isOnRoad 6 = .ok (.iconst (-1), 1) := by decide +kernel
theorem dX0_isOnRoad_7 : decode cX0_isOnRoad 7 = .ok (.if_icmp .eq 7, 3) := by decide +kernel
theorem dX0_isOnRoad_10 : decode cX0_isOnRoad 10 = .ok (.iconst 1, 1) := by decide +kernel
theorem dX0_isOnRoad_11 : decode cX0_isOnRoad 11 = .ok (.goto 4, 3) := by decide +kernel
theorem dX0_isOnRoad_14 : decode cX0_isOnRoad 14 = .ok (.iconst 0, 1) := by decide +kernel
theorem dX0_isOnRoad_15 : decode cX0_isOnRoad 15 = .ok (.ireturn, 1) := by decide +kernel
def F_X0_isOnRoad (x1 : Int32) (M : eMem) : Option Int32 :=
  eG (eIn x1 12) <|
  if (M.1 9 x1.toNatClampNeg) = (-1) then
    some 0
  else
    some 1
set_option maxRecDepth 100000 in
set_option maxHeartbeats 4000000 in
theorem ev_X0_isOnRoad (x1 : Int32) (M : eMem) (q : Int32) (h : F_X0_isOnRoad x1 M = some q) : Ev layC 0 m_X0_isOnRoad 0 [some (.ref 2), some (.int x1)] [] M (some (.int q), M) := by
  rw [F_X0_isOnRoad] at h
  refine Ev.aload_n (pc := 0) dX0_isOnRoad_0 rfl ?_
  refine Ev.getR (pc := 1) dX0_isOnRoad_1 fl_RX0_30 lC_2 rfl ?_
  refine Ev.iload_n (pc := 4) dX0_isOnRoad_4 rfl ?_
  obtain ⟨g9, h⟩ := eGdB h
  refine Ev.ialdj (pc := 5) dX0_isOnRoad_5 (j := x1.toNatClampNeg) lC_9 g9 rfl ?_
  refine Ev.iconst (pc := 6) dX0_isOnRoad_6 (v := (-1)) (by decide) ?_
  refine Ev.icmp_eq (pc := 7) (tgt := 14) dX0_isOnRoad_7 (by decide) (fun c9 => ?_) (fun c9 => ?_)
  · have h := eT h c9
    refine Ev.iconst (pc := 14) dX0_isOnRoad_14 (v := 0) (by decide) ?_
    obtain rfl := Option.some.inj h
    exact Ev.iret (pc := 15) dX0_isOnRoad_15 rfl rfl
  · have h := eF h c9
    refine Ev.iconst (pc := 10) dX0_isOnRoad_10 (v := 1) (by decide) ?_
    refine Ev.goto (pc := 11) (tgt := 15) dX0_isOnRoad_11 (by decide) ?_
    obtain rfl := Option.some.inj h
    exact Ev.iret (pc := 15) dX0_isOnRoad_15 rfl rfl
theorem dX5_need_0 : decode cX5_need 0 = .ok (.getstatic 51, 3) := by decide +kernel
theorem dX5_need_3 : decode cX5_need 3 = .ok (.aload_n 0, 1) := by decide +kernel
theorem dX5_need_4 : decode cX5_need 4 = .ok (.getfield 9, 3) := by decide +kernel
theorem dX5_need_7 : decode cX5_need 7 = .ok (.iload_n 1, 1) := by decide +kernel
theorem dX5_need_8 : decode cX5_need 8 = .ok (.iaload, 1) := by decide +kernel
theorem dX5_need_9 : decode cX5_need 9 = .ok (.iaload, 1) := by decide +kernel
theorem dX5_need_10 : decode cX5_need 10 = .ok (.ireturn, 1) := by decide +kernel
def F_X5_need (x1 : Int32) (M : eMem) : Option Int32 :=
  eG (eIn x1 20) <|
  eG (eIn (M.1 13 x1.toNatClampNeg) 7) <|
  some ((eKA.getD 0 []).getD (M.1 13 x1.toNatClampNeg).toNatClampNeg 0)
set_option maxRecDepth 100000 in
set_option maxHeartbeats 4000000 in
theorem ev_X5_need (x1 : Int32) (M : eMem) (q : Int32) (h : F_X5_need x1 M = some q) : Ev layC 0 m_X5_need 0 [some (.ref 12), some (.int x1)] [] M (some (.int q), M) := by
  rw [F_X5_need] at h
  refine Ev.getKN (pc := 0) dX5_need_0 (j := 0) (by decide) fx_RX5_51 ?_
  refine Ev.aload_n (pc := 3) dX5_need_3 rfl ?_
  refine Ev.getR (pc := 4) dX5_need_4 fl_RX5_9 lC_12 rfl ?_
  refine Ev.iload_n (pc := 7) dX5_need_7 rfl ?_
  obtain ⟨g9, h⟩ := eGdB h
  refine Ev.ialdj (pc := 8) dX5_need_8 (j := x1.toNatClampNeg) lC_13 g9 rfl ?_
  obtain ⟨g9, h⟩ := eGdB h
  refine Ev.kaldj (pc := 9) dX5_need_9 (j := 0) (n := (M.1 13 x1.toNatClampNeg).toNatClampNeg) (by decide) g9 rfl ?_
  obtain rfl := Option.some.inj h
  exact Ev.iret (pc := 10) dX5_need_10 rfl rfl
theorem dX9_isUnder_0 : decode cX9_isUnder 0 = .ok (.iload_n 0, 1) := by decide +kernel
theorem dX9_isUnder_1 : decode cX9_isUnder 1 = .ok (.iload_n 1, 1) := by decide +kernel
theorem dX9_isUnder_2 : decode cX9_isUnder 2 = .ok (.if_icmp .eq 17, 3) := by decide +kernel
theorem dX9_isUnder_5 : decode cX9_isUnder 5 = .ok (.iload_n 1, 1) := by decide +kernel
theorem dX9_isUnder_6 : decode cX9_isUnder 6 = .ok (.ifCond .eq 13, 3) := by decide +kernel
theorem dX9_isUnder_9 : decode cX9_isUnder 9 = .ok (.iload_n 1, 1) := by decide +kernel
theorem dX9_isUnder_10 : decode cX9_isUnder 10 = .ok (.iconst 1, 1) := by decide +kernel
theorem dX9_isUnder_11 : decode cX9_isUnder 11 = .ok (.if_icmp .ne 12, 3) := by decide +kernel
theorem dX9_isUnder_14 : decode cX9_isUnder 14 = .ok (.iload_n 0, 1) := by decide +kernel
theorem dX9_isUnder_15 : decode cX9_isUnder 15 = .ok (.iconst 2, 1) := by decide +kernel
theorem dX9_isUnder_16 : decode cX9_isUnder 16 = .ok (.if_icmp .ne 7, 3) := by decide +kernel
theorem dX9_isUnder_19 : decode cX9_isUnder 19 = .ok (.iconst 1, 1) := by decide +kernel
theorem dX9_isUnder_20 : decode cX9_isUnder 20 = .ok (.goto 4, 3) := by decide +kernel
theorem dX9_isUnder_23 : decode cX9_isUnder 23 = .ok (.iconst 0, 1) := by decide +kernel
theorem dX9_isUnder_24 : decode cX9_isUnder 24 = .ok (.ireturn, 1) := by decide +kernel
def F_X9_isUnder_19   : Option Int32 :=
  some 1
set_option maxRecDepth 100000 in
set_option maxHeartbeats 4000000 in
theorem ev_X9_isUnder_19 {lay : List eLC}  (q : Int32) (M : eMem)   (h : F_X9_isUnder_19  = some q) : Ev lay 0 m_X9_isUnder 19 [none, none] [] M (some (.int q), M) := by
  rw [F_X9_isUnder_19] at h
  refine Ev.iconst (pc := 19) dX9_isUnder_19 (v := 1) (by decide) ?_
  refine Ev.goto (pc := 20) (tgt := 24) dX9_isUnder_20 (by decide) ?_
  obtain rfl := Option.some.inj h
  exact Ev.iret (pc := 24) dX9_isUnder_24 rfl rfl
def F_X9_isUnder (x0 : Int32) (x1 : Int32) : Option Int32 :=
  if x0 = x1 then
    F_X9_isUnder_19
  else
    if x1 = 0 then
      F_X9_isUnder_19
    else
      if x1 = 1 then
        if x0 = 2 then
          F_X9_isUnder_19
        else
          some 0
      else
        some 0
set_option maxRecDepth 100000 in
set_option maxHeartbeats 4000000 in
theorem ev_X9_isUnder {lay : List eLC} (x0 : Int32) (x1 : Int32) (M : eMem) (q : Int32) (h : F_X9_isUnder x0 x1 = some q) : Ev lay 0 m_X9_isUnder 0 [some (.int x0), some (.int x1)] [] M (some (.int q), M) := by
  rw [F_X9_isUnder] at h
  refine Ev.iload_n (pc := 0) dX9_isUnder_0 rfl ?_
  refine Ev.iload_n (pc := 1) dX9_isUnder_1 rfl ?_
  refine Ev.icmp_eq (pc := 2) (tgt := 19) dX9_isUnder_2 (by decide) (fun c9 => ?_) (fun c9 => ?_)
  · have h := eT h c9
    exact Ev.fg (ev_X9_isUnder_19 _ _ h) trivial
  · have h := eF h c9
    refine Ev.iload_n (pc := 5) dX9_isUnder_5 rfl ?_
    refine Ev.if_eq (pc := 6) (tgt := 19) dX9_isUnder_6 (by decide) (fun c9 => ?_) (fun c9 => ?_)
    · have h := eT h c9
      exact Ev.fg (ev_X9_isUnder_19 _ _ h) trivial
    · have h := eF h c9
      refine Ev.iload_n (pc := 9) dX9_isUnder_9 rfl ?_
      refine Ev.iconst (pc := 10) dX9_isUnder_10 (v := 1) (by decide) ?_
      refine Ev.icmp_ne (pc := 11) (tgt := 23) dX9_isUnder_11 (by decide) (fun c9 => ?_) (fun c9 => ?_)
      · have h := eF h c9
        refine Ev.iconst (pc := 23) dX9_isUnder_23 (v := 0) (by decide) ?_
        obtain rfl := Option.some.inj h
        exact Ev.iret (pc := 24) dX9_isUnder_24 rfl rfl
      · have h := eT h c9
        refine Ev.iload_n (pc := 14) dX9_isUnder_14 rfl ?_
        refine Ev.iconst (pc := 15) dX9_isUnder_15 (v := 2) (by decide) ?_
        refine Ev.icmp_ne (pc := 16) (tgt := 23) dX9_isUnder_16 (by decide) (fun c9 => ?_) (fun c9 => ?_)
        · have h := eF h c9
          refine Ev.iconst (pc := 23) dX9_isUnder_23 (v := 0) (by decide) ?_
          obtain rfl := Option.some.inj h
          exact Ev.iret (pc := 24) dX9_isUnder_24 rfl rfl
        · have h := eT h c9
          exact Ev.fg (ev_X9_isUnder_19 _ _ h) trivial
theorem dX7_holds_0 : decode cX7_holds 0 = .ok (.iconst 1, 1) := by decide +kernel
theorem dX7_holds_1 : decode cX7_holds 1 = .ok (.istore_n 3, 1) := by decide +kernel
theorem dX7_holds_2 : decode cX7_holds 2 = .ok (.iconst 0, 1) := by decide +kernel
theorem dX7_holds_3 : decode cX7_holds 3 = .ok (.istore 4, 2) := by decide +kernel
theorem dX7_holds_5 : decode cX7_holds 5 = .ok (.iload 4, 2) := by decide +kernel
theorem dX7_holds_7 : decode cX7_holds 7 = .ok (.aload_n 0, 1) := by decide +kernel
theorem dX7_holds_8 : decode cX7_holds 8 = .ok (.getfield 31, 3) := by decide +kernel
theorem dX7_holds_11 : decode cX7_holds 11 = .ok (.iload_n 1, 1) := by decide +kernel
theorem dX7_holds_12 : decode cX7_holds 12 = .ok (.iaload, 1) := by decide +kernel
theorem dX7_holds_13 : decode cX7_holds 13 = .ok (.if_icmp .ge 158, 3) := by decide +kernel
theorem dX7_holds_16 : decode cX7_holds 16 = .ok (.iconst 4, 1) := by decide +kernel
theorem dX7_holds_17 : decode cX7_holds 17 = .ok (.iload_n 1, 1) := by decide +kernel
theorem dX7_holds_18 : decode cX7_holds 18 = .ok (.imul, 1) := by decide +kernel
theorem dX7_holds_19 : decode cX7_holds 19 = .ok (.iload 4, 2) := by decide +kernel
theorem dX7_holds_21 : decode cX7_holds 21 = .ok (.iadd, 1) := by decide +kernel
theorem dX7_holds_22 : decode cX7_holds 22 = .ok (.istore 5, 2) := by decide +kernel
theorem dX7_holds_24 : decode cX7_holds 24 = .ok (.aload_n 0, 1) := by decide +kernel
theorem dX7_holds_25 : decode cX7_holds 25 = .ok (.getfield 37, 3) := by decide +kernel
theorem dX7_holds_28 : decode cX7_holds 28 = .ok (.iload 5, 2) := by decide +kernel
theorem dX7_holds_30 : decode cX7_holds 30 = .ok (.baload, 1) := by decide +kernel
theorem dX7_holds_31 : decode cX7_holds 31 = .ok (.ifCond .eq 11, 3) := by decide +kernel
theorem dX7_holds_34 : decode cX7_holds 34 = .ok (.iload_n 3, 1) := by decide +kernel
theorem dX7_holds_35 : decode cX7_holds 35 = .ok (.ifCond .eq 5, 3) := by decide +kernel
theorem dX7_holds_38 : decode cX7_holds 38 = .ok (.iconst 1, 1) := by decide +kernel
theorem dX7_holds_39 : decode cX7_holds 39 = .ok (.ireturn, 1) := by decide +kernel
theorem dX7_holds_40 : decode cX7_holds 40 = .ok (.iconst 1, 1) := by decide +kernel
theorem dX7_holds_41 : decode cX7_holds 41 = .ok (.istore_n 3, 1) := by decide +kernel
theorem dX7_holds_42 : decode cX7_holds 42 = .ok (.aload_n 2, 1) := by decide +kernel
theorem dX7_holds_43 : decode cX7_holds 43 = .ok (.aload_n 0, 1) := by decide +kernel
theorem dX7_holds_44 : decode cX7_holds 44 = .ok (.getfield 40, 3) := by decide +kernel
theorem dX7_holds_47 : decode cX7_holds 47 = .ok (.iload 5, 2) := by decide +kernel
theorem dX7_holds_49 : decode cX7_holds 49 = .ok (.iaload, 1) := by decide +kernel
theorem dX7_holds_50 : decode cX7_holds 50 = .ok (.iaload, 1) := by decide +kernel
theorem dX7_holds_51 : decode cX7_holds 51 = .ok (.istore 6, 2) := by decide +kernel
theorem dX7_holds_53 : decode cX7_holds 53 = .ok (.aload_n 0, 1) := by decide +kernel
theorem dX7_holds_54 : decode cX7_holds 54 = .ok (.getfield 43, 3) := by decide +kernel
theorem dX7_holds_57 : decode cX7_holds 57 = .ok (.iload 5, 2) := by decide +kernel
theorem dX7_holds_59 : decode cX7_holds 59 = .ok (.iaload, 1) := by decide +kernel
theorem dX7_holds_60 : decode cX7_holds 60 = .ok (.lookupswitch 72 #[(1, 28), (2, 50)], 28) := by decide +kernel
theorem dX7_holds_88 : decode cX7_holds 88 = .ok (.iload 6, 2) := by decide +kernel
theorem dX7_holds_90 : decode cX7_holds 90 = .ok (.aload_n 0, 1) := by decide +kernel
theorem dX7_holds_91 : decode cX7_holds 91 = .ok (.getfield 46, 3) := by decide +kernel
theorem dX7_holds_94 : decode cX7_holds 94 = .ok (.iload 5, 2) := by decide +kernel
theorem dX7_holds_96 : decode cX7_holds 96 = .ok (.iaload, 1) := by decide +kernel
theorem dX7_holds_97 : decode cX7_holds 97 = .ok (.if_icmp .ge 7, 3) := by decide +kernel
theorem dX7_holds_100 : decode cX7_holds 100 = .ok (.iconst 1, 1) := by decide +kernel
theorem dX7_holds_101 : decode cX7_holds 101 = .ok (.goto 4, 3) := by decide +kernel
theorem dX7_holds_104 : decode cX7_holds 104 = .ok (.iconst 0, 1) := by decide +kernel
theorem dX7_holds_105 : decode cX7_holds 105 = .ok (.istore 7, 2) := by decide +kernel
theorem dX7_holds_107 : decode cX7_holds 107 = .ok (.goto 44, 3) := by decide +kernel
theorem dX7_holds_110 : decode cX7_holds 110 = .ok (.iload 6, 2) := by decide +kernel
theorem dX7_holds_112 : decode cX7_holds 112 = .ok (.aload_n 0, 1) := by decide +kernel
theorem dX7_holds_113 : decode cX7_holds 113 = .ok (.getfield 46, 3) := by decide +kernel
theorem dX7_holds_116 : decode cX7_holds 116 = .ok (.iload 5, 2) := by decide +kernel
theorem dX7_holds_118 : decode cX7_holds 118 = .ok (.iaload, 1) := by decide +kernel
theorem dX7_holds_119 : decode cX7_holds 119 = .ok (.if_icmp .le 7, 3) := by decide +kernel
theorem dX7_holds_122 : decode cX7_holds 122 = .ok (.iconst 1, 1) := by decide +kernel
theorem dX7_holds_123 : decode cX7_holds 123 = .ok (.goto 4, 3) := by decide +kernel
theorem dX7_holds_126 : decode cX7_holds 126 = .ok (.iconst 0, 1) := by decide +kernel
theorem dX7_holds_127 : decode cX7_holds 127 = .ok (.istore 7, 2) := by decide +kernel
theorem dX7_holds_129 : decode cX7_holds 129 = .ok (.goto 22, 3) := by decide +kernel
theorem dX7_holds_132 : decode cX7_holds 132 = .ok (.iload 6, 2) := by decide +kernel
theorem dX7_holds_134 : decode cX7_holds 134 = .ok (.aload_n 0, 1) := by decide +kernel
theorem dX7_holds_135 : decode cX7_holds 135 = .ok (.getfield 46, 3) := by decide +kernel
theorem dX7_holds_138 : decode cX7_holds 138 = .ok (.iload 5, 2) := by decide +kernel
theorem dX7_holds_140 : decode cX7_holds 140 = .ok (.iaload, 1) := by decide +kernel
theorem dX7_holds_141 : decode cX7_holds 141 = .ok (.if_icmp .ne 7, 3) := by decide +kernel
theorem dX7_holds_144 : decode cX7_holds 144 = .ok (.iconst 1, 1) := by decide +kernel
theorem dX7_holds_145 : decode cX7_holds 145 = .ok (.goto 4, 3) := by decide +kernel
theorem dX7_holds_148 : decode cX7_holds 148 = .ok (.iconst 0, 1) := by decide +kernel
theorem dX7_holds_149 : decode cX7_holds 149 = .ok (.istore 7, 2) := by decide +kernel
theorem dX7_holds_151 : decode cX7_holds 151 = .ok (.iload 7, 2) := by decide +kernel
theorem dX7_holds_153 : decode cX7_holds 153 = .ok (.aload_n 0, 1) := by decide +kernel
theorem dX7_holds_154 : decode cX7_holds 154 = .ok (.getfield 34, 3) := by decide +kernel
theorem dX7_holds_157 : decode cX7_holds 157 = .ok (.iload 5, 2) := by decide +kernel
theorem dX7_holds_159 : decode cX7_holds 159 = .ok (.baload, 1) := by decide +kernel
theorem dX7_holds_160 : decode cX7_holds 160 = .ok (.if_icmp .ne 5, 3) := by decide +kernel
theorem dX7_holds_163 : decode cX7_holds 163 = .ok (.iconst 0, 1) := by decide +kernel
theorem dX7_holds_164 : decode cX7_holds 164 = .ok (.istore_n 3, 1) := by decide +kernel
theorem dX7_holds_165 : decode cX7_holds 165 = .ok (.iinc 4 1, 3) := by decide +kernel
theorem dX7_holds_168 : decode cX7_holds 168 = .ok (.goto (-163), 3) := by decide +kernel
theorem dX7_holds_171 : decode cX7_holds 171 = .ok (.iload_n 3, 1) := by decide +kernel
theorem dX7_holds_172 : decode cX7_holds 172 = .ok (.ireturn, 1) := by decide +kernel
def F_X7_holds_151 (rec : Int32 → Int32 → Int32 → Option Int32) (v1 : Int32) (v3 : Int32) (v4 : Int32) (v5 : Int32) (v7 : Int32) (M : eMem) : Option Int32 :=
  eG (eIn v5 320) <|
  if v7 = (M.1 48 v5.toNatClampNeg) then
    rec v1 0 (v4 + 1)
  else
    rec v1 v3 (v4 + 1)
set_option maxRecDepth 100000 in
set_option maxHeartbeats 4000000 in
theorem ev_X7_holds_151 (rec : Int32 → Int32 → Int32 → Option Int32) (q : Int32) (M : eMem) (hrec : ∀ (v1 : Int32) (v3 : Int32) (v4 : Int32), rec v1 v3 v4 = some q → Ev layC 0 m_X7_holds 5 [some (.ref 40), some (.int v1), some (.ref 72), some (.int v3), some (.int v4), none, none, none] [] M (some (.int q), M)) (v1 : Int32) (v3 : Int32) (v4 : Int32) (v5 : Int32) (v7 : Int32) (h : F_X7_holds_151 rec v1 v3 v4 v5 v7 M = some q) : Ev layC 0 m_X7_holds 151 [some (.ref 40), some (.int v1), some (.ref 72), some (.int v3), some (.int v4), some (.int v5), none, some (.int v7)] [] M (some (.int q), M) := by
  rw [F_X7_holds_151] at h
  refine Ev.iload (pc := 151) dX7_holds_151 rfl ?_
  refine Ev.aload_n (pc := 153) dX7_holds_153 rfl ?_
  refine Ev.getR (pc := 154) dX7_holds_154 fl_RX7_34 lC_40 rfl ?_
  refine Ev.iload (pc := 157) dX7_holds_157 rfl ?_
  obtain ⟨g9, h⟩ := eGdB h
  refine Ev.zaldj (pc := 159) dX7_holds_159 (j := v5.toNatClampNeg) lC_48 g9 rfl ?_
  refine Ev.icmp_ne (pc := 160) (tgt := 165) dX7_holds_160 (by decide) (fun c9 => ?_) (fun c9 => ?_)
  · have h := eF h c9
    refine Ev.iincv (pc := 165) dX7_holds_165 (v := 1) (by decide) rfl (by decide) rfl rfl ?_
    refine Ev.goto (pc := 168) (tgt := 5) dX7_holds_168 (by decide) ?_
    exact Ev.fg (hrec _ _ _ h) (And.intro rfl (And.intro rfl (And.intro rfl (And.intro rfl (And.intro rfl trivial)))))
  · have h := eT h c9
    refine Ev.iconst (pc := 163) dX7_holds_163 (v := 0) (by decide) ?_
    refine Ev.istore_n (pc := 164) dX7_holds_164 (by decide) rfl rfl ?_
    refine Ev.iincv (pc := 165) dX7_holds_165 (v := 1) (by decide) rfl (by decide) rfl rfl ?_
    refine Ev.goto (pc := 168) (tgt := 5) dX7_holds_168 (by decide) ?_
    exact Ev.fg (hrec _ _ _ h) (And.intro rfl (And.intro rfl (And.intro rfl (And.intro rfl (And.intro rfl trivial)))))
def F_X7_holds_105 (rec : Int32 → Int32 → Int32 → Option Int32) (v1 : Int32) (v3 : Int32) (v4 : Int32) (v5 : Int32) (s0 : Int32) (M : eMem) : Option Int32 :=
  F_X7_holds_151 (fun v1 v3 v4 => rec v1 v3 v4) v1 v3 v4 v5 s0 M
set_option maxRecDepth 100000 in
set_option maxHeartbeats 4000000 in
theorem ev_X7_holds_105 (rec : Int32 → Int32 → Int32 → Option Int32) (q : Int32) (M : eMem) (hrec : ∀ (v1 : Int32) (v3 : Int32) (v4 : Int32), rec v1 v3 v4 = some q → Ev layC 0 m_X7_holds 5 [some (.ref 40), some (.int v1), some (.ref 72), some (.int v3), some (.int v4), none, none, none] [] M (some (.int q), M)) (v1 : Int32) (v3 : Int32) (v4 : Int32) (v5 : Int32) (s0 : Int32) (h : F_X7_holds_105 rec v1 v3 v4 v5 s0 M = some q) : Ev layC 0 m_X7_holds 105 [some (.ref 40), some (.int v1), some (.ref 72), some (.int v3), some (.int v4), some (.int v5), none, none] [.int s0] M (some (.int q), M) := by
  rw [F_X7_holds_105] at h
  refine Ev.istore (pc := 105) dX7_holds_105 (by decide) rfl rfl ?_
  refine Ev.goto (pc := 107) (tgt := 151) dX7_holds_107 (by decide) ?_
  exact Ev.fg (ev_X7_holds_151 _ _ _ hrec _ _ _ _ _ h) (And.intro rfl (And.intro rfl (And.intro rfl (And.intro rfl (And.intro rfl (And.intro rfl (And.intro rfl trivial)))))))
def F_X7_holds_127 (rec : Int32 → Int32 → Int32 → Option Int32) (v1 : Int32) (v3 : Int32) (v4 : Int32) (v5 : Int32) (s0 : Int32) (M : eMem) : Option Int32 :=
  F_X7_holds_151 (fun v1 v3 v4 => rec v1 v3 v4) v1 v3 v4 v5 s0 M
set_option maxRecDepth 100000 in
set_option maxHeartbeats 4000000 in
theorem ev_X7_holds_127 (rec : Int32 → Int32 → Int32 → Option Int32) (q : Int32) (M : eMem) (hrec : ∀ (v1 : Int32) (v3 : Int32) (v4 : Int32), rec v1 v3 v4 = some q → Ev layC 0 m_X7_holds 5 [some (.ref 40), some (.int v1), some (.ref 72), some (.int v3), some (.int v4), none, none, none] [] M (some (.int q), M)) (v1 : Int32) (v3 : Int32) (v4 : Int32) (v5 : Int32) (s0 : Int32) (h : F_X7_holds_127 rec v1 v3 v4 v5 s0 M = some q) : Ev layC 0 m_X7_holds 127 [some (.ref 40), some (.int v1), some (.ref 72), some (.int v3), some (.int v4), some (.int v5), none, none] [.int s0] M (some (.int q), M) := by
  rw [F_X7_holds_127] at h
  refine Ev.istore (pc := 127) dX7_holds_127 (by decide) rfl rfl ?_
  refine Ev.goto (pc := 129) (tgt := 151) dX7_holds_129 (by decide) ?_
  exact Ev.fg (ev_X7_holds_151 _ _ _ hrec _ _ _ _ _ h) (And.intro rfl (And.intro rfl (And.intro rfl (And.intro rfl (And.intro rfl (And.intro rfl (And.intro rfl trivial)))))))
def F_X7_holds_149 (rec : Int32 → Int32 → Int32 → Option Int32) (v1 : Int32) (v3 : Int32) (v4 : Int32) (v5 : Int32) (s0 : Int32) (M : eMem) : Option Int32 :=
  F_X7_holds_151 (fun v1 v3 v4 => rec v1 v3 v4) v1 v3 v4 v5 s0 M
set_option maxRecDepth 100000 in
set_option maxHeartbeats 4000000 in
theorem ev_X7_holds_149 (rec : Int32 → Int32 → Int32 → Option Int32) (q : Int32) (M : eMem) (hrec : ∀ (v1 : Int32) (v3 : Int32) (v4 : Int32), rec v1 v3 v4 = some q → Ev layC 0 m_X7_holds 5 [some (.ref 40), some (.int v1), some (.ref 72), some (.int v3), some (.int v4), none, none, none] [] M (some (.int q), M)) (v1 : Int32) (v3 : Int32) (v4 : Int32) (v5 : Int32) (s0 : Int32) (h : F_X7_holds_149 rec v1 v3 v4 v5 s0 M = some q) : Ev layC 0 m_X7_holds 149 [some (.ref 40), some (.int v1), some (.ref 72), some (.int v3), some (.int v4), some (.int v5), none, none] [.int s0] M (some (.int q), M) := by
  rw [F_X7_holds_149] at h
  refine Ev.istore (pc := 149) dX7_holds_149 (by decide) rfl rfl ?_
  exact Ev.fg (ev_X7_holds_151 _ _ _ hrec _ _ _ _ _ h) (And.intro rfl (And.intro rfl (And.intro rfl (And.intro rfl (And.intro rfl (And.intro rfl (And.intro rfl trivial)))))))
def F_X7_holds_42 (rec : Int32 → Int32 → Int32 → Option Int32) (v1 : Int32) (v3 : Int32) (v4 : Int32) (v5 : Int32) (M : eMem) : Option Int32 :=
  eG (eIn v5 320) <|
  eG (eIn (M.1 50 v5.toNatClampNeg) 5) <|
  eG (eIn v5 320) <|
  if (M.1 51 v5.toNatClampNeg) = 1 then
    eG (eIn v5 320) <|
    if (M.1 72 (M.1 50 v5.toNatClampNeg).toNatClampNeg) < (M.1 52 v5.toNatClampNeg) then
      F_X7_holds_105 (fun v1 v3 v4 => rec v1 v3 v4) v1 v3 v4 v5 1 M
    else
      F_X7_holds_105 (fun v1 v3 v4 => rec v1 v3 v4) v1 v3 v4 v5 0 M
  else
  if (M.1 51 v5.toNatClampNeg) = 2 then
    eG (eIn v5 320) <|
    if (M.1 52 v5.toNatClampNeg) < (M.1 72 (M.1 50 v5.toNatClampNeg).toNatClampNeg) then
      F_X7_holds_127 (fun v1 v3 v4 => rec v1 v3 v4) v1 v3 v4 v5 1 M
    else
      F_X7_holds_127 (fun v1 v3 v4 => rec v1 v3 v4) v1 v3 v4 v5 0 M
  else
  eG (eIn v5 320) <|
  if (M.1 72 (M.1 50 v5.toNatClampNeg).toNatClampNeg) = (M.1 52 v5.toNatClampNeg) then
    F_X7_holds_149 (fun v1 v3 v4 => rec v1 v3 v4) v1 v3 v4 v5 1 M
  else
    F_X7_holds_149 (fun v1 v3 v4 => rec v1 v3 v4) v1 v3 v4 v5 0 M
set_option maxRecDepth 100000 in
set_option maxHeartbeats 4000000 in
theorem ev_X7_holds_42 (rec : Int32 → Int32 → Int32 → Option Int32) (q : Int32) (M : eMem) (hrec : ∀ (v1 : Int32) (v3 : Int32) (v4 : Int32), rec v1 v3 v4 = some q → Ev layC 0 m_X7_holds 5 [some (.ref 40), some (.int v1), some (.ref 72), some (.int v3), some (.int v4), none, none, none] [] M (some (.int q), M)) (v1 : Int32) (v3 : Int32) (v4 : Int32) (v5 : Int32) (h : F_X7_holds_42 rec v1 v3 v4 v5 M = some q) : Ev layC 0 m_X7_holds 42 [some (.ref 40), some (.int v1), some (.ref 72), some (.int v3), some (.int v4), some (.int v5), none, none] [] M (some (.int q), M) := by
  rw [F_X7_holds_42] at h
  refine Ev.aload_n (pc := 42) dX7_holds_42 rfl ?_
  refine Ev.aload_n (pc := 43) dX7_holds_43 rfl ?_
  refine Ev.getR (pc := 44) dX7_holds_44 fl_RX7_40 lC_40 rfl ?_
  refine Ev.iload (pc := 47) dX7_holds_47 rfl ?_
  obtain ⟨g9, h⟩ := eGdB h
  refine Ev.ialdj (pc := 49) dX7_holds_49 (j := v5.toNatClampNeg) lC_50 g9 rfl ?_
  obtain ⟨g9, h⟩ := eGdB h
  refine Ev.ialdj (pc := 50) dX7_holds_50 (j := (M.1 50 v5.toNatClampNeg).toNatClampNeg) lC_72 g9 rfl ?_
  refine Ev.istore (pc := 51) dX7_holds_51 (by decide) rfl rfl ?_
  refine Ev.aload_n (pc := 53) dX7_holds_53 rfl ?_
  refine Ev.getR (pc := 54) dX7_holds_54 fl_RX7_43 lC_40 rfl ?_
  refine Ev.iload (pc := 57) dX7_holds_57 rfl ?_
  obtain ⟨g9, h⟩ := eGdB h
  refine Ev.ialdj (pc := 59) dX7_holds_59 (j := v5.toNatClampNeg) lC_51 g9 rfl ?_
  by_cases cs1 : (M.1 51 v5.toNatClampNeg) = 1
  · have h := eT h cs1
    refine Ev.lookup (pc := 60) (tgt := 88) (off := 28) dX7_holds_60 (by decide) (by rw [cs1]; rfl) (by decide) ?_
    refine Ev.iload (pc := 88) dX7_holds_88 rfl ?_
    refine Ev.aload_n (pc := 90) dX7_holds_90 rfl ?_
    refine Ev.getR (pc := 91) dX7_holds_91 fl_RX7_46 lC_40 rfl ?_
    refine Ev.iload (pc := 94) dX7_holds_94 rfl ?_
    obtain ⟨g9, h⟩ := eGdB h
    refine Ev.ialdj (pc := 96) dX7_holds_96 (j := v5.toNatClampNeg) lC_52 g9 rfl ?_
    refine Ev.icmp_ge (pc := 97) (tgt := 104) dX7_holds_97 (by decide) (fun c9 => ?_) (fun c9 => ?_)
    · have h := eF h c9
      refine Ev.iconst (pc := 104) dX7_holds_104 (v := 0) (by decide) ?_
      exact Ev.fg (ev_X7_holds_105 _ _ _ hrec _ _ _ _ _ h) (And.intro rfl (And.intro rfl (And.intro rfl (And.intro rfl (And.intro rfl (And.intro rfl trivial))))))
    · have h := eT h c9
      refine Ev.iconst (pc := 100) dX7_holds_100 (v := 1) (by decide) ?_
      refine Ev.goto (pc := 101) (tgt := 105) dX7_holds_101 (by decide) ?_
      exact Ev.fg (ev_X7_holds_105 _ _ _ hrec _ _ _ _ _ h) (And.intro rfl (And.intro rfl (And.intro rfl (And.intro rfl (And.intro rfl (And.intro rfl trivial))))))
  have h := eF h cs1
  by_cases cs2 : (M.1 51 v5.toNatClampNeg) = 2
  · have h := eT h cs2
    refine Ev.lookup (pc := 60) (tgt := 110) (off := 50) dX7_holds_60 (by decide) (by rw [cs2]; rfl) (by decide) ?_
    refine Ev.iload (pc := 110) dX7_holds_110 rfl ?_
    refine Ev.aload_n (pc := 112) dX7_holds_112 rfl ?_
    refine Ev.getR (pc := 113) dX7_holds_113 fl_RX7_46 lC_40 rfl ?_
    refine Ev.iload (pc := 116) dX7_holds_116 rfl ?_
    obtain ⟨g9, h⟩ := eGdB h
    refine Ev.ialdj (pc := 118) dX7_holds_118 (j := v5.toNatClampNeg) lC_52 g9 rfl ?_
    refine Ev.icmp_le (pc := 119) (tgt := 126) dX7_holds_119 (by decide) (fun c9 => ?_) (fun c9 => ?_)
    · have h := eF h c9
      refine Ev.iconst (pc := 126) dX7_holds_126 (v := 0) (by decide) ?_
      exact Ev.fg (ev_X7_holds_127 _ _ _ hrec _ _ _ _ _ h) (And.intro rfl (And.intro rfl (And.intro rfl (And.intro rfl (And.intro rfl (And.intro rfl trivial))))))
    · have h := eT h c9
      refine Ev.iconst (pc := 122) dX7_holds_122 (v := 1) (by decide) ?_
      refine Ev.goto (pc := 123) (tgt := 127) dX7_holds_123 (by decide) ?_
      exact Ev.fg (ev_X7_holds_127 _ _ _ hrec _ _ _ _ _ h) (And.intro rfl (And.intro rfl (And.intro rfl (And.intro rfl (And.intro rfl (And.intro rfl trivial))))))
  have h := eF h cs2
  refine Ev.lookup (pc := 60) (tgt := 132) (off := 72) dX7_holds_60 (by decide) (eLk2 cs1 cs2) (by decide) ?_
  refine Ev.iload (pc := 132) dX7_holds_132 rfl ?_
  refine Ev.aload_n (pc := 134) dX7_holds_134 rfl ?_
  refine Ev.getR (pc := 135) dX7_holds_135 fl_RX7_46 lC_40 rfl ?_
  refine Ev.iload (pc := 138) dX7_holds_138 rfl ?_
  obtain ⟨g9, h⟩ := eGdB h
  refine Ev.ialdj (pc := 140) dX7_holds_140 (j := v5.toNatClampNeg) lC_52 g9 rfl ?_
  refine Ev.icmp_ne (pc := 141) (tgt := 148) dX7_holds_141 (by decide) (fun c9 => ?_) (fun c9 => ?_)
  · have h := eF h c9
    refine Ev.iconst (pc := 148) dX7_holds_148 (v := 0) (by decide) ?_
    exact Ev.fg (ev_X7_holds_149 _ _ _ hrec _ _ _ _ _ h) (And.intro rfl (And.intro rfl (And.intro rfl (And.intro rfl (And.intro rfl (And.intro rfl trivial))))))
  · have h := eT h c9
    refine Ev.iconst (pc := 144) dX7_holds_144 (v := 1) (by decide) ?_
    refine Ev.goto (pc := 145) (tgt := 149) dX7_holds_145 (by decide) ?_
    exact Ev.fg (ev_X7_holds_149 _ _ _ hrec _ _ _ _ _ h) (And.intro rfl (And.intro rfl (And.intro rfl (And.intro rfl (And.intro rfl (And.intro rfl trivial))))))
def F_X7_holds_5  : Nat → eMem → Int32 → Int32 → Int32 → Option Int32
  | 0, _, _, _, _ => none
  | n + 1, M, v1, v3, v4 =>
    eG (eIn v1 80) <|
    if v4 < (M.1 47 v1.toNatClampNeg) then
      eG (eIn ((4 * v1) + v4) 320) <|
      if (M.1 49 ((4 * v1) + v4).toNatClampNeg) = 0 then
        F_X7_holds_42 (fun v1 v3 v4 => F_X7_holds_5 n M v1 v3 v4) v1 v3 v4 ((4 * v1) + v4) M
      else
        if v3 = 0 then
          F_X7_holds_42 (fun v1 v3 v4 => F_X7_holds_5 n M v1 v3 v4) v1 1 v4 ((4 * v1) + v4) M
        else
          some 1
    else
      eG (decide (vp_nar .boolean v3 = v3)) <|
      some v3
set_option maxRecDepth 100000 in
set_option maxHeartbeats 4000000 in
theorem ev_X7_holds_5  (q : Int32) (M : eMem)  : ∀ (fuel : Nat) (v1 : Int32) (v3 : Int32) (v4 : Int32), F_X7_holds_5 fuel M v1 v3 v4 = some q → Ev layC 0 m_X7_holds 5 [some (.ref 40), some (.int v1), some (.ref 72), some (.int v3), some (.int v4), none, none, none] [] M (some (.int q), M) := by
  intro fuel
  induction fuel with
  | zero => intro v1 v3 v4 h; rw [F_X7_holds_5] at h; cases h
  | succ n ih =>
    intro v1 v3 v4 h
    rw [F_X7_holds_5] at h
    refine Ev.iload (pc := 5) dX7_holds_5 rfl ?_
    refine Ev.aload_n (pc := 7) dX7_holds_7 rfl ?_
    refine Ev.getR (pc := 8) dX7_holds_8 fl_RX7_31 lC_40 rfl ?_
    refine Ev.iload_n (pc := 11) dX7_holds_11 rfl ?_
    obtain ⟨g9, h⟩ := eGdB h
    refine Ev.ialdj (pc := 12) dX7_holds_12 (j := v1.toNatClampNeg) lC_47 g9 rfl ?_
    refine Ev.icmp_ge (pc := 13) (tgt := 171) dX7_holds_13 (by decide) (fun c9 => ?_) (fun c9 => ?_)
    · have h := eF h c9
      refine Ev.iload_n (pc := 171) dX7_holds_171 rfl ?_
      obtain ⟨g9, h⟩ := eGdB h
      have g9 := of_decide_eq_true g9
      obtain rfl := Option.some.inj h
      exact Ev.iret (pc := 172) dX7_holds_172 rfl (eNar_boolean g9)
    · have h := eT h c9
      refine Ev.iconst (pc := 16) dX7_holds_16 (v := 4) (by decide) ?_
      refine Ev.iload_n (pc := 17) dX7_holds_17 rfl ?_
      refine Ev.imul (pc := 18) dX7_holds_18 ?_
      refine Ev.iload (pc := 19) dX7_holds_19 rfl ?_
      refine Ev.iadd (pc := 21) dX7_holds_21 ?_
      refine Ev.istore (pc := 22) dX7_holds_22 (by decide) rfl rfl ?_
      refine Ev.aload_n (pc := 24) dX7_holds_24 rfl ?_
      refine Ev.getR (pc := 25) dX7_holds_25 fl_RX7_37 lC_40 rfl ?_
      refine Ev.iload (pc := 28) dX7_holds_28 rfl ?_
      obtain ⟨g9, h⟩ := eGdB h
      refine Ev.zaldj (pc := 30) dX7_holds_30 (j := ((4 * v1) + v4).toNatClampNeg) lC_49 g9 rfl ?_
      refine Ev.if_eq (pc := 31) (tgt := 42) dX7_holds_31 (by decide) (fun c9 => ?_) (fun c9 => ?_)
      · have h := eT h c9
        exact Ev.fg (ev_X7_holds_42 _ _ _ ih _ _ _ _ h) (And.intro rfl (And.intro rfl (And.intro rfl (And.intro rfl (And.intro rfl (And.intro rfl trivial))))))
      · have h := eF h c9
        refine Ev.iload_n (pc := 34) dX7_holds_34 rfl ?_
        refine Ev.if_eq (pc := 35) (tgt := 40) dX7_holds_35 (by decide) (fun c9 => ?_) (fun c9 => ?_)
        · have h := eT h c9
          refine Ev.iconst (pc := 40) dX7_holds_40 (v := 1) (by decide) ?_
          refine Ev.istore_n (pc := 41) dX7_holds_41 (by decide) rfl rfl ?_
          exact Ev.fg (ev_X7_holds_42 _ _ _ ih _ _ _ _ h) (And.intro rfl (And.intro rfl (And.intro rfl (And.intro rfl (And.intro rfl (And.intro rfl trivial))))))
        · have h := eF h c9
          refine Ev.iconst (pc := 38) dX7_holds_38 (v := 1) (by decide) ?_
          obtain rfl := Option.some.inj h
          exact Ev.iret (pc := 39) dX7_holds_39 rfl rfl
def F_X7_holds (x1 : Int32) (M : eMem) : Option Int32 :=
  F_X7_holds_5 eFuel M x1 1 0
set_option maxRecDepth 100000 in
set_option maxHeartbeats 4000000 in
theorem ev_X7_holds (x1 : Int32) (M : eMem) (q : Int32) (h : F_X7_holds x1 M = some q) : Ev layC 0 m_X7_holds 0 [some (.ref 40), some (.int x1), some (.ref 72), none, none, none, none, none] [] M (some (.int q), M) := by
  rw [F_X7_holds] at h
  refine Ev.iconst (pc := 0) dX7_holds_0 (v := 1) (by decide) ?_
  refine Ev.istore_n (pc := 1) dX7_holds_1 (by decide) rfl rfl ?_
  refine Ev.iconst (pc := 2) dX7_holds_2 (v := 0) (by decide) ?_
  refine Ev.istore (pc := 3) dX7_holds_3 (by decide) rfl rfl ?_
  exact Ev.fg (ev_X7_holds_5 _ _ _ _ _ _ h) (And.intro rfl (And.intro rfl (And.intro rfl (And.intro rfl (And.intro rfl trivial)))))
theorem dX7_clauseAbout_0 : decode cX7_clauseAbout 0 = .ok (.aload_n 0, 1) := by decide +kernel
theorem dX7_clauseAbout_1 : decode cX7_clauseAbout 1 = .ok (.getfield 49, 3) := by decide +kernel
theorem dX7_clauseAbout_4 : decode cX7_clauseAbout 4 = .ok (.iconst 1, 1) := by decide +kernel
theorem dX7_clauseAbout_5 : decode cX7_clauseAbout 5 = .ok (.isub, 1) := by decide +kernel
theorem dX7_clauseAbout_6 : decode cX7_clauseAbout 6 = .ok (.istore 4, 2) := by decide +kernel
theorem dX7_clauseAbout_8 : decode cX7_clauseAbout 8 = .ok (.iload 4, 2) := by decide +kernel
theorem dX7_clauseAbout_10 : decode cX7_clauseAbout 10 = .ok (.ifCond .lt 101, 3) := by decide +kernel
theorem dX7_clauseAbout_13 : decode cX7_clauseAbout 13 = .ok (.aload_n 0, 1) := by decide +kernel
theorem dX7_clauseAbout_14 : decode cX7_clauseAbout 14 = .ok (.getfield 18, 3) := by decide +kernel
theorem dX7_clauseAbout_17 : decode cX7_clauseAbout 17 = .ok (.iload 4, 2) := by decide +kernel
theorem dX7_clauseAbout_19 : decode cX7_clauseAbout 19 = .ok (.baload, 1) := by decide +kernel
theorem dX7_clauseAbout_20 : decode cX7_clauseAbout 20 = .ok (.ifCond .ne 85, 3) := by decide +kernel
theorem dX7_clauseAbout_23 : decode cX7_clauseAbout 23 = .ok (.iload_n 2, 1) := by decide +kernel
theorem dX7_clauseAbout_24 : decode cX7_clauseAbout 24 = .ok (.aload_n 0, 1) := by decide +kernel
theorem dX7_clauseAbout_25 : decode cX7_clauseAbout 25 = .ok (.getfield 9, 3) := by decide +kernel
theorem dX7_clauseAbout_28 : decode cX7_clauseAbout 28 = .ok (.iload 4, 2) := by decide +kernel
theorem dX7_clauseAbout_30 : decode cX7_clauseAbout 30 = .ok (.iaload, 1) := by decide +kernel
theorem dX7_clauseAbout_31 : decode cX7_clauseAbout 31 = .ok (.aload_n 0, 1) := by decide +kernel
theorem dX7_clauseAbout_32 : decode cX7_clauseAbout 32 = .ok (.getfield 15, 3) := by decide +kernel
theorem dX7_clauseAbout_35 : decode cX7_clauseAbout 35 = .ok (.iload 4, 2) := by decide +kernel
theorem dX7_clauseAbout_37 : decode cX7_clauseAbout 37 = .ok (.iaload, 1) := by decide +kernel
theorem dX7_clauseAbout_38 : decode cX7_clauseAbout 38 = .ok (.invokestatic 57, 3) := by decide +kernel
theorem dX7_clauseAbout_41 : decode cX7_clauseAbout 41 = .ok (.ifCond .ne 6, 3) := by decide +kernel
theorem dX7_clauseAbout_44 : decode cX7_clauseAbout 44 = .ok (.goto 61, 3) := by decide +kernel
theorem dX7_clauseAbout_47 : decode cX7_clauseAbout 47 = .ok (.iconst 0, 1) := by decide +kernel
theorem dX7_clauseAbout_48 : decode cX7_clauseAbout 48 = .ok (.istore 5, 2) := by decide +kernel
theorem dX7_clauseAbout_50 : decode cX7_clauseAbout 50 = .ok (.iload 5, 2) := by decide +kernel
theorem dX7_clauseAbout_52 : decode cX7_clauseAbout 52 = .ok (.aload_n 0, 1) := by decide +kernel
theorem dX7_clauseAbout_53 : decode cX7_clauseAbout 53 = .ok (.getfield 22, 3) := by decide +kernel
theorem dX7_clauseAbout_56 : decode cX7_clauseAbout 56 = .ok (.iload 4, 2) := by decide +kernel
theorem dX7_clauseAbout_58 : decode cX7_clauseAbout 58 = .ok (.iaload, 1) := by decide +kernel
theorem dX7_clauseAbout_59 : decode cX7_clauseAbout 59 = .ok (.if_icmp .ge 46, 3) := by decide +kernel
theorem dX7_clauseAbout_62 : decode cX7_clauseAbout 62 = .ok (.bipush 10, 2) := by decide +kernel
theorem dX7_clauseAbout_64 : decode cX7_clauseAbout 64 = .ok (.iload 4, 2) := by decide +kernel
theorem dX7_clauseAbout_66 : decode cX7_clauseAbout 66 = .ok (.imul, 1) := by decide +kernel
theorem dX7_clauseAbout_67 : decode cX7_clauseAbout 67 = .ok (.iload 5, 2) := by decide +kernel
theorem dX7_clauseAbout_69 : decode cX7_clauseAbout 69 = .ok (.iadd, 1) := by decide +kernel
theorem dX7_clauseAbout_70 : decode cX7_clauseAbout 70 = .ok (.istore 6, 2) := by decide +kernel
theorem dX7_clauseAbout_72 : decode cX7_clauseAbout 72 = .ok (.iload_n 1, 1) := by decide +kernel
theorem dX7_clauseAbout_73 : decode cX7_clauseAbout 73 = .ok (.aload_n 0, 1) := by decide +kernel
theorem dX7_clauseAbout_74 : decode cX7_clauseAbout 74 = .ok (.getfield 28, 3) := by decide +kernel
theorem dX7_clauseAbout_77 : decode cX7_clauseAbout 77 = .ok (.iload 6, 2) := by decide +kernel
theorem dX7_clauseAbout_79 : decode cX7_clauseAbout 79 = .ok (.iaload, 1) := by decide +kernel
theorem dX7_clauseAbout_80 : decode cX7_clauseAbout 80 = .ok (.invokestatic 61, 3) := by decide +kernel
theorem dX7_clauseAbout_83 : decode cX7_clauseAbout 83 = .ok (.ifCond .eq 16, 3) := by decide +kernel
theorem dX7_clauseAbout_86 : decode cX7_clauseAbout 86 = .ok (.aload_n 0, 1) := by decide +kernel
theorem dX7_clauseAbout_87 : decode cX7_clauseAbout 87 = .ok (.iload 6, 2) := by decide +kernel
theorem dX7_clauseAbout_89 : decode cX7_clauseAbout 89 = .ok (.aload_n 3, 1) := by decide +kernel
theorem dX7_clauseAbout_90 : decode cX7_clauseAbout 90 = .ok (.invokevirtual 64, 3) := by decide +kernel
theorem dX7_clauseAbout_93 : decode cX7_clauseAbout 93 = .ok (.ifCond .eq 6, 3) := by decide +kernel
theorem dX7_clauseAbout_96 : decode cX7_clauseAbout 96 = .ok (.iload 6, 2) := by decide +kernel
theorem dX7_clauseAbout_98 : decode cX7_clauseAbout 98 = .ok (.ireturn, 1) := by decide +kernel
theorem dX7_clauseAbout_99 : decode cX7_clauseAbout 99 = .ok (.iinc 5 1, 3) := by decide +kernel
theorem dX7_clauseAbout_102 : decode cX7_clauseAbout 102 = .ok (.goto (-52), 3) := by decide +kernel
theorem dX7_clauseAbout_105 : decode cX7_clauseAbout 105 = .ok (.iinc 4 (-1), 3) := by decide +kernel
theorem dX7_clauseAbout_108 : decode cX7_clauseAbout 108 = .ok (.goto (-100), 3) := by decide +kernel
theorem dX7_clauseAbout_111 : decode cX7_clauseAbout 111 = .ok (.iconst (-1), 1) := by decide +kernel
theorem dX7_clauseAbout_112 : decode cX7_clauseAbout 112 = .ok (.ireturn, 1) := by decide +kernel
def F_X7_clauseAbout_50 (K105 : Int32 → Int32 → Int32 → Option Int32) : Nat → eMem → Int32 → Int32 → Int32 → Int32 → Option Int32
  | 0, _, _, _, _, _ => none
  | n + 1, M, v1, v2, v4, v5 =>
    eG (eIn v4 8) <|
    if v5 < (M.1 44 v4.toNatClampNeg) then
      eG (eIn ((10 * v4) + v5) 80) <|
      (F_X9_isUnder v1 (M.1 46 ((10 * v4) + v5).toNatClampNeg)).bind fun q2 =>
      if q2 = 0 then
        F_X7_clauseAbout_50 K105 n M v1 v2 v4 (v5 + 1)
      else
        (F_X7_holds ((10 * v4) + v5) M).bind fun q3 =>
        if q3 = 0 then
          F_X7_clauseAbout_50 K105 n M v1 v2 v4 (v5 + 1)
        else
          some ((10 * v4) + v5)
    else
      K105 v1 v2 v4
set_option maxRecDepth 100000 in
set_option maxHeartbeats 4000000 in
theorem ev_X7_clauseAbout_50 (K105 : Int32 → Int32 → Int32 → Option Int32) (q : Int32) (M : eMem) (hK105 : ∀ (v1 : Int32) (v2 : Int32) (v4 : Int32), K105 v1 v2 v4 = some q → Ev layC 1 m_X7_clauseAbout 105 [some (.ref 40), some (.int v1), some (.int v2), some (.ref 72), some (.int v4), none, none] [] M (some (.int q), M)) : ∀ (fuel : Nat) (v1 : Int32) (v2 : Int32) (v4 : Int32) (v5 : Int32), F_X7_clauseAbout_50 K105 fuel M v1 v2 v4 v5 = some q → Ev layC 1 m_X7_clauseAbout 50 [some (.ref 40), some (.int v1), some (.int v2), some (.ref 72), some (.int v4), some (.int v5), none] [] M (some (.int q), M) := by
  intro fuel
  induction fuel with
  | zero => intro v1 v2 v4 v5 h; rw [F_X7_clauseAbout_50] at h; cases h
  | succ n ih =>
    intro v1 v2 v4 v5 h
    rw [F_X7_clauseAbout_50] at h
    refine Ev.iload (pc := 50) dX7_clauseAbout_50 rfl ?_
    refine Ev.aload_n (pc := 52) dX7_clauseAbout_52 rfl ?_
    refine Ev.getR (pc := 53) dX7_clauseAbout_53 fl_RX7_22 lC_40 rfl ?_
    refine Ev.iload (pc := 56) dX7_clauseAbout_56 rfl ?_
    obtain ⟨g9, h⟩ := eGdB h
    refine Ev.ialdj (pc := 58) dX7_clauseAbout_58 (j := v4.toNatClampNeg) lC_44 g9 rfl ?_
    refine Ev.icmp_ge (pc := 59) (tgt := 105) dX7_clauseAbout_59 (by decide) (fun c9 => ?_) (fun c9 => ?_)
    · have h := eF h c9
      exact Ev.fg (hK105 _ _ _ h) (And.intro rfl (And.intro rfl (And.intro rfl (And.intro rfl (And.intro rfl trivial)))))
    · have h := eT h c9
      refine Ev.bipush (pc := 62) dX7_clauseAbout_62 (v := 10) (by decide) ?_
      refine Ev.iload (pc := 64) dX7_clauseAbout_64 rfl ?_
      refine Ev.imul (pc := 66) dX7_clauseAbout_66 ?_
      refine Ev.iload (pc := 67) dX7_clauseAbout_67 rfl ?_
      refine Ev.iadd (pc := 69) dX7_clauseAbout_69 ?_
      refine Ev.istore (pc := 70) dX7_clauseAbout_70 (by decide) rfl rfl ?_
      refine Ev.iload_n (pc := 72) dX7_clauseAbout_72 rfl ?_
      refine Ev.aload_n (pc := 73) dX7_clauseAbout_73 rfl ?_
      refine Ev.getR (pc := 74) dX7_clauseAbout_74 fl_RX7_28 lC_40 rfl ?_
      refine Ev.iload (pc := 77) dX7_clauseAbout_77 rfl ?_
      obtain ⟨g9, h⟩ := eGdB h
      refine Ev.ialdj (pc := 79) dX7_clauseAbout_79 (j := ((10 * v4) + v5).toNatClampNeg) lC_46 g9 rfl ?_
      refine eBk h (fun q2 hq2 h => ?_)
      refine Ev.callSN (host := "GhostCoast") (pc := 80) (as := [.int v1, .int (M.1 46 ((10 * v4) + v5).toNatClampNeg)]) (st := []) (z := 0) dX7_clauseAbout_80 wc_X9_isUnder mn_RX7_61 sm_X9_isUnder (ev_X9_isUnder v1 (M.1 46 ((10 * v4) + v5).toNatClampNeg) M _ hq2) rfl rfl (by decide) rfl rfl (Nat.le_of_ble_eq_true rfl) ?_
      refine Ev.if_eq (pc := 83) (tgt := 99) dX7_clauseAbout_83 (by decide) (fun c9 => ?_) (fun c9 => ?_)
      · have h := eT h c9
        refine Ev.iincv (pc := 99) dX7_clauseAbout_99 (v := 1) (by decide) rfl (by decide) rfl rfl ?_
        refine Ev.goto (pc := 102) (tgt := 50) dX7_clauseAbout_102 (by decide) ?_
        exact Ev.fg (ih _ _ _ _ h) (And.intro rfl (And.intro rfl (And.intro rfl (And.intro rfl (And.intro rfl (And.intro rfl trivial))))))
      · have h := eF h c9
        refine Ev.aload_n (pc := 86) dX7_clauseAbout_86 rfl ?_
        refine Ev.iload (pc := 87) dX7_clauseAbout_87 rfl ?_
        refine Ev.aload_n (pc := 89) dX7_clauseAbout_89 rfl ?_
        refine eBk h (fun q3 hq3 h => ?_)
        refine Ev.callV (pc := 90) (as := [.int ((10 * v4) + v5), .ref 72]) (st := []) (z := 5) dX7_clauseAbout_90 wc_X7_holds ml_RX7_64 im_X7_holds se_X7_holds lC_40 rfl rfl (ev_X7_holds ((10 * v4) + v5) M _ hq3) rfl rfl (by decide) rfl rfl (Nat.le_of_ble_eq_true rfl) ?_
        refine Ev.if_eq (pc := 93) (tgt := 99) dX7_clauseAbout_93 (by decide) (fun c9 => ?_) (fun c9 => ?_)
        · have h := eT h c9
          refine Ev.iincv (pc := 99) dX7_clauseAbout_99 (v := 1) (by decide) rfl (by decide) rfl rfl ?_
          refine Ev.goto (pc := 102) (tgt := 50) dX7_clauseAbout_102 (by decide) ?_
          exact Ev.fg (ih _ _ _ _ h) (And.intro rfl (And.intro rfl (And.intro rfl (And.intro rfl (And.intro rfl (And.intro rfl trivial))))))
        · have h := eF h c9
          refine Ev.iload (pc := 96) dX7_clauseAbout_96 rfl ?_
          obtain rfl := Option.some.inj h
          exact Ev.iret (pc := 98) dX7_clauseAbout_98 rfl rfl
def F_X7_clauseAbout_8  : Nat → eMem → Int32 → Int32 → Int32 → Option Int32
  | 0, _, _, _, _ => none
  | n + 1, M, v1, v2, v4 =>
    if v4 < 0 then
      some (-1)
    else
      eG (eIn v4 8) <|
      if (M.1 43 v4.toNatClampNeg) = 0 then
        eG (eIn v4 8) <|
        eG (eIn v4 8) <|
        (F_X9_isBetween v2 (M.1 41 v4.toNatClampNeg) (M.1 42 v4.toNatClampNeg)).bind fun q1 =>
        if q1 = 0 then
          F_X7_clauseAbout_8 n M v1 v2 (v4 + (-1))
        else
          F_X7_clauseAbout_50
            (fun v1 v2 v4 =>
              F_X7_clauseAbout_8 n M v1 v2 (v4 + (-1)))
            eFuel M v1 v2 v4 0
      else
        F_X7_clauseAbout_8 n M v1 v2 (v4 + (-1))
set_option maxRecDepth 100000 in
set_option maxHeartbeats 4000000 in
theorem ev_X7_clauseAbout_8  (q : Int32) (M : eMem)  : ∀ (fuel : Nat) (v1 : Int32) (v2 : Int32) (v4 : Int32), F_X7_clauseAbout_8 fuel M v1 v2 v4 = some q → Ev layC 1 m_X7_clauseAbout 8 [some (.ref 40), some (.int v1), some (.int v2), some (.ref 72), some (.int v4), none, none] [] M (some (.int q), M) := by
  intro fuel
  induction fuel with
  | zero => intro v1 v2 v4 h; rw [F_X7_clauseAbout_8] at h; cases h
  | succ n ih =>
    intro v1 v2 v4 h
    rw [F_X7_clauseAbout_8] at h
    refine Ev.iload (pc := 8) dX7_clauseAbout_8 rfl ?_
    refine Ev.if_lt (pc := 10) (tgt := 111) dX7_clauseAbout_10 (by decide) (fun c9 => ?_) (fun c9 => ?_)
    · have h := eT h c9
      refine Ev.iconst (pc := 111) dX7_clauseAbout_111 (v := (-1)) (by decide) ?_
      obtain rfl := Option.some.inj h
      exact Ev.iret (pc := 112) dX7_clauseAbout_112 rfl rfl
    · have h := eF h c9
      refine Ev.aload_n (pc := 13) dX7_clauseAbout_13 rfl ?_
      refine Ev.getR (pc := 14) dX7_clauseAbout_14 fl_RX7_18 lC_40 rfl ?_
      refine Ev.iload (pc := 17) dX7_clauseAbout_17 rfl ?_
      obtain ⟨g9, h⟩ := eGdB h
      refine Ev.zaldj (pc := 19) dX7_clauseAbout_19 (j := v4.toNatClampNeg) lC_43 g9 rfl ?_
      refine Ev.if_ne (pc := 20) (tgt := 105) dX7_clauseAbout_20 (by decide) (fun c9 => ?_) (fun c9 => ?_)
      · have h := eF h c9
        refine Ev.iincv (pc := 105) dX7_clauseAbout_105 (v := (-1)) (by decide) rfl (by decide) rfl rfl ?_
        refine Ev.goto (pc := 108) (tgt := 8) dX7_clauseAbout_108 (by decide) ?_
        exact Ev.fg (ih _ _ _ h) (And.intro rfl (And.intro rfl (And.intro rfl (And.intro rfl (And.intro rfl trivial)))))
      · have h := eT h c9
        refine Ev.iload_n (pc := 23) dX7_clauseAbout_23 rfl ?_
        refine Ev.aload_n (pc := 24) dX7_clauseAbout_24 rfl ?_
        refine Ev.getR (pc := 25) dX7_clauseAbout_25 fl_RX7_9 lC_40 rfl ?_
        refine Ev.iload (pc := 28) dX7_clauseAbout_28 rfl ?_
        obtain ⟨g9, h⟩ := eGdB h
        refine Ev.ialdj (pc := 30) dX7_clauseAbout_30 (j := v4.toNatClampNeg) lC_41 g9 rfl ?_
        refine Ev.aload_n (pc := 31) dX7_clauseAbout_31 rfl ?_
        refine Ev.getR (pc := 32) dX7_clauseAbout_32 fl_RX7_15 lC_40 rfl ?_
        refine Ev.iload (pc := 35) dX7_clauseAbout_35 rfl ?_
        obtain ⟨g9, h⟩ := eGdB h
        refine Ev.ialdj (pc := 37) dX7_clauseAbout_37 (j := v4.toNatClampNeg) lC_42 g9 rfl ?_
        refine eBk h (fun q1 hq1 h => ?_)
        refine Ev.callSN (host := "GhostCoast") (pc := 38) (as := [.int v2, .int (M.1 41 v4.toNatClampNeg), .int (M.1 42 v4.toNatClampNeg)]) (st := []) (z := 0) dX7_clauseAbout_38 wc_X9_isBetween mn_RX7_57 sm_X9_isBetween (ev_X9_isBetween v2 (M.1 41 v4.toNatClampNeg) (M.1 42 v4.toNatClampNeg) M _ hq1) rfl rfl (by decide) rfl rfl (Nat.le_of_ble_eq_true rfl) ?_
        refine Ev.if_ne (pc := 41) (tgt := 47) dX7_clauseAbout_41 (by decide) (fun c9 => ?_) (fun c9 => ?_)
        · have h := eF h c9
          refine Ev.iconst (pc := 47) dX7_clauseAbout_47 (v := 0) (by decide) ?_
          refine Ev.istore (pc := 48) dX7_clauseAbout_48 (by decide) rfl rfl ?_
          refine Ev.fg (ev_X7_clauseAbout_50 _ _ _ ?_ _ _ _ _ _ h) (And.intro rfl (And.intro rfl (And.intro rfl (And.intro rfl (And.intro rfl (And.intro rfl trivial))))))
          · intro v1 v2 v4 h
            refine Ev.iincv (pc := 105) dX7_clauseAbout_105 (v := (-1)) (by decide) rfl (by decide) rfl rfl ?_
            refine Ev.goto (pc := 108) (tgt := 8) dX7_clauseAbout_108 (by decide) ?_
            exact Ev.fg (ih _ _ _ h) (And.intro rfl (And.intro rfl (And.intro rfl (And.intro rfl (And.intro rfl trivial)))))
        · have h := eT h c9
          refine Ev.goto (pc := 44) (tgt := 105) dX7_clauseAbout_44 (by decide) ?_
          refine Ev.iincv (pc := 105) dX7_clauseAbout_105 (v := (-1)) (by decide) rfl (by decide) rfl rfl ?_
          refine Ev.goto (pc := 108) (tgt := 8) dX7_clauseAbout_108 (by decide) ?_
          exact Ev.fg (ih _ _ _ h) (And.intro rfl (And.intro rfl (And.intro rfl (And.intro rfl (And.intro rfl trivial)))))
def F_X7_clauseAbout (x1 : Int32) (x2 : Int32) (M : eMem) : Option Int32 :=
  F_X7_clauseAbout_8 eFuel M x1 x2 ((M.1 40 4) - 1)
set_option maxRecDepth 100000 in
set_option maxHeartbeats 4000000 in
theorem ev_X7_clauseAbout (x1 : Int32) (x2 : Int32) (M : eMem) (q : Int32) (h : F_X7_clauseAbout x1 x2 M = some q) : Ev layC 1 m_X7_clauseAbout 0 [some (.ref 40), some (.int x1), some (.int x2), some (.ref 72), none, none, none] [] M (some (.int q), M) := by
  rw [F_X7_clauseAbout] at h
  refine Ev.aload_n (pc := 0) dX7_clauseAbout_0 rfl ?_
  refine Ev.getI (pc := 1) dX7_clauseAbout_1 fl_RX7_49 lC_40 rfl ?_
  refine Ev.iconst (pc := 4) dX7_clauseAbout_4 (v := 1) (by decide) ?_
  refine Ev.isub (pc := 5) dX7_clauseAbout_5 ?_
  refine Ev.istore (pc := 6) dX7_clauseAbout_6 (by decide) rfl rfl ?_
  exact Ev.fg (ev_X7_clauseAbout_8 _ _ _ _ _ _ h) (And.intro rfl (And.intro rfl (And.intro rfl (And.intro rfl (And.intro rfl trivial)))))
theorem dX8_clauseOf_0 : decode cX8_clauseOf 0 = .ok (.aload_n 0, 1) := by decide +kernel
theorem dX8_clauseOf_1 : decode cX8_clauseOf 1 = .ok (.getfield 12, 3) := by decide +kernel
theorem dX8_clauseOf_4 : decode cX8_clauseOf 4 = .ok (.getfield 85, 3) := by decide +kernel
theorem dX8_clauseOf_7 : decode cX8_clauseOf 7 = .ok (.bipush 24, 2) := by decide +kernel
theorem dX8_clauseOf_9 : decode cX8_clauseOf 9 = .ok (.idiv, 1) := by decide +kernel
theorem dX8_clauseOf_10 : decode cX8_clauseOf 10 = .ok (.istore_n 2, 1) := by decide +kernel
theorem dX8_clauseOf_11 : decode cX8_clauseOf 11 = .ok (.aload_n 0, 1) := by decide +kernel
theorem dX8_clauseOf_12 : decode cX8_clauseOf 12 = .ok (.getfield 60, 3) := by decide +kernel
theorem dX8_clauseOf_15 : decode cX8_clauseOf 15 = .ok (.iconst 0, 1) := by decide +kernel
theorem dX8_clauseOf_16 : decode cX8_clauseOf 16 = .ok (.iload_n 2, 1) := by decide +kernel
theorem dX8_clauseOf_17 : decode cX8_clauseOf 17 = .ok (.iastore, 1) := by decide +kernel
theorem dX8_clauseOf_18 : decode cX8_clauseOf 18 = .ok (.aload_n 0, 1) := by decide +kernel
theorem dX8_clauseOf_19 : decode cX8_clauseOf 19 = .ok (.getfield 60, 3) := by decide +kernel
theorem dX8_clauseOf_22 : decode cX8_clauseOf 22 = .ok (.iconst 1, 1) := by decide +kernel
theorem dX8_clauseOf_23 : decode cX8_clauseOf 23 = .ok (.aload_n 0, 1) := by decide +kernel
theorem dX8_clauseOf_24 : decode cX8_clauseOf 24 = .ok (.getfield 12, 3) := by decide +kernel
theorem dX8_clauseOf_27 : decode cX8_clauseOf 27 = .ok (.getfield 85, 3) := by decide +kernel
theorem dX8_clauseOf_30 : decode cX8_clauseOf 30 = .ok (.bipush 24, 2) := by decide +kernel
theorem dX8_clauseOf_32 : decode cX8_clauseOf 32 = .ok (.irem, 1) := by decide +kernel
theorem dX8_clauseOf_33 : decode cX8_clauseOf 33 = .ok (.iastore, 1) := by decide +kernel
theorem dX8_clauseOf_34 : decode cX8_clauseOf 34 = .ok (.aload_n 0, 1) := by decide +kernel
theorem dX8_clauseOf_35 : decode cX8_clauseOf 35 = .ok (.getfield 60, 3) := by decide +kernel
theorem dX8_clauseOf_38 : decode cX8_clauseOf 38 = .ok (.iconst 2, 1) := by decide +kernel
theorem dX8_clauseOf_39 : decode cX8_clauseOf 39 = .ok (.aload_n 0, 1) := by decide +kernel
theorem dX8_clauseOf_40 : decode cX8_clauseOf 40 = .ok (.getfield 21, 3) := by decide +kernel
theorem dX8_clauseOf_43 : decode cX8_clauseOf 43 = .ok (.getfield 89, 3) := by decide +kernel
theorem dX8_clauseOf_46 : decode cX8_clauseOf 46 = .ok (.iload_n 1, 1) := by decide +kernel
theorem dX8_clauseOf_47 : decode cX8_clauseOf 47 = .ok (.iaload, 1) := by decide +kernel
theorem dX8_clauseOf_48 : decode cX8_clauseOf 48 = .ok (.iastore, 1) := by decide +kernel
theorem dX8_clauseOf_49 : decode cX8_clauseOf 49 = .ok (.aload_n 0, 1) := by decide +kernel
theorem dX8_clauseOf_50 : decode cX8_clauseOf 50 = .ok (.getfield 60, 3) := by decide +kernel
theorem dX8_clauseOf_53 : decode cX8_clauseOf 53 = .ok (.iconst 3, 1) := by decide +kernel
theorem dX8_clauseOf_54 : decode cX8_clauseOf 54 = .ok (.aload_n 0, 1) := by decide +kernel
theorem dX8_clauseOf_55 : decode cX8_clauseOf 55 = .ok (.getfield 21, 3) := by decide +kernel
theorem dX8_clauseOf_58 : decode cX8_clauseOf 58 = .ok (.getfield 92, 3) := by decide +kernel
theorem dX8_clauseOf_61 : decode cX8_clauseOf 61 = .ok (.iload_n 1, 1) := by decide +kernel
theorem dX8_clauseOf_62 : decode cX8_clauseOf 62 = .ok (.iaload, 1) := by decide +kernel
theorem dX8_clauseOf_63 : decode cX8_clauseOf 63 = .ok (.iastore, 1) := by decide +kernel
theorem dX8_clauseOf_64 : decode cX8_clauseOf 64 = .ok (.aload_n 0, 1) := by decide +kernel
theorem dX8_clauseOf_65 : decode cX8_clauseOf 65 = .ok (.getfield 60, 3) := by decide +kernel
theorem dX8_clauseOf_68 : decode cX8_clauseOf 68 = .ok (.iconst 4, 1) := by decide +kernel
theorem dX8_clauseOf_69 : decode cX8_clauseOf 69 = .ok (.aload_n 0, 1) := by decide +kernel
theorem dX8_clauseOf_70 : decode cX8_clauseOf 70 = .ok (.getfield 21, 3) := by decide +kernel
theorem dX8_clauseOf_73 : decode cX8_clauseOf 73 = .ok (.getfield 95, 3) := by decide +kernel
theorem dX8_clauseOf_76 : decode cX8_clauseOf 76 = .ok (.iload_n 1, 1) := by decide +kernel
theorem dX8_clauseOf_77 : decode cX8_clauseOf 77 = .ok (.iaload, 1) := by decide +kernel
theorem dX8_clauseOf_78 : decode cX8_clauseOf 78 = .ok (.iastore, 1) := by decide +kernel
theorem dX8_clauseOf_79 : decode cX8_clauseOf 79 = .ok (.aload_n 0, 1) := by decide +kernel
theorem dX8_clauseOf_80 : decode cX8_clauseOf 80 = .ok (.getfield 42, 3) := by decide +kernel
theorem dX8_clauseOf_83 : decode cX8_clauseOf 83 = .ok (.aload_n 0, 1) := by decide +kernel
theorem dX8_clauseOf_84 : decode cX8_clauseOf 84 = .ok (.getfield 21, 3) := by decide +kernel
theorem dX8_clauseOf_87 : decode cX8_clauseOf 87 = .ok (.getfield 98, 3) := by decide +kernel
theorem dX8_clauseOf_90 : decode cX8_clauseOf 90 = .ok (.iload_n 1, 1) := by decide +kernel
theorem dX8_clauseOf_91 : decode cX8_clauseOf 91 = .ok (.iaload, 1) := by decide +kernel
theorem dX8_clauseOf_92 : decode cX8_clauseOf 92 = .ok (.iload_n 2, 1) := by decide +kernel
theorem dX8_clauseOf_93 : decode cX8_clauseOf 93 = .ok (.aload_n 0, 1) := by decide +kernel
theorem dX8_clauseOf_94 : decode cX8_clauseOf 94 = .ok (.getfield 60, 3) := by decide +kernel
theorem dX8_clauseOf_97 : decode cX8_clauseOf 97 = .ok (.invokevirtual 101, 3) := by decide +kernel
theorem dX8_clauseOf_100 : decode cX8_clauseOf 100 = .ok (.ireturn, 1) := by decide +kernel
def F_X8_clauseOf (x1 : Int32) (M : eMem) : Option (Int32 × eMem) :=
  eG (eIn x1 20) <|
  eG (eIn x1 20) <|
  eG (eIn x1 20) <|
  eG (eIn x1 20) <|
  (F_X7_clauseAbout (M.1 13 x1.toNatClampNeg) ((M.1 2 11) / 24) (eI (eI (eI (eI (eI M 72 0 ((M.1 2 11) / 24)) 72 1 ((M.1 2 11) - (M.1 2 11) / 24 * 24)) 72 2 (M.1 21 x1.toNatClampNeg)) 72 3 (M.1 14 x1.toNatClampNeg)) 72 4 (M.1 15 x1.toNatClampNeg))).bind fun q1 =>
  some (q1, (eI (eI (eI (eI (eI M 72 0 ((M.1 2 11) / 24)) 72 1 ((M.1 2 11) - (M.1 2 11) / 24 * 24)) 72 2 (M.1 21 x1.toNatClampNeg)) 72 3 (M.1 14 x1.toNatClampNeg)) 72 4 (M.1 15 x1.toNatClampNeg)))
set_option maxRecDepth 100000 in
set_option maxHeartbeats 4000000 in
theorem ev_X8_clauseOf (x1 : Int32) (M : eMem) (q : (Int32 × eMem)) (h : F_X8_clauseOf x1 M = some q) : Ev layC 2 m_X8_clauseOf 0 [some (.ref 1), some (.int x1), none] [] M (some (.int q.1), q.2) := by
  rw [F_X8_clauseOf] at h
  refine Ev.aload_n (pc := 0) dX8_clauseOf_0 rfl ?_
  refine Ev.getR (pc := 1) dX8_clauseOf_1 fl_RX8_12 lC_1 rfl ?_
  refine Ev.getI (pc := 4) dX8_clauseOf_4 fl_RX8_85 lC_2 rfl ?_
  refine Ev.bipush (pc := 7) dX8_clauseOf_7 (v := 24) (by decide) ?_
  refine Ev.idiv (pc := 9) dX8_clauseOf_9 (by decide) ?_
  refine Ev.istore_n (pc := 10) dX8_clauseOf_10 (by decide) rfl rfl ?_
  refine Ev.aload_n (pc := 11) dX8_clauseOf_11 rfl ?_
  refine Ev.getR (pc := 12) dX8_clauseOf_12 fl_RX8_60 lC_1 rfl ?_
  refine Ev.iconst (pc := 15) dX8_clauseOf_15 (v := 0) (by decide) ?_
  refine Ev.iload_n (pc := 16) dX8_clauseOf_16 rfl ?_
  refine Ev.iastj (pc := 17) dX8_clauseOf_17 (j := 0) lC_72 (by decide) (by decide) ?_
  refine Ev.aload_n (pc := 18) dX8_clauseOf_18 rfl ?_
  refine Ev.getR (pc := 19) dX8_clauseOf_19 fl_RX8_60 lC_1 rfl ?_
  refine Ev.iconst (pc := 22) dX8_clauseOf_22 (v := 1) (by decide) ?_
  refine Ev.aload_n (pc := 23) dX8_clauseOf_23 rfl ?_
  refine Ev.getR (pc := 24) dX8_clauseOf_24 fl_RX8_12 lC_1 rfl ?_
  refine Ev.getIv (pc := 27) dX8_clauseOf_27 (v := (M.1 2 11)) fl_RX8_85 lC_2 rfl (eI_n (by decide)) ?_
  refine Ev.bipush (pc := 30) dX8_clauseOf_30 (v := 24) (by decide) ?_
  refine Ev.irem (pc := 32) dX8_clauseOf_32 (by decide) ?_
  refine Ev.iastj (pc := 33) dX8_clauseOf_33 (j := 1) lC_72 (by decide) (by decide) ?_
  refine Ev.aload_n (pc := 34) dX8_clauseOf_34 rfl ?_
  refine Ev.getR (pc := 35) dX8_clauseOf_35 fl_RX8_60 lC_1 rfl ?_
  refine Ev.iconst (pc := 38) dX8_clauseOf_38 (v := 2) (by decide) ?_
  refine Ev.aload_n (pc := 39) dX8_clauseOf_39 rfl ?_
  refine Ev.getR (pc := 40) dX8_clauseOf_40 fl_RX8_21 lC_1 rfl ?_
  refine Ev.getR (pc := 43) dX8_clauseOf_43 fl_RX8_89 lC_12 rfl ?_
  refine Ev.iload_n (pc := 46) dX8_clauseOf_46 rfl ?_
  obtain ⟨g9, h⟩ := eGdB h
  refine Ev.ialdv (pc := 47) dX8_clauseOf_47 (v := (M.1 21 x1.toNatClampNeg)) (j := x1.toNatClampNeg) lC_21 g9 rfl ((eI_n (by decide)).trans (eI_n (by decide))) ?_
  refine Ev.iastj (pc := 48) dX8_clauseOf_48 (j := 2) lC_72 (by decide) (by decide) ?_
  refine Ev.aload_n (pc := 49) dX8_clauseOf_49 rfl ?_
  refine Ev.getR (pc := 50) dX8_clauseOf_50 fl_RX8_60 lC_1 rfl ?_
  refine Ev.iconst (pc := 53) dX8_clauseOf_53 (v := 3) (by decide) ?_
  refine Ev.aload_n (pc := 54) dX8_clauseOf_54 rfl ?_
  refine Ev.getR (pc := 55) dX8_clauseOf_55 fl_RX8_21 lC_1 rfl ?_
  refine Ev.getR (pc := 58) dX8_clauseOf_58 fl_RX8_92 lC_12 rfl ?_
  refine Ev.iload_n (pc := 61) dX8_clauseOf_61 rfl ?_
  obtain ⟨g9, h⟩ := eGdB h
  refine Ev.ialdv (pc := 62) dX8_clauseOf_62 (v := (M.1 14 x1.toNatClampNeg)) (j := x1.toNatClampNeg) lC_14 g9 rfl ((eI_n (by decide)).trans ((eI_n (by decide)).trans (eI_n (by decide)))) ?_
  refine Ev.iastj (pc := 63) dX8_clauseOf_63 (j := 3) lC_72 (by decide) (by decide) ?_
  refine Ev.aload_n (pc := 64) dX8_clauseOf_64 rfl ?_
  refine Ev.getR (pc := 65) dX8_clauseOf_65 fl_RX8_60 lC_1 rfl ?_
  refine Ev.iconst (pc := 68) dX8_clauseOf_68 (v := 4) (by decide) ?_
  refine Ev.aload_n (pc := 69) dX8_clauseOf_69 rfl ?_
  refine Ev.getR (pc := 70) dX8_clauseOf_70 fl_RX8_21 lC_1 rfl ?_
  refine Ev.getR (pc := 73) dX8_clauseOf_73 fl_RX8_95 lC_12 rfl ?_
  refine Ev.iload_n (pc := 76) dX8_clauseOf_76 rfl ?_
  obtain ⟨g9, h⟩ := eGdB h
  refine Ev.ialdv (pc := 77) dX8_clauseOf_77 (v := (M.1 15 x1.toNatClampNeg)) (j := x1.toNatClampNeg) lC_15 g9 rfl ((eI_n (by decide)).trans ((eI_n (by decide)).trans ((eI_n (by decide)).trans (eI_n (by decide))))) ?_
  refine Ev.iastj (pc := 78) dX8_clauseOf_78 (j := 4) lC_72 (by decide) (by decide) ?_
  refine Ev.aload_n (pc := 79) dX8_clauseOf_79 rfl ?_
  refine Ev.getR (pc := 80) dX8_clauseOf_80 fl_RX8_42 lC_1 rfl ?_
  refine Ev.aload_n (pc := 83) dX8_clauseOf_83 rfl ?_
  refine Ev.getR (pc := 84) dX8_clauseOf_84 fl_RX8_21 lC_1 rfl ?_
  refine Ev.getR (pc := 87) dX8_clauseOf_87 fl_RX8_98 lC_12 rfl ?_
  refine Ev.iload_n (pc := 90) dX8_clauseOf_90 rfl ?_
  obtain ⟨g9, h⟩ := eGdB h
  refine Ev.ialdv (pc := 91) dX8_clauseOf_91 (v := (M.1 13 x1.toNatClampNeg)) (j := x1.toNatClampNeg) lC_13 g9 rfl ((eI_n (by decide)).trans ((eI_n (by decide)).trans ((eI_n (by decide)).trans ((eI_n (by decide)).trans (eI_n (by decide)))))) ?_
  refine Ev.iload_n (pc := 92) dX8_clauseOf_92 rfl ?_
  refine Ev.aload_n (pc := 93) dX8_clauseOf_93 rfl ?_
  refine Ev.getR (pc := 94) dX8_clauseOf_94 fl_RX8_60 lC_1 rfl ?_
  refine eBk h (fun q1 hq1 h => ?_)
  refine Ev.callV (pc := 97) (as := [.int (M.1 13 x1.toNatClampNeg), .int ((M.1 2 11) / 24), .ref 72]) (st := []) (z := 3) dX8_clauseOf_97 wc_X7_clauseAbout ml_RX8_101 im_X7_clauseAbout se_X7_clauseAbout lC_40 rfl rfl (ev_X7_clauseAbout (M.1 13 x1.toNatClampNeg) ((M.1 2 11) / 24) (eI (eI (eI (eI (eI M 72 0 ((M.1 2 11) / 24)) 72 1 ((M.1 2 11) - (M.1 2 11) / 24 * 24)) 72 2 (M.1 21 x1.toNatClampNeg)) 72 3 (M.1 14 x1.toNatClampNeg)) 72 4 (M.1 15 x1.toNatClampNeg)) _ hq1) rfl rfl (by decide) rfl rfl (Nat.le_of_ble_eq_true rfl) ?_
  obtain rfl := Option.some.inj h
  exact Ev.iret (pc := 100) dX8_clauseOf_100 rfl rfl
theorem dX7_says_0 : decode cX7_says 0 = .ok (.iload_n 1, 1) := by decide +kernel
theorem dX7_says_1 : decode cX7_says 1 = .ok (.bipush 80, 2) := by decide +kernel
theorem dX7_says_3 : decode cX7_says 3 = .ok (.invokestatic 53, 3) := by decide +kernel
theorem dX7_says_6 : decode cX7_says 6 = .ok (.ifCond .eq 17, 3) := by decide +kernel
theorem dX7_says_9 : decode cX7_says 9 = .ok (.aload_n 0, 1) := by decide +kernel
theorem dX7_says_10 : decode cX7_says 10 = .ok (.getfield 25, 3) := by decide +kernel
theorem dX7_says_13 : decode cX7_says 13 = .ok (.iload_n 1, 1) := by decide +kernel
theorem dX7_says_14 : decode cX7_says 14 = .ok (.iaload, 1) := by decide +kernel
theorem dX7_says_15 : decode cX7_says 15 = .ok (.iload_n 2, 1) := by decide +kernel
theorem dX7_says_16 : decode cX7_says 16 = .ok (.if_icmp .ne 7, 3) := by decide +kernel
theorem dX7_says_19 : decode cX7_says 19 = .ok (.iconst 1, 1) := by decide +kernel
theorem dX7_says_20 : decode cX7_says 20 = .ok (.goto 4, 3) := by decide +kernel
theorem dX7_says_23 : decode cX7_says 23 = .ok (.iconst 0, 1) := by decide +kernel
theorem dX7_says_24 : decode cX7_says 24 = .ok (.ireturn, 1) := by decide +kernel
def F_X7_says (x1 : Int32) (x2 : Int32) (M : eMem) : Option Int32 :=
  (F_X9_isIn x1 80).bind fun q1 =>
  if q1 = 0 then
    some 0
  else
    eG (eIn x1 80) <|
    if (M.1 45 x1.toNatClampNeg) = x2 then
      some 1
    else
      some 0
set_option maxRecDepth 100000 in
set_option maxHeartbeats 4000000 in
theorem ev_X7_says (x1 : Int32) (x2 : Int32) (M : eMem) (q : Int32) (h : F_X7_says x1 x2 M = some q) : Ev layC 1 m_X7_says 0 [some (.ref 40), some (.int x1), some (.int x2)] [] M (some (.int q), M) := by
  rw [F_X7_says] at h
  refine Ev.iload_n (pc := 0) dX7_says_0 rfl ?_
  refine Ev.bipush (pc := 1) dX7_says_1 (v := 80) (by decide) ?_
  refine eBk h (fun q1 hq1 h => ?_)
  refine Ev.callSN (host := "GhostCoast") (pc := 3) (as := [.int x1, .int 80]) (st := []) (z := 0) dX7_says_3 wc_X9_isIn mn_RX7_53 sm_X9_isIn (ev_X9_isIn x1 80 M _ hq1) rfl rfl (by decide) rfl rfl (Nat.le_of_ble_eq_true rfl) ?_
  refine Ev.if_eq (pc := 6) (tgt := 23) dX7_says_6 (by decide) (fun c9 => ?_) (fun c9 => ?_)
  · have h := eT h c9
    refine Ev.iconst (pc := 23) dX7_says_23 (v := 0) (by decide) ?_
    obtain rfl := Option.some.inj h
    exact Ev.iret (pc := 24) dX7_says_24 rfl rfl
  · have h := eF h c9
    refine Ev.aload_n (pc := 9) dX7_says_9 rfl ?_
    refine Ev.getR (pc := 10) dX7_says_10 fl_RX7_25 lC_40 rfl ?_
    refine Ev.iload_n (pc := 13) dX7_says_13 rfl ?_
    obtain ⟨g9, h⟩ := eGdB h
    refine Ev.ialdj (pc := 14) dX7_says_14 (j := x1.toNatClampNeg) lC_45 g9 rfl ?_
    refine Ev.iload_n (pc := 15) dX7_says_15 rfl ?_
    refine Ev.icmp_ne (pc := 16) (tgt := 23) dX7_says_16 (by decide) (fun c9 => ?_) (fun c9 => ?_)
    · have h := eF h c9
      refine Ev.iconst (pc := 23) dX7_says_23 (v := 0) (by decide) ?_
      obtain rfl := Option.some.inj h
      exact Ev.iret (pc := 24) dX7_says_24 rfl rfl
    · have h := eT h c9
      refine Ev.iconst (pc := 19) dX7_says_19 (v := 1) (by decide) ?_
      refine Ev.goto (pc := 20) (tgt := 24) dX7_says_20 (by decide) ?_
      obtain rfl := Option.some.inj h
      exact Ev.iret (pc := 24) dX7_says_24 rfl rfl
theorem dX8_isShown_0 : decode cX8_isShown 0 = .ok (.aload_n 0, 1) := by decide +kernel
theorem dX8_isShown_1 : decode cX8_isShown 1 = .ok (.getfield 21, 3) := by decide +kernel
theorem dX8_isShown_4 : decode cX8_isShown 4 = .ok (.getfield 105, 3) := by decide +kernel
theorem dX8_isShown_7 : decode cX8_isShown 7 = .ok (.iload_n 1, 1) := by decide +kernel
theorem dX8_isShown_8 : decode cX8_isShown 8 = .ok (.baload, 1) := by decide +kernel
theorem dX8_isShown_9 : decode cX8_isShown 9 = .ok (.ifCond .eq 55, 3) := by decide +kernel
theorem dX8_isShown_12 : decode cX8_isShown 12 = .ok (.aload_n 0, 1) := by decide +kernel
theorem dX8_isShown_13 : decode cX8_isShown 13 = .ok (.getfield 21, 3) := by decide +kernel
theorem dX8_isShown_16 : decode cX8_isShown 16 = .ok (.getfield 109, 3) := by decide +kernel
theorem dX8_isShown_19 : decode cX8_isShown 19 = .ok (.iload_n 1, 1) := by decide +kernel
theorem dX8_isShown_20 : decode cX8_isShown 20 = .ok (.baload, 1) := by decide +kernel
theorem dX8_isShown_21 : decode cX8_isShown 21 = .ok (.ifCond .ne 43, 3) := by decide +kernel
theorem dX8_isShown_24 : decode cX8_isShown 24 = .ok (.aload_n 0, 1) := by decide +kernel
theorem dX8_isShown_25 : decode cX8_isShown 25 = .ok (.getfield 21, 3) := by decide +kernel
theorem dX8_isShown_28 : decode cX8_isShown 28 = .ok (.getfield 89, 3) := by decide +kernel
theorem dX8_isShown_31 : decode cX8_isShown 31 = .ok (.iload_n 1, 1) := by decide +kernel
theorem dX8_isShown_32 : decode cX8_isShown 32 = .ok (.iaload, 1) := by decide +kernel
theorem dX8_isShown_33 : decode cX8_isShown 33 = .ok (.aload_n 0, 1) := by decide +kernel
theorem dX8_isShown_34 : decode cX8_isShown 34 = .ok (.getfield 21, 3) := by decide +kernel
theorem dX8_isShown_37 : decode cX8_isShown 37 = .ok (.iload_n 1, 1) := by decide +kernel
theorem dX8_isShown_38 : decode cX8_isShown 38 = .ok (.invokevirtual 112, 3) := by decide +kernel
theorem dX8_isShown_41 : decode cX8_isShown 41 = .ok (.if_icmp .lt 23, 3) := by decide +kernel
theorem dX8_isShown_44 : decode cX8_isShown 44 = .ok (.aload_n 0, 1) := by decide +kernel
theorem dX8_isShown_45 : decode cX8_isShown 45 = .ok (.getfield 42, 3) := by decide +kernel
theorem dX8_isShown_48 : decode cX8_isShown 48 = .ok (.aload_n 0, 1) := by decide +kernel
theorem dX8_isShown_49 : decode cX8_isShown 49 = .ok (.iload_n 1, 1) := by decide +kernel
theorem dX8_isShown_50 : decode cX8_isShown 50 = .ok (.invokevirtual 116, 3) := by decide +kernel
theorem dX8_isShown_53 : decode cX8_isShown 53 = .ok (.iconst 2, 1) := by decide +kernel
theorem dX8_isShown_54 : decode cX8_isShown 54 = .ok (.invokevirtual 119, 3) := by decide +kernel
theorem dX8_isShown_57 : decode cX8_isShown 57 = .ok (.ifCond .ne 7, 3) := by decide +kernel
theorem dX8_isShown_60 : decode cX8_isShown 60 = .ok (.iconst 1, 1) := by decide +kernel
theorem dX8_isShown_61 : decode cX8_isShown 61 = .ok (.goto 4, 3) := by decide +kernel
theorem dX8_isShown_64 : decode cX8_isShown 64 = .ok (.iconst 0, 1) := by decide +kernel
theorem dX8_isShown_65 : decode cX8_isShown 65 = .ok (.ireturn, 1) := by decide +kernel
def F_X8_isShown (x1 : Int32) (M : eMem) : Option (Int32 × eMem) :=
  eG (eIn x1 20) <|
  if (M.1 18 x1.toNatClampNeg) = 0 then
    some (0, M)
  else
    eG (eIn x1 20) <|
    if (M.1 20 x1.toNatClampNeg) = 0 then
      eG (eIn x1 20) <|
      (F_X5_need x1 M).bind fun q1 =>
      if (M.1 21 x1.toNatClampNeg) < q1 then
        some (0, M)
      else
        (F_X8_clauseOf x1 M).bind fun q2 =>
        (F_X7_says q2.1 2 q2.2).bind fun q3 =>
        if q3 = 0 then
          some (1, q2.2)
        else
          some (0, q2.2)
    else
      some (0, M)
set_option maxRecDepth 100000 in
set_option maxHeartbeats 4000000 in
theorem ev_X8_isShown (x1 : Int32) (M : eMem) (q : (Int32 × eMem)) (h : F_X8_isShown x1 M = some q) : Ev layC 3 m_X8_isShown 0 [some (.ref 1), some (.int x1)] [] M (some (.int q.1), q.2) := by
  rw [F_X8_isShown] at h
  refine Ev.aload_n (pc := 0) dX8_isShown_0 rfl ?_
  refine Ev.getR (pc := 1) dX8_isShown_1 fl_RX8_21 lC_1 rfl ?_
  refine Ev.getR (pc := 4) dX8_isShown_4 fl_RX8_105 lC_12 rfl ?_
  refine Ev.iload_n (pc := 7) dX8_isShown_7 rfl ?_
  obtain ⟨g9, h⟩ := eGdB h
  refine Ev.zaldj (pc := 8) dX8_isShown_8 (j := x1.toNatClampNeg) lC_18 g9 rfl ?_
  refine Ev.if_eq (pc := 9) (tgt := 64) dX8_isShown_9 (by decide) (fun c9 => ?_) (fun c9 => ?_)
  · have h := eT h c9
    refine Ev.iconst (pc := 64) dX8_isShown_64 (v := 0) (by decide) ?_
    obtain rfl := Option.some.inj h
    exact Ev.iret (pc := 65) dX8_isShown_65 rfl rfl
  · have h := eF h c9
    refine Ev.aload_n (pc := 12) dX8_isShown_12 rfl ?_
    refine Ev.getR (pc := 13) dX8_isShown_13 fl_RX8_21 lC_1 rfl ?_
    refine Ev.getR (pc := 16) dX8_isShown_16 fl_RX8_109 lC_12 rfl ?_
    refine Ev.iload_n (pc := 19) dX8_isShown_19 rfl ?_
    obtain ⟨g9, h⟩ := eGdB h
    refine Ev.zaldj (pc := 20) dX8_isShown_20 (j := x1.toNatClampNeg) lC_20 g9 rfl ?_
    refine Ev.if_ne (pc := 21) (tgt := 64) dX8_isShown_21 (by decide) (fun c9 => ?_) (fun c9 => ?_)
    · have h := eF h c9
      refine Ev.iconst (pc := 64) dX8_isShown_64 (v := 0) (by decide) ?_
      obtain rfl := Option.some.inj h
      exact Ev.iret (pc := 65) dX8_isShown_65 rfl rfl
    · have h := eT h c9
      refine Ev.aload_n (pc := 24) dX8_isShown_24 rfl ?_
      refine Ev.getR (pc := 25) dX8_isShown_25 fl_RX8_21 lC_1 rfl ?_
      refine Ev.getR (pc := 28) dX8_isShown_28 fl_RX8_89 lC_12 rfl ?_
      refine Ev.iload_n (pc := 31) dX8_isShown_31 rfl ?_
      obtain ⟨g9, h⟩ := eGdB h
      refine Ev.ialdj (pc := 32) dX8_isShown_32 (j := x1.toNatClampNeg) lC_21 g9 rfl ?_
      refine Ev.aload_n (pc := 33) dX8_isShown_33 rfl ?_
      refine Ev.getR (pc := 34) dX8_isShown_34 fl_RX8_21 lC_1 rfl ?_
      refine Ev.iload_n (pc := 37) dX8_isShown_37 rfl ?_
      refine eBk h (fun q1 hq1 h => ?_)
      refine Ev.callV (pc := 38) (as := [.int x1]) (st := [.int (M.1 21 x1.toNatClampNeg)]) (z := 0) dX8_isShown_38 wc_X5_need ml_RX8_112 im_X5_need se_X5_need lC_12 rfl rfl (ev_X5_need x1 M _ hq1) rfl rfl (by decide) rfl rfl (Nat.le_of_ble_eq_true rfl) ?_
      refine Ev.icmp_lt (pc := 41) (tgt := 64) dX8_isShown_41 (by decide) (fun c9 => ?_) (fun c9 => ?_)
      · have h := eT h c9
        refine Ev.iconst (pc := 64) dX8_isShown_64 (v := 0) (by decide) ?_
        obtain rfl := Option.some.inj h
        exact Ev.iret (pc := 65) dX8_isShown_65 rfl rfl
      · have h := eF h c9
        refine Ev.aload_n (pc := 44) dX8_isShown_44 rfl ?_
        refine Ev.getR (pc := 45) dX8_isShown_45 fl_RX8_42 lC_1 rfl ?_
        refine Ev.aload_n (pc := 48) dX8_isShown_48 rfl ?_
        refine Ev.iload_n (pc := 49) dX8_isShown_49 rfl ?_
        refine eBk h (fun q2 hq2 h => ?_)
        refine Ev.callV (pc := 50) (as := [.int x1]) (st := [.ref 40]) (z := 1) dX8_isShown_50 wc_X8_clauseOf ml_RX8_116 im_X8_clauseOf se_X8_clauseOf lC_1 rfl rfl (ev_X8_clauseOf x1 M _ hq2) rfl rfl (by decide) rfl rfl (Nat.le_of_ble_eq_true rfl) ?_
        refine Ev.iconst (pc := 53) dX8_isShown_53 (v := 2) (by decide) ?_
        refine eBk h (fun q3 hq3 h => ?_)
        refine Ev.callV (pc := 54) (as := [.int q2.1, .int 2]) (st := []) (z := 0) dX8_isShown_54 wc_X7_says ml_RX8_119 im_X7_says se_X7_says lC_40 rfl rfl (ev_X7_says q2.1 2 q2.2 _ hq3) rfl rfl (by decide) rfl rfl (Nat.le_of_ble_eq_true rfl) ?_
        refine Ev.if_ne (pc := 57) (tgt := 64) dX8_isShown_57 (by decide) (fun c9 => ?_) (fun c9 => ?_)
        · have h := eF h c9
          refine Ev.iconst (pc := 64) dX8_isShown_64 (v := 0) (by decide) ?_
          obtain rfl := Option.some.inj h
          exact Ev.iret (pc := 65) dX8_isShown_65 rfl rfl
        · have h := eT h c9
          refine Ev.iconst (pc := 60) dX8_isShown_60 (v := 1) (by decide) ?_
          refine Ev.goto (pc := 61) (tgt := 65) dX8_isShown_61 (by decide) ?_
          obtain rfl := Option.some.inj h
          exact Ev.iret (pc := 65) dX8_isShown_65 rfl rfl
theorem dX8_isQuiet_0 : decode cX8_isQuiet 0 = .ok (.iconst 0, 1) := by decide +kernel
theorem dX8_isQuiet_1 : decode cX8_isQuiet 1 = .ok (.istore_n 2, 1) := by decide +kernel
theorem dX8_isQuiet_2 : decode cX8_isQuiet 2 = .ok (.iload_n 2, 1) := by decide +kernel
theorem dX8_isQuiet_3 : decode cX8_isQuiet 3 = .ok (.aload_n 0, 1) := by decide +kernel
theorem dX8_isQuiet_4 : decode cX8_isQuiet 4 = .ok (.getfield 21, 3) := by decide +kernel
theorem dX8_isQuiet_7 : decode cX8_isQuiet 7 = .ok (.getfield 123, 3) := by decide +kernel
theorem dX8_isQuiet_10 : decode cX8_isQuiet 10 = .ok (.if_icmp .ge 46, 3) := by decide +kernel
theorem dX8_isQuiet_13 : decode cX8_isQuiet 13 = .ok (.aload_n 0, 1) := by decide +kernel
theorem dX8_isQuiet_14 : decode cX8_isQuiet 14 = .ok (.getfield 21, 3) := by decide +kernel
theorem dX8_isQuiet_17 : decode cX8_isQuiet 17 = .ok (.getfield 98, 3) := by decide +kernel
theorem dX8_isQuiet_20 : decode cX8_isQuiet 20 = .ok (.iload_n 2, 1) := by decide +kernel
theorem dX8_isQuiet_21 : decode cX8_isQuiet 21 = .ok (.iaload, 1) := by decide +kernel
theorem dX8_isQuiet_22 : decode cX8_isQuiet 22 = .ok (.bipush 6, 2) := by decide +kernel
theorem dX8_isQuiet_24 : decode cX8_isQuiet 24 = .ok (.if_icmp .ne 26, 3) := by decide +kernel
theorem dX8_isQuiet_27 : decode cX8_isQuiet 27 = .ok (.aload_n 0, 1) := by decide +kernel
theorem dX8_isQuiet_28 : decode cX8_isQuiet 28 = .ok (.getfield 21, 3) := by decide +kernel
theorem dX8_isQuiet_31 : decode cX8_isQuiet 31 = .ok (.getfield 130, 3) := by decide +kernel
theorem dX8_isQuiet_34 : decode cX8_isQuiet 34 = .ok (.iload_n 2, 1) := by decide +kernel
theorem dX8_isQuiet_35 : decode cX8_isQuiet 35 = .ok (.iaload, 1) := by decide +kernel
theorem dX8_isQuiet_36 : decode cX8_isQuiet 36 = .ok (.iload_n 1, 1) := by decide +kernel
theorem dX8_isQuiet_37 : decode cX8_isQuiet 37 = .ok (.if_icmp .ne 13, 3) := by decide +kernel
theorem dX8_isQuiet_40 : decode cX8_isQuiet 40 = .ok (.aload_n 0, 1) := by decide +kernel
theorem dX8_isQuiet_41 : decode cX8_isQuiet 41 = .ok (.iload_n 2, 1) := by decide +kernel
theorem dX8_isQuiet_42 : decode cX8_isQuiet 42 = .ok (.invokevirtual 126, 3) := by decide +kernel
theorem dX8_isQuiet_45 : decode cX8_isQuiet 45 = .ok (.ifCond .eq 5, 3) := by decide +kernel
theorem dX8_isQuiet_48 : decode cX8_isQuiet 48 = .ok (.iconst 1, 1) := by decide +kernel
theorem dX8_isQuiet_49 : decode cX8_isQuiet 49 = .ok (.ireturn, 1) := by decide +kernel
theorem dX8_isQuiet_50 : decode cX8_isQuiet 50 = .ok (.iinc 2 1, 3) := by decide +kernel
theorem dX8_isQuiet_53 : decode cX8_isQuiet 53 = .ok (.goto (-51), 3) := by decide +kernel
theorem dX8_isQuiet_56 : decode cX8_isQuiet 56 = .ok (.iconst 0, 1) := by decide +kernel
theorem dX8_isQuiet_57 : decode cX8_isQuiet 57 = .ok (.ireturn, 1) := by decide +kernel
def F_X8_isQuiet_2  : Nat → Int32 → Int32 → eMem → Option (Int32 × eMem)
  | 0, _, _, _ => none
  | n + 1, v1, v2, M =>
    if v2 < (M.1 12 10) then
      eG (eIn v2 20) <|
      if (M.1 13 v2.toNatClampNeg) = 6 then
        eG (eIn v2 20) <|
        if (M.1 16 v2.toNatClampNeg) = v1 then
          (F_X8_isShown v2 M).bind fun q1 =>
          if q1.1 = 0 then
            F_X8_isQuiet_2 n v1 (v2 + 1) q1.2
          else
            some (1, q1.2)
        else
          F_X8_isQuiet_2 n v1 (v2 + 1) M
      else
        F_X8_isQuiet_2 n v1 (v2 + 1) M
    else
      some (0, M)
set_option maxRecDepth 100000 in
set_option maxHeartbeats 4000000 in
theorem ev_X8_isQuiet_2  (q : (Int32 × eMem))  : ∀ (fuel : Nat) (v1 : Int32) (v2 : Int32) (M : eMem), F_X8_isQuiet_2 fuel v1 v2 M = some q → Ev layC 4 m_X8_isQuiet 2 [some (.ref 1), some (.int v1), some (.int v2)] [] M (some (.int q.1), q.2) := by
  intro fuel
  induction fuel with
  | zero => intro v1 v2 M h; rw [F_X8_isQuiet_2] at h; cases h
  | succ n ih =>
    intro v1 v2 M h
    rw [F_X8_isQuiet_2] at h
    refine Ev.iload_n (pc := 2) dX8_isQuiet_2 rfl ?_
    refine Ev.aload_n (pc := 3) dX8_isQuiet_3 rfl ?_
    refine Ev.getR (pc := 4) dX8_isQuiet_4 fl_RX8_21 lC_1 rfl ?_
    refine Ev.getI (pc := 7) dX8_isQuiet_7 fl_RX8_123 lC_12 rfl ?_
    refine Ev.icmp_ge (pc := 10) (tgt := 56) dX8_isQuiet_10 (by decide) (fun c9 => ?_) (fun c9 => ?_)
    · have h := eF h c9
      refine Ev.iconst (pc := 56) dX8_isQuiet_56 (v := 0) (by decide) ?_
      obtain rfl := Option.some.inj h
      exact Ev.iret (pc := 57) dX8_isQuiet_57 rfl rfl
    · have h := eT h c9
      refine Ev.aload_n (pc := 13) dX8_isQuiet_13 rfl ?_
      refine Ev.getR (pc := 14) dX8_isQuiet_14 fl_RX8_21 lC_1 rfl ?_
      refine Ev.getR (pc := 17) dX8_isQuiet_17 fl_RX8_98 lC_12 rfl ?_
      refine Ev.iload_n (pc := 20) dX8_isQuiet_20 rfl ?_
      obtain ⟨g9, h⟩ := eGdB h
      refine Ev.ialdj (pc := 21) dX8_isQuiet_21 (j := v2.toNatClampNeg) lC_13 g9 rfl ?_
      refine Ev.bipush (pc := 22) dX8_isQuiet_22 (v := 6) (by decide) ?_
      refine Ev.icmp_ne (pc := 24) (tgt := 50) dX8_isQuiet_24 (by decide) (fun c9 => ?_) (fun c9 => ?_)
      · have h := eF h c9
        refine Ev.iincv (pc := 50) dX8_isQuiet_50 (v := 1) (by decide) rfl (by decide) rfl rfl ?_
        refine Ev.goto (pc := 53) (tgt := 2) dX8_isQuiet_53 (by decide) ?_
        exact Ev.fg (ih _ _ _ h) (And.intro rfl (And.intro rfl (And.intro rfl trivial)))
      · have h := eT h c9
        refine Ev.aload_n (pc := 27) dX8_isQuiet_27 rfl ?_
        refine Ev.getR (pc := 28) dX8_isQuiet_28 fl_RX8_21 lC_1 rfl ?_
        refine Ev.getR (pc := 31) dX8_isQuiet_31 fl_RX8_130 lC_12 rfl ?_
        refine Ev.iload_n (pc := 34) dX8_isQuiet_34 rfl ?_
        obtain ⟨g9, h⟩ := eGdB h
        refine Ev.ialdj (pc := 35) dX8_isQuiet_35 (j := v2.toNatClampNeg) lC_16 g9 rfl ?_
        refine Ev.iload_n (pc := 36) dX8_isQuiet_36 rfl ?_
        refine Ev.icmp_ne (pc := 37) (tgt := 50) dX8_isQuiet_37 (by decide) (fun c9 => ?_) (fun c9 => ?_)
        · have h := eF h c9
          refine Ev.iincv (pc := 50) dX8_isQuiet_50 (v := 1) (by decide) rfl (by decide) rfl rfl ?_
          refine Ev.goto (pc := 53) (tgt := 2) dX8_isQuiet_53 (by decide) ?_
          exact Ev.fg (ih _ _ _ h) (And.intro rfl (And.intro rfl (And.intro rfl trivial)))
        · have h := eT h c9
          refine Ev.aload_n (pc := 40) dX8_isQuiet_40 rfl ?_
          refine Ev.iload_n (pc := 41) dX8_isQuiet_41 rfl ?_
          refine eBk h (fun q1 hq1 h => ?_)
          refine Ev.callV (pc := 42) (as := [.int v2]) (st := []) (z := 0) dX8_isQuiet_42 wc_X8_isShown ml_RX8_126 im_X8_isShown se_X8_isShown lC_1 rfl rfl (ev_X8_isShown v2 M _ hq1) rfl rfl (by decide) rfl rfl (Nat.le_of_ble_eq_true rfl) ?_
          refine Ev.if_eq (pc := 45) (tgt := 50) dX8_isQuiet_45 (by decide) (fun c9 => ?_) (fun c9 => ?_)
          · have h := eT h c9
            refine Ev.iincv (pc := 50) dX8_isQuiet_50 (v := 1) (by decide) rfl (by decide) rfl rfl ?_
            refine Ev.goto (pc := 53) (tgt := 2) dX8_isQuiet_53 (by decide) ?_
            exact Ev.fg (ih _ _ _ h) (And.intro rfl (And.intro rfl (And.intro rfl trivial)))
          · have h := eF h c9
            refine Ev.iconst (pc := 48) dX8_isQuiet_48 (v := 1) (by decide) ?_
            obtain rfl := Option.some.inj h
            exact Ev.iret (pc := 49) dX8_isQuiet_49 rfl rfl
def F_X8_isQuiet (x1 : Int32) (M : eMem) : Option (Int32 × eMem) :=
  F_X8_isQuiet_2 eFuel x1 0 M
set_option maxRecDepth 100000 in
set_option maxHeartbeats 4000000 in
theorem ev_X8_isQuiet (x1 : Int32) (M : eMem) (q : (Int32 × eMem)) (h : F_X8_isQuiet x1 M = some q) : Ev layC 4 m_X8_isQuiet 0 [some (.ref 1), some (.int x1), none] [] M (some (.int q.1), q.2) := by
  rw [F_X8_isQuiet] at h
  refine Ev.iconst (pc := 0) dX8_isQuiet_0 (v := 0) (by decide) ?_
  refine Ev.istore_n (pc := 1) dX8_isQuiet_1 (by decide) rfl rfl ?_
  exact Ev.fg (ev_X8_isQuiet_2 _ _ _ _ _ h) (And.intro rfl (And.intro rfl (And.intro rfl trivial)))
theorem dX0_leadsFrom_0 : decode cX0_leadsFrom 0 = .ok (.aload_n 0, 1) := by decide +kernel
theorem dX0_leadsFrom_1 : decode cX0_leadsFrom 1 = .ok (.getfield 15, 3) := by decide +kernel
theorem dX0_leadsFrom_4 : decode cX0_leadsFrom 4 = .ok (.iload_n 1, 1) := by decide +kernel
theorem dX0_leadsFrom_5 : decode cX0_leadsFrom 5 = .ok (.iaload, 1) := by decide +kernel
theorem dX0_leadsFrom_6 : decode cX0_leadsFrom 6 = .ok (.iload_n 2, 1) := by decide +kernel
theorem dX0_leadsFrom_7 : decode cX0_leadsFrom 7 = .ok (.if_icmp .eq 13, 3) := by decide +kernel
theorem dX0_leadsFrom_10 : decode cX0_leadsFrom 10 = .ok (.aload_n 0, 1) := by decide +kernel
theorem dX0_leadsFrom_11 : decode cX0_leadsFrom 11 = .ok (.getfield 18, 3) := by decide +kernel
theorem dX0_leadsFrom_14 : decode cX0_leadsFrom 14 = .ok (.iload_n 1, 1) := by decide +kernel
theorem dX0_leadsFrom_15 : decode cX0_leadsFrom 15 = .ok (.iaload, 1) := by decide +kernel
theorem dX0_leadsFrom_16 : decode cX0_leadsFrom 16 = .ok (.iload_n 2, 1) := by decide +kernel
theorem dX0_leadsFrom_17 : decode cX0_leadsFrom 17 = .ok (.if_icmp .ne 7, 3) := by decide +kernel
theorem dX0_leadsFrom_20 : decode cX0_leadsFrom 20 = .ok (.iconst 1, 1) := by decide +kernel
theorem dX0_leadsFrom_21 : decode cX0_leadsFrom 21 = .ok (.goto 4, 3) := by decide +kernel
theorem dX0_leadsFrom_24 : decode cX0_leadsFrom 24 = .ok (.iconst 0, 1) := by decide +kernel
theorem dX0_leadsFrom_25 : decode cX0_leadsFrom 25 = .ok (.ireturn, 1) := by decide +kernel
def F_X0_leadsFrom_20   (M : eMem) : Option Int32 :=
  some 1
set_option maxRecDepth 100000 in
set_option maxHeartbeats 4000000 in
theorem ev_X0_leadsFrom_20  (q : Int32) (M : eMem)   (h : F_X0_leadsFrom_20 M = some q) : Ev layC 0 m_X0_leadsFrom 20 [none, none, none] [] M (some (.int q), M) := by
  rw [F_X0_leadsFrom_20] at h
  refine Ev.iconst (pc := 20) dX0_leadsFrom_20 (v := 1) (by decide) ?_
  refine Ev.goto (pc := 21) (tgt := 25) dX0_leadsFrom_21 (by decide) ?_
  obtain rfl := Option.some.inj h
  exact Ev.iret (pc := 25) dX0_leadsFrom_25 rfl rfl
def F_X0_leadsFrom (x1 : Int32) (x2 : Int32) (M : eMem) : Option Int32 :=
  eG (eIn x1 40) <|
  if (M.1 4 x1.toNatClampNeg) = x2 then
    F_X0_leadsFrom_20 M
  else
    eG (eIn x1 40) <|
    if (M.1 5 x1.toNatClampNeg) = x2 then
      F_X0_leadsFrom_20 M
    else
      some 0
set_option maxRecDepth 100000 in
set_option maxHeartbeats 4000000 in
theorem ev_X0_leadsFrom (x1 : Int32) (x2 : Int32) (M : eMem) (q : Int32) (h : F_X0_leadsFrom x1 x2 M = some q) : Ev layC 0 m_X0_leadsFrom 0 [some (.ref 2), some (.int x1), some (.int x2)] [] M (some (.int q), M) := by
  rw [F_X0_leadsFrom] at h
  refine Ev.aload_n (pc := 0) dX0_leadsFrom_0 rfl ?_
  refine Ev.getR (pc := 1) dX0_leadsFrom_1 fl_RX0_15 lC_2 rfl ?_
  refine Ev.iload_n (pc := 4) dX0_leadsFrom_4 rfl ?_
  obtain ⟨g9, h⟩ := eGdB h
  refine Ev.ialdj (pc := 5) dX0_leadsFrom_5 (j := x1.toNatClampNeg) lC_4 g9 rfl ?_
  refine Ev.iload_n (pc := 6) dX0_leadsFrom_6 rfl ?_
  refine Ev.icmp_eq (pc := 7) (tgt := 20) dX0_leadsFrom_7 (by decide) (fun c9 => ?_) (fun c9 => ?_)
  · have h := eT h c9
    exact Ev.fg (ev_X0_leadsFrom_20 _ _ h) trivial
  · have h := eF h c9
    refine Ev.aload_n (pc := 10) dX0_leadsFrom_10 rfl ?_
    refine Ev.getR (pc := 11) dX0_leadsFrom_11 fl_RX0_18 lC_2 rfl ?_
    refine Ev.iload_n (pc := 14) dX0_leadsFrom_14 rfl ?_
    obtain ⟨g9, h⟩ := eGdB h
    refine Ev.ialdj (pc := 15) dX0_leadsFrom_15 (j := x1.toNatClampNeg) lC_5 g9 rfl ?_
    refine Ev.iload_n (pc := 16) dX0_leadsFrom_16 rfl ?_
    refine Ev.icmp_ne (pc := 17) (tgt := 24) dX0_leadsFrom_17 (by decide) (fun c9 => ?_) (fun c9 => ?_)
    · have h := eF h c9
      refine Ev.iconst (pc := 24) dX0_leadsFrom_24 (v := 0) (by decide) ?_
      obtain rfl := Option.some.inj h
      exact Ev.iret (pc := 25) dX0_leadsFrom_25 rfl rfl
    · have h := eT h c9
      exact Ev.fg (ev_X0_leadsFrom_20 _ _ h) trivial
