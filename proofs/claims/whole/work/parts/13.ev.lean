theorem dX9_as_0 : decode cX9_as 0 = .ok (.aload_n 0, 1) := by decide +kernel
theorem dX9_as_1 : decode cX9_as 1 = .ok (.getfield 12, 3) := by decide +kernel
theorem dX9_as_4 : decode cX9_as 4 = .ok (.getfield 130, 3) := by decide +kernel
theorem dX9_as_7 : decode cX9_as 7 = .ok (.iload_n 1, 1) := by decide +kernel
theorem dX9_as_8 : decode cX9_as 8 = .ok (.invokevirtual 143, 3) := by decide +kernel
theorem dX9_as_11 : decode cX9_as 11 = .ok (.ifCond .eq 12, 3) := by decide +kernel
theorem dX9_as_14 : decode cX9_as 14 = .ok (.iload_n 2, 1) := by decide +kernel
theorem dX9_as_15 : decode cX9_as 15 = .ok (.bipush 7, 2) := by decide +kernel
theorem dX9_as_17 : decode cX9_as 17 = .ok (.invokestatic 37, 3) := by decide +kernel
theorem dX9_as_20 : decode cX9_as 20 = .ok (.ifCond .ne 10, 3) := by decide +kernel
theorem dX9_as_23 : decode cX9_as 23 = .ok (.aload_n 0, 1) := by decide +kernel
theorem dX9_as_24 : decode cX9_as 24 = .ok (.ldc 41, 2) := by decide +kernel
theorem dX9_as_26 : decode cX9_as 26 = .ok (.invokevirtual 42, 3) := by decide +kernel
theorem dX9_as_29 : decode cX9_as 29 = .ok (.ireturn, 1) := by decide +kernel
theorem dX9_as_30 : decode cX9_as 30 = .ok (.aload_n 0, 1) := by decide +kernel
theorem dX9_as_31 : decode cX9_as 31 = .ok (.getfield 12, 3) := by decide +kernel
theorem dX9_as_34 : decode cX9_as 34 = .ok (.getfield 130, 3) := by decide +kernel
theorem dX9_as_37 : decode cX9_as 37 = .ok (.getfield 146, 3) := by decide +kernel
theorem dX9_as_40 : decode cX9_as 40 = .ok (.iload_n 1, 1) := by decide +kernel
theorem dX9_as_41 : decode cX9_as 41 = .ok (.iaload, 1) := by decide +kernel
theorem dX9_as_42 : decode cX9_as 42 = .ok (.iload_n 2, 1) := by decide +kernel
theorem dX9_as_43 : decode cX9_as 43 = .ok (.invokestatic 149, 3) := by decide +kernel
theorem dX9_as_46 : decode cX9_as 46 = .ok (.ifCond .ne 10, 3) := by decide +kernel
theorem dX9_as_49 : decode cX9_as 49 = .ok (.aload_n 0, 1) := by decide +kernel
theorem dX9_as_50 : decode cX9_as 50 = .ok (.ldc 89, 2) := by decide +kernel
theorem dX9_as_52 : decode cX9_as 52 = .ok (.invokevirtual 42, 3) := by decide +kernel
theorem dX9_as_55 : decode cX9_as 55 = .ok (.ireturn, 1) := by decide +kernel
theorem dX9_as_56 : decode cX9_as 56 = .ok (.iload_n 1, 1) := by decide +kernel
theorem dX9_as_57 : decode cX9_as 57 = .ok (.ireturn, 1) := by decide +kernel
def F_X9_as (x1 : Int32) (x2 : Int32) (M : eMem) : Option (Int32 × eMem) :=
  (F_X5_has x1 M).bind fun q1 =>
  if q1 = 0 then
    (F_X9_found (-1000001) M).bind fun q2 =>
    some (q2.1, q2.2)
  else
    (F_X9_isIn x2 7).bind fun q3 =>
    if q3 = 0 then
      (F_X9_found (-1000001) M).bind fun q6 =>
      some (q6.1, q6.2)
    else
      eG (eIn x1 20) <|
      (F_X9_isUnder (M.1 13 x1.toNatClampNeg) x2).bind fun q4 =>
      if q4 = 0 then
        (F_X9_found (-1000003) M).bind fun q5 =>
        some (q5.1, q5.2)
      else
        some (x1, M)
set_option maxRecDepth 100000 in
set_option maxHeartbeats 4000000 in
theorem ev_X9_as (x1 : Int32) (x2 : Int32) (M : eMem) (q : (Int32 × eMem)) (h : F_X9_as x1 x2 M = some q) : Ev layC 2 m_X9_as 0 [some (.ref 0), some (.int x1), some (.int x2)] [] M (some (.int q.1), q.2) := by
  rw [F_X9_as] at h
  refine Ev.aload_n (pc := 0) dX9_as_0 rfl ?_
  refine Ev.getR (pc := 1) dX9_as_1 fl_RX9_12 lC_0 rfl ?_
  refine Ev.getR (pc := 4) dX9_as_4 fl_RX9_130 lC_1 rfl ?_
  refine Ev.iload_n (pc := 7) dX9_as_7 rfl ?_
  refine eBk h (fun q1 hq1 h => ?_)
  refine Ev.callV (pc := 8) (as := [.int x1]) (st := []) (z := 0) dX9_as_8 wc_X5_has ml_RX9_143 im_X5_has se_X5_has lC_12 rfl rfl (ev_X5_has x1 M _ hq1) rfl rfl (by decide) rfl rfl (Nat.le_of_ble_eq_true rfl) ?_
  refine Ev.if_eq (pc := 11) (tgt := 23) dX9_as_11 (by decide) (fun c9 => ?_) (fun c9 => ?_)
  · have h := eT h c9
    refine Ev.aload_n (pc := 23) dX9_as_23 rfl ?_
    refine Ev.ldc (pc := 24) dX9_as_24 ld_RX9_41 ?_
    refine eBk h (fun q2 hq2 h => ?_)
    refine Ev.callV (pc := 26) (as := [.int (-1000001)]) (st := []) (z := 1) dX9_as_26 wc_X9_found ml_RX9_42 im_X9_found se_X9_found lC_0 rfl rfl (ev_X9_found (-1000001) M _ hq2) rfl rfl (by decide) rfl rfl (Nat.le_of_ble_eq_true rfl) ?_
    obtain rfl := Option.some.inj h
    exact Ev.iret (pc := 29) dX9_as_29 rfl rfl
  · have h := eF h c9
    refine Ev.iload_n (pc := 14) dX9_as_14 rfl ?_
    refine Ev.bipush (pc := 15) dX9_as_15 (v := 7) (by decide) ?_
    refine eBk h (fun q3 hq3 h => ?_)
    refine Ev.callS (pc := 17) (as := [.int x2, .int 7]) (st := []) (z := 0) dX9_as_17 wc_X9_isIn ml_RX9_37 sm_X9_isIn (ev_X9_isIn x2 7 M _ hq3) rfl rfl (by decide) rfl rfl (Nat.le_of_ble_eq_true rfl) ?_
    refine Ev.if_ne (pc := 20) (tgt := 30) dX9_as_20 (by decide) (fun c9 => ?_) (fun c9 => ?_)
    · have h := eF h c9
      refine Ev.aload_n (pc := 30) dX9_as_30 rfl ?_
      refine Ev.getR (pc := 31) dX9_as_31 fl_RX9_12 lC_0 rfl ?_
      refine Ev.getR (pc := 34) dX9_as_34 fl_RX9_130 lC_1 rfl ?_
      refine Ev.getR (pc := 37) dX9_as_37 fl_RX9_146 lC_12 rfl ?_
      refine Ev.iload_n (pc := 40) dX9_as_40 rfl ?_
      obtain ⟨g9, h⟩ := eGdB h
      refine Ev.ialdj (pc := 41) dX9_as_41 (j := x1.toNatClampNeg) lC_13 g9 rfl ?_
      refine Ev.iload_n (pc := 42) dX9_as_42 rfl ?_
      refine eBk h (fun q4 hq4 h => ?_)
      refine Ev.callS (pc := 43) (as := [.int (M.1 13 x1.toNatClampNeg), .int x2]) (st := []) (z := 0) dX9_as_43 wc_X9_isUnder ml_RX9_149 sm_X9_isUnder (ev_X9_isUnder (M.1 13 x1.toNatClampNeg) x2 M _ hq4) rfl rfl (by decide) rfl rfl (Nat.le_of_ble_eq_true rfl) ?_
      refine Ev.if_ne (pc := 46) (tgt := 56) dX9_as_46 (by decide) (fun c9 => ?_) (fun c9 => ?_)
      · have h := eF h c9
        refine Ev.iload_n (pc := 56) dX9_as_56 rfl ?_
        obtain rfl := Option.some.inj h
        exact Ev.iret (pc := 57) dX9_as_57 rfl rfl
      · have h := eT h c9
        refine Ev.aload_n (pc := 49) dX9_as_49 rfl ?_
        refine Ev.ldc (pc := 50) dX9_as_50 ld_RX9_89 ?_
        refine eBk h (fun q5 hq5 h => ?_)
        refine Ev.callV (pc := 52) (as := [.int (-1000003)]) (st := []) (z := 1) dX9_as_52 wc_X9_found ml_RX9_42 im_X9_found se_X9_found lC_0 rfl rfl (ev_X9_found (-1000003) M _ hq5) rfl rfl (by decide) rfl rfl (Nat.le_of_ble_eq_true rfl) ?_
        obtain rfl := Option.some.inj h
        exact Ev.iret (pc := 55) dX9_as_55 rfl rfl
    · have h := eT h c9
      refine Ev.aload_n (pc := 23) dX9_as_23 rfl ?_
      refine Ev.ldc (pc := 24) dX9_as_24 ld_RX9_41 ?_
      refine eBk h (fun q6 hq6 h => ?_)
      refine Ev.callV (pc := 26) (as := [.int (-1000001)]) (st := []) (z := 1) dX9_as_26 wc_X9_found ml_RX9_42 im_X9_found se_X9_found lC_0 rfl rfl (ev_X9_found (-1000001) M _ hq6) rfl rfl (by decide) rfl rfl (Nat.le_of_ble_eq_true rfl) ?_
      obtain rfl := Option.some.inj h
      exact Ev.iret (pc := 29) dX9_as_29 rfl rfl
theorem dX10_isShow_0 : decode cX10_isShow 0 = .ok (.iload_n 1, 1) := by decide +kernel
theorem dX10_isShow_1 : decode cX10_isShow 1 = .ok (.iconst 0, 1) := by decide +kernel
theorem dX10_isShow_2 : decode cX10_isShow 2 = .ok (.aload_n 0, 1) := by decide +kernel
theorem dX10_isShow_3 : decode cX10_isShow 3 = .ok (.getfield 7, 3) := by decide +kernel
theorem dX10_isShow_6 : decode cX10_isShow 6 = .ok (.bipush 9, 2) := by decide +kernel
theorem dX10_isShow_8 : decode cX10_isShow 8 = .ok (.iaload, 1) := by decide +kernel
theorem dX10_isShow_9 : decode cX10_isShow 9 = .ok (.iconst 1, 1) := by decide +kernel
theorem dX10_isShow_10 : decode cX10_isShow 10 = .ok (.isub, 1) := by decide +kernel
theorem dX10_isShow_11 : decode cX10_isShow 11 = .ok (.invokestatic 58, 3) := by decide +kernel
theorem dX10_isShow_14 : decode cX10_isShow 14 = .ok (.ireturn, 1) := by decide +kernel
def F_X10_isShow (x1 : Int32) (M : eMem) : Option Int32 :=
  (F_X10_in x1 0 ((M.1 1 9) - 1)).bind fun q1 =>
  eG (decide (vp_nar .boolean q1 = q1)) <|
  some q1
set_option maxRecDepth 100000 in
set_option maxHeartbeats 4000000 in
theorem ev_X10_isShow (x1 : Int32) (M : eMem) (q : Int32) (h : F_X10_isShow x1 M = some q) : Ev layR 1 m_X10_isShow 0 [some (.ref 0), some (.int x1)] [] M (some (.int q), M) := by
  rw [F_X10_isShow] at h
  refine Ev.iload_n (pc := 0) dX10_isShow_0 rfl ?_
  refine Ev.iconst (pc := 1) dX10_isShow_1 (v := 0) (by decide) ?_
  refine Ev.aload_n (pc := 2) dX10_isShow_2 rfl ?_
  refine Ev.getR (pc := 3) dX10_isShow_3 fl_RX10_7 lR_0 rfl ?_
  refine Ev.bipush (pc := 6) dX10_isShow_6 (v := 9) (by decide) ?_
  refine Ev.ialdj (pc := 8) dX10_isShow_8 (j := 9) lR_1 (by decide) (by decide) ?_
  refine Ev.iconst (pc := 9) dX10_isShow_9 (v := 1) (by decide) ?_
  refine Ev.isub (pc := 10) dX10_isShow_10 ?_
  refine eBk h (fun q1 hq1 h => ?_)
  refine Ev.callS (pc := 11) (as := [.int x1, .int 0, .int ((M.1 1 9) - 1)]) (st := []) (z := 0) dX10_isShow_11 wc_X10_in ml_RX10_58 sm_X10_in (ev_X10_in x1 0 ((M.1 1 9) - 1) M _ hq1) rfl rfl (by decide) rfl rfl (Nat.le_of_ble_eq_true rfl) ?_
  obtain ⟨g9, h⟩ := eGdB h
  have g9 := of_decide_eq_true g9
  obtain rfl := Option.some.inj h
  exact Ev.iret (pc := 14) dX10_isShow_14 rfl (eNar_boolean g9)
theorem dX10_as_0 : decode cX10_as 0 = .ok (.aload_n 0, 1) := by decide +kernel
theorem dX10_as_1 : decode cX10_as 1 = .ok (.iload_n 1, 1) := by decide +kernel
theorem dX10_as_2 : decode cX10_as 2 = .ok (.invokevirtual 109, 3) := by decide +kernel
theorem dX10_as_5 : decode cX10_as 5 = .ok (.ifCond .eq 13, 3) := by decide +kernel
theorem dX10_as_8 : decode cX10_as 8 = .ok (.iload_n 2, 1) := by decide +kernel
theorem dX10_as_9 : decode cX10_as 9 = .ok (.iconst 0, 1) := by decide +kernel
theorem dX10_as_10 : decode cX10_as 10 = .ok (.bipush 6, 2) := by decide +kernel
theorem dX10_as_12 : decode cX10_as 12 = .ok (.invokestatic 58, 3) := by decide +kernel
theorem dX10_as_15 : decode cX10_as 15 = .ok (.ifCond .ne 9, 3) := by decide +kernel
theorem dX10_as_18 : decode cX10_as 18 = .ok (.aload_n 0, 1) := by decide +kernel
theorem dX10_as_19 : decode cX10_as 19 = .ok (.iconst 1, 1) := by decide +kernel
theorem dX10_as_20 : decode cX10_as 20 = .ok (.invokevirtual 66, 3) := by decide +kernel
theorem dX10_as_23 : decode cX10_as 23 = .ok (.ireturn, 1) := by decide +kernel
theorem dX10_as_24 : decode cX10_as 24 = .ok (.aload_n 0, 1) := by decide +kernel
theorem dX10_as_25 : decode cX10_as 25 = .ok (.iload_n 1, 1) := by decide +kernel
theorem dX10_as_26 : decode cX10_as 26 = .ok (.iconst 0, 1) := by decide +kernel
theorem dX10_as_27 : decode cX10_as 27 = .ok (.invokevirtual 77, 3) := by decide +kernel
theorem dX10_as_30 : decode cX10_as 30 = .ok (.iload_n 2, 1) := by decide +kernel
theorem dX10_as_31 : decode cX10_as 31 = .ok (.invokestatic 112, 3) := by decide +kernel
theorem dX10_as_34 : decode cX10_as 34 = .ok (.ifCond .eq 7, 3) := by decide +kernel
theorem dX10_as_37 : decode cX10_as 37 = .ok (.iload_n 1, 1) := by decide +kernel
theorem dX10_as_38 : decode cX10_as 38 = .ok (.goto 8, 3) := by decide +kernel
theorem dX10_as_41 : decode cX10_as 41 = .ok (.aload_n 0, 1) := by decide +kernel
theorem dX10_as_42 : decode cX10_as 42 = .ok (.iconst 3, 1) := by decide +kernel
theorem dX10_as_43 : decode cX10_as 43 = .ok (.invokevirtual 66, 3) := by decide +kernel
theorem dX10_as_46 : decode cX10_as 46 = .ok (.ireturn, 1) := by decide +kernel
def F_X10_as (x1 : Int32) (x2 : Int32) (M : eMem) : Option (Int32 × eMem) :=
  (F_X10_isShow x1 M).bind fun q1 =>
  if q1 = 0 then
    (F_X10_finding 1 M).bind fun q2 =>
    some (q2.1, q2.2)
  else
    (F_X10_in x2 0 6).bind fun q3 =>
    if q3 = 0 then
      (F_X10_finding 1 M).bind fun q7 =>
      some (q7.1, q7.2)
    else
      (F_X10_show x1 0 M).bind fun q4 =>
      (F_X10_isUnder q4 x2).bind fun q5 =>
      if q5 = 0 then
        (F_X10_finding 3 M).bind fun q6 =>
        some (q6.1, q6.2)
      else
        some (x1, M)
set_option maxRecDepth 100000 in
set_option maxHeartbeats 4000000 in
theorem ev_X10_as (x1 : Int32) (x2 : Int32) (M : eMem) (q : (Int32 × eMem)) (h : F_X10_as x1 x2 M = some q) : Ev layR 2 m_X10_as 0 [some (.ref 0), some (.int x1), some (.int x2)] [] M (some (.int q.1), q.2) := by
  rw [F_X10_as] at h
  refine Ev.aload_n (pc := 0) dX10_as_0 rfl ?_
  refine Ev.iload_n (pc := 1) dX10_as_1 rfl ?_
  refine eBk h (fun q1 hq1 h => ?_)
  refine Ev.callV (pc := 2) (as := [.int x1]) (st := []) (z := 0) dX10_as_2 wc_X10_isShow ml_RX10_109 im_X10_isShow se_X10_isShow lR_0 rfl rfl (ev_X10_isShow x1 M _ hq1) rfl rfl (by decide) rfl rfl (Nat.le_of_ble_eq_true rfl) ?_
  refine Ev.if_eq (pc := 5) (tgt := 18) dX10_as_5 (by decide) (fun c9 => ?_) (fun c9 => ?_)
  · have h := eT h c9
    refine Ev.aload_n (pc := 18) dX10_as_18 rfl ?_
    refine Ev.iconst (pc := 19) dX10_as_19 (v := 1) (by decide) ?_
    refine eBk h (fun q2 hq2 h => ?_)
    refine Ev.callV (pc := 20) (as := [.int 1]) (st := []) (z := 0) dX10_as_20 wc_X10_finding ml_RX10_66 im_X10_finding se_X10_finding lR_0 rfl rfl (ev_X10_finding 1 M _ hq2) rfl rfl (by decide) rfl rfl (Nat.le_of_ble_eq_true rfl) ?_
    obtain rfl := Option.some.inj h
    exact Ev.iret (pc := 23) dX10_as_23 rfl rfl
  · have h := eF h c9
    refine Ev.iload_n (pc := 8) dX10_as_8 rfl ?_
    refine Ev.iconst (pc := 9) dX10_as_9 (v := 0) (by decide) ?_
    refine Ev.bipush (pc := 10) dX10_as_10 (v := 6) (by decide) ?_
    refine eBk h (fun q3 hq3 h => ?_)
    refine Ev.callS (pc := 12) (as := [.int x2, .int 0, .int 6]) (st := []) (z := 0) dX10_as_12 wc_X10_in ml_RX10_58 sm_X10_in (ev_X10_in x2 0 6 M _ hq3) rfl rfl (by decide) rfl rfl (Nat.le_of_ble_eq_true rfl) ?_
    refine Ev.if_ne (pc := 15) (tgt := 24) dX10_as_15 (by decide) (fun c9 => ?_) (fun c9 => ?_)
    · have h := eF h c9
      refine Ev.aload_n (pc := 24) dX10_as_24 rfl ?_
      refine Ev.iload_n (pc := 25) dX10_as_25 rfl ?_
      refine Ev.iconst (pc := 26) dX10_as_26 (v := 0) (by decide) ?_
      refine eBk h (fun q4 hq4 h => ?_)
      refine Ev.callV (pc := 27) (as := [.int x1, .int 0]) (st := []) (z := 0) dX10_as_27 wc_X10_show ml_RX10_77 im_X10_show se_X10_show lR_0 rfl rfl (ev_X10_show x1 0 M _ hq4) rfl rfl (by decide) rfl rfl (Nat.le_of_ble_eq_true rfl) ?_
      refine Ev.iload_n (pc := 30) dX10_as_30 rfl ?_
      refine eBk h (fun q5 hq5 h => ?_)
      refine Ev.callS (pc := 31) (as := [.int q4, .int x2]) (st := []) (z := 0) dX10_as_31 wc_X10_isUnder ml_RX10_112 sm_X10_isUnder (ev_X10_isUnder q4 x2 M _ hq5) rfl rfl (by decide) rfl rfl (Nat.le_of_ble_eq_true rfl) ?_
      refine Ev.if_eq (pc := 34) (tgt := 41) dX10_as_34 (by decide) (fun c9 => ?_) (fun c9 => ?_)
      · have h := eT h c9
        refine Ev.aload_n (pc := 41) dX10_as_41 rfl ?_
        refine Ev.iconst (pc := 42) dX10_as_42 (v := 3) (by decide) ?_
        refine eBk h (fun q6 hq6 h => ?_)
        refine Ev.callV (pc := 43) (as := [.int 3]) (st := []) (z := 0) dX10_as_43 wc_X10_finding ml_RX10_66 im_X10_finding se_X10_finding lR_0 rfl rfl (ev_X10_finding 3 M _ hq6) rfl rfl (by decide) rfl rfl (Nat.le_of_ble_eq_true rfl) ?_
        obtain rfl := Option.some.inj h
        exact Ev.iret (pc := 46) dX10_as_46 rfl rfl
      · have h := eF h c9
        refine Ev.iload_n (pc := 37) dX10_as_37 rfl ?_
        refine Ev.goto (pc := 38) (tgt := 46) dX10_as_38 (by decide) ?_
        obtain rfl := Option.some.inj h
        exact Ev.iret (pc := 46) dX10_as_46 rfl rfl
    · have h := eT h c9
      refine Ev.aload_n (pc := 18) dX10_as_18 rfl ?_
      refine Ev.iconst (pc := 19) dX10_as_19 (v := 1) (by decide) ?_
      refine eBk h (fun q7 hq7 h => ?_)
      refine Ev.callV (pc := 20) (as := [.int 1]) (st := []) (z := 0) dX10_as_20 wc_X10_finding ml_RX10_66 im_X10_finding se_X10_finding lR_0 rfl rfl (ev_X10_finding 1 M _ hq7) rfl rfl (by decide) rfl rfl (Nat.le_of_ble_eq_true rfl) ?_
      obtain rfl := Option.some.inj h
      exact Ev.iret (pc := 23) dX10_as_23 rfl rfl
theorem dX5_price_0 : decode cX5_price 0 = .ok (.aload_n 0, 1) := by decide +kernel
theorem dX5_price_1 : decode cX5_price 1 = .ok (.getfield 9, 3) := by decide +kernel
theorem dX5_price_4 : decode cX5_price 4 = .ok (.iload_n 1, 1) := by decide +kernel
theorem dX5_price_5 : decode cX5_price 5 = .ok (.iaload, 1) := by decide +kernel
theorem dX5_price_6 : decode cX5_price 6 = .ok (.iconst 3, 1) := by decide +kernel
theorem dX5_price_7 : decode cX5_price 7 = .ok (.if_icmp .ne 21, 3) := by decide +kernel
theorem dX5_price_10 : decode cX5_price 10 = .ok (.aload_n 0, 1) := by decide +kernel
theorem dX5_price_11 : decode cX5_price 11 = .ok (.getfield 24, 3) := by decide +kernel
theorem dX5_price_14 : decode cX5_price 14 = .ok (.iload_n 1, 1) := by decide +kernel
theorem dX5_price_15 : decode cX5_price 15 = .ok (.iaload, 1) := by decide +kernel
theorem dX5_price_16 : decode cX5_price 16 = .ok (.aload_n 0, 1) := by decide +kernel
theorem dX5_price_17 : decode cX5_price 17 = .ok (.getfield 21, 3) := by decide +kernel
theorem dX5_price_20 : decode cX5_price 20 = .ok (.iload_n 1, 1) := by decide +kernel
theorem dX5_price_21 : decode cX5_price 21 = .ok (.iaload, 1) := by decide +kernel
theorem dX5_price_22 : decode cX5_price 22 = .ok (.isub, 1) := by decide +kernel
theorem dX5_price_23 : decode cX5_price 23 = .ok (.iconst 1, 1) := by decide +kernel
theorem dX5_price_24 : decode cX5_price 24 = .ok (.iadd, 1) := by decide +kernel
theorem dX5_price_25 : decode cX5_price 25 = .ok (.goto 13, 3) := by decide +kernel
theorem dX5_price_28 : decode cX5_price 28 = .ok (.getstatic 54, 3) := by decide +kernel
theorem dX5_price_31 : decode cX5_price 31 = .ok (.aload_n 0, 1) := by decide +kernel
theorem dX5_price_32 : decode cX5_price 32 = .ok (.getfield 9, 3) := by decide +kernel
theorem dX5_price_35 : decode cX5_price 35 = .ok (.iload_n 1, 1) := by decide +kernel
theorem dX5_price_36 : decode cX5_price 36 = .ok (.iaload, 1) := by decide +kernel
theorem dX5_price_37 : decode cX5_price 37 = .ok (.iaload, 1) := by decide +kernel
theorem dX5_price_38 : decode cX5_price 38 = .ok (.ireturn, 1) := by decide +kernel
def F_X5_price (x1 : Int32) (M : eMem) : Option Int32 :=
  eG (eIn x1 20) <|
  if (M.1 13 x1.toNatClampNeg) = 3 then
    eG (eIn x1 20) <|
    eG (eIn x1 20) <|
    some (((M.1 17 x1.toNatClampNeg) - (M.1 16 x1.toNatClampNeg)) + 1)
  else
    eG (eIn x1 20) <|
    eG (eIn (M.1 13 x1.toNatClampNeg) 7) <|
    some ((eKA.getD 1 []).getD (M.1 13 x1.toNatClampNeg).toNatClampNeg 0)
set_option maxRecDepth 100000 in
set_option maxHeartbeats 4000000 in
theorem ev_X5_price (x1 : Int32) (M : eMem) (q : Int32) (h : F_X5_price x1 M = some q) : Ev layC 0 m_X5_price 0 [some (.ref 12), some (.int x1)] [] M (some (.int q), M) := by
  rw [F_X5_price] at h
  refine Ev.aload_n (pc := 0) dX5_price_0 rfl ?_
  refine Ev.getR (pc := 1) dX5_price_1 fl_RX5_9 lC_12 rfl ?_
  refine Ev.iload_n (pc := 4) dX5_price_4 rfl ?_
  obtain ⟨g9, h⟩ := eGdB h
  refine Ev.ialdj (pc := 5) dX5_price_5 (j := x1.toNatClampNeg) lC_13 g9 rfl ?_
  refine Ev.iconst (pc := 6) dX5_price_6 (v := 3) (by decide) ?_
  refine Ev.icmp_ne (pc := 7) (tgt := 28) dX5_price_7 (by decide) (fun c9 => ?_) (fun c9 => ?_)
  · have h := eF h c9
    refine Ev.getKN (pc := 28) dX5_price_28 (j := 1) (by decide) fx_RX5_54 ?_
    refine Ev.aload_n (pc := 31) dX5_price_31 rfl ?_
    refine Ev.getR (pc := 32) dX5_price_32 fl_RX5_9 lC_12 rfl ?_
    refine Ev.iload_n (pc := 35) dX5_price_35 rfl ?_
    obtain ⟨g9, h⟩ := eGdB h
    refine Ev.ialdj (pc := 36) dX5_price_36 (j := x1.toNatClampNeg) lC_13 g9 rfl ?_
    obtain ⟨g9, h⟩ := eGdB h
    refine Ev.kaldj (pc := 37) dX5_price_37 (j := 1) (n := (M.1 13 x1.toNatClampNeg).toNatClampNeg) (by decide) g9 rfl ?_
    obtain rfl := Option.some.inj h
    exact Ev.iret (pc := 38) dX5_price_38 rfl rfl
  · have h := eT h c9
    refine Ev.aload_n (pc := 10) dX5_price_10 rfl ?_
    refine Ev.getR (pc := 11) dX5_price_11 fl_RX5_24 lC_12 rfl ?_
    refine Ev.iload_n (pc := 14) dX5_price_14 rfl ?_
    obtain ⟨g9, h⟩ := eGdB h
    refine Ev.ialdj (pc := 15) dX5_price_15 (j := x1.toNatClampNeg) lC_17 g9 rfl ?_
    refine Ev.aload_n (pc := 16) dX5_price_16 rfl ?_
    refine Ev.getR (pc := 17) dX5_price_17 fl_RX5_21 lC_12 rfl ?_
    refine Ev.iload_n (pc := 20) dX5_price_20 rfl ?_
    obtain ⟨g9, h⟩ := eGdB h
    refine Ev.ialdj (pc := 21) dX5_price_21 (j := x1.toNatClampNeg) lC_16 g9 rfl ?_
    refine Ev.isub (pc := 22) dX5_price_22 ?_
    refine Ev.iconst (pc := 23) dX5_price_23 (v := 1) (by decide) ?_
    refine Ev.iadd (pc := 24) dX5_price_24 ?_
    refine Ev.goto (pc := 25) (tgt := 38) dX5_price_25 (by decide) ?_
    obtain rfl := Option.some.inj h
    exact Ev.iret (pc := 38) dX5_price_38 rfl rfl
theorem dX5_top_0 : decode cX5_top 0 = .ok (.aload_n 0, 1) := by decide +kernel
theorem dX5_top_1 : decode cX5_top 1 = .ok (.getfield 9, 3) := by decide +kernel
theorem dX5_top_4 : decode cX5_top 4 = .ok (.iload_n 1, 1) := by decide +kernel
theorem dX5_top_5 : decode cX5_top 5 = .ok (.iaload, 1) := by decide +kernel
theorem dX5_top_6 : decode cX5_top 6 = .ok (.ifCond .ne 7, 3) := by decide +kernel
theorem dX5_top_9 : decode cX5_top 9 = .ok (.iconst 0, 1) := by decide +kernel
theorem dX5_top_10 : decode cX5_top 10 = .ok (.goto 9, 3) := by decide +kernel
theorem dX5_top_13 : decode cX5_top 13 = .ok (.aload_n 0, 1) := by decide +kernel
theorem dX5_top_14 : decode cX5_top 14 = .ok (.getfield 21, 3) := by decide +kernel
theorem dX5_top_17 : decode cX5_top 17 = .ok (.iload_n 1, 1) := by decide +kernel
theorem dX5_top_18 : decode cX5_top 18 = .ok (.iaload, 1) := by decide +kernel
theorem dX5_top_19 : decode cX5_top 19 = .ok (.ireturn, 1) := by decide +kernel
def F_X5_top (x1 : Int32) (M : eMem) : Option Int32 :=
  eG (eIn x1 20) <|
  if (M.1 13 x1.toNatClampNeg) = 0 then
    some 0
  else
    eG (eIn x1 20) <|
    some (M.1 16 x1.toNatClampNeg)
set_option maxRecDepth 100000 in
set_option maxHeartbeats 4000000 in
theorem ev_X5_top (x1 : Int32) (M : eMem) (q : Int32) (h : F_X5_top x1 M = some q) : Ev layC 0 m_X5_top 0 [some (.ref 12), some (.int x1)] [] M (some (.int q), M) := by
  rw [F_X5_top] at h
  refine Ev.aload_n (pc := 0) dX5_top_0 rfl ?_
  refine Ev.getR (pc := 1) dX5_top_1 fl_RX5_9 lC_12 rfl ?_
  refine Ev.iload_n (pc := 4) dX5_top_4 rfl ?_
  obtain ⟨g9, h⟩ := eGdB h
  refine Ev.ialdj (pc := 5) dX5_top_5 (j := x1.toNatClampNeg) lC_13 g9 rfl ?_
  refine Ev.if_ne (pc := 6) (tgt := 13) dX5_top_6 (by decide) (fun c9 => ?_) (fun c9 => ?_)
  · have h := eF h c9
    refine Ev.aload_n (pc := 13) dX5_top_13 rfl ?_
    refine Ev.getR (pc := 14) dX5_top_14 fl_RX5_21 lC_12 rfl ?_
    refine Ev.iload_n (pc := 17) dX5_top_17 rfl ?_
    obtain ⟨g9, h⟩ := eGdB h
    refine Ev.ialdj (pc := 18) dX5_top_18 (j := x1.toNatClampNeg) lC_16 g9 rfl ?_
    obtain rfl := Option.some.inj h
    exact Ev.iret (pc := 19) dX5_top_19 rfl rfl
  · have h := eT h c9
    refine Ev.iconst (pc := 9) dX5_top_9 (v := 0) (by decide) ?_
    refine Ev.goto (pc := 10) (tgt := 19) dX5_top_10 (by decide) ?_
    obtain rfl := Option.some.inj h
    exact Ev.iret (pc := 19) dX5_top_19 rfl rfl
theorem dX9_of_0 : decode cX9_of 0 = .ok (.aload_n 0, 1) := by decide +kernel
theorem dX9_of_1 : decode cX9_of 1 = .ok (.getfield 12, 3) := by decide +kernel
theorem dX9_of_4 : decode cX9_of 4 = .ok (.getfield 130, 3) := by decide +kernel
theorem dX9_of_7 : decode cX9_of 7 = .ok (.astore_n 3, 1) := by decide +kernel
theorem dX9_of_8 : decode cX9_of 8 = .ok (.aload_n 3, 1) := by decide +kernel
theorem dX9_of_9 : decode cX9_of 9 = .ok (.iload_n 1, 1) := by decide +kernel
theorem dX9_of_10 : decode cX9_of 10 = .ok (.invokevirtual 143, 3) := by decide +kernel
theorem dX9_of_13 : decode cX9_of 13 = .ok (.ifCond .ne 10, 3) := by decide +kernel
theorem dX9_of_16 : decode cX9_of 16 = .ok (.aload_n 0, 1) := by decide +kernel
theorem dX9_of_17 : decode cX9_of 17 = .ok (.ldc 41, 2) := by decide +kernel
theorem dX9_of_19 : decode cX9_of 19 = .ok (.invokevirtual 42, 3) := by decide +kernel
theorem dX9_of_22 : decode cX9_of 22 = .ok (.ireturn, 1) := by decide +kernel
theorem dX9_of_23 : decode cX9_of 23 = .ok (.aload_n 3, 1) := by decide +kernel
theorem dX9_of_24 : decode cX9_of 24 = .ok (.getfield 146, 3) := by decide +kernel
theorem dX9_of_27 : decode cX9_of 27 = .ok (.iload_n 1, 1) := by decide +kernel
theorem dX9_of_28 : decode cX9_of 28 = .ok (.iaload, 1) := by decide +kernel
theorem dX9_of_29 : decode cX9_of 29 = .ok (.istore 4, 2) := by decide +kernel
theorem dX9_of_31 : decode cX9_of 31 = .ok (.iload_n 2, 1) := by decide +kernel
theorem dX9_of_32 : decode cX9_of 32 = .ok (.tableswitch 252 0 13 #[72, 75, 82, 89, 104, 119, 126, 132, 138, 145, 162, 183, 208, 230], 72) := by decide +kernel
theorem dX9_of_104 : decode cX9_of 104 = .ok (.iload 4, 2) := by decide +kernel
theorem dX9_of_106 : decode cX9_of 106 = .ok (.ireturn, 1) := by decide +kernel
theorem dX9_of_107 : decode cX9_of 107 = .ok (.aload_n 3, 1) := by decide +kernel
theorem dX9_of_108 : decode cX9_of 108 = .ok (.getfield 152, 3) := by decide +kernel
theorem dX9_of_111 : decode cX9_of 111 = .ok (.iload_n 1, 1) := by decide +kernel
theorem dX9_of_112 : decode cX9_of 112 = .ok (.iaload, 1) := by decide +kernel
theorem dX9_of_113 : decode cX9_of 113 = .ok (.ireturn, 1) := by decide +kernel
theorem dX9_of_114 : decode cX9_of 114 = .ok (.aload_n 3, 1) := by decide +kernel
theorem dX9_of_115 : decode cX9_of 115 = .ok (.getfield 155, 3) := by decide +kernel
theorem dX9_of_118 : decode cX9_of 118 = .ok (.iload_n 1, 1) := by decide +kernel
theorem dX9_of_119 : decode cX9_of 119 = .ok (.iaload, 1) := by decide +kernel
theorem dX9_of_120 : decode cX9_of 120 = .ok (.ireturn, 1) := by decide +kernel
theorem dX9_of_121 : decode cX9_of 121 = .ok (.aload_n 3, 1) := by decide +kernel
theorem dX9_of_122 : decode cX9_of 122 = .ok (.getfield 158, 3) := by decide +kernel
theorem dX9_of_125 : decode cX9_of 125 = .ok (.iload_n 1, 1) := by decide +kernel
theorem dX9_of_126 : decode cX9_of 126 = .ok (.baload, 1) := by decide +kernel
theorem dX9_of_127 : decode cX9_of 127 = .ok (.ifCond .eq 7, 3) := by decide +kernel
theorem dX9_of_130 : decode cX9_of 130 = .ok (.iconst 1, 1) := by decide +kernel
theorem dX9_of_131 : decode cX9_of 131 = .ok (.goto 4, 3) := by decide +kernel
theorem dX9_of_134 : decode cX9_of 134 = .ok (.iconst 0, 1) := by decide +kernel
theorem dX9_of_135 : decode cX9_of 135 = .ok (.ireturn, 1) := by decide +kernel
theorem dX9_of_136 : decode cX9_of 136 = .ok (.aload_n 3, 1) := by decide +kernel
theorem dX9_of_137 : decode cX9_of 137 = .ok (.getfield 162, 3) := by decide +kernel
theorem dX9_of_140 : decode cX9_of 140 = .ok (.iload_n 1, 1) := by decide +kernel
theorem dX9_of_141 : decode cX9_of 141 = .ok (.baload, 1) := by decide +kernel
theorem dX9_of_142 : decode cX9_of 142 = .ok (.ifCond .eq 7, 3) := by decide +kernel
theorem dX9_of_145 : decode cX9_of 145 = .ok (.iconst 1, 1) := by decide +kernel
theorem dX9_of_146 : decode cX9_of 146 = .ok (.goto 4, 3) := by decide +kernel
theorem dX9_of_149 : decode cX9_of 149 = .ok (.iconst 0, 1) := by decide +kernel
theorem dX9_of_150 : decode cX9_of 150 = .ok (.ireturn, 1) := by decide +kernel
theorem dX9_of_151 : decode cX9_of 151 = .ok (.aload_n 3, 1) := by decide +kernel
theorem dX9_of_152 : decode cX9_of 152 = .ok (.getfield 165, 3) := by decide +kernel
theorem dX9_of_155 : decode cX9_of 155 = .ok (.iload_n 1, 1) := by decide +kernel
theorem dX9_of_156 : decode cX9_of 156 = .ok (.iaload, 1) := by decide +kernel
theorem dX9_of_157 : decode cX9_of 157 = .ok (.ireturn, 1) := by decide +kernel
theorem dX9_of_158 : decode cX9_of 158 = .ok (.aload_n 3, 1) := by decide +kernel
theorem dX9_of_159 : decode cX9_of 159 = .ok (.iload_n 1, 1) := by decide +kernel
theorem dX9_of_160 : decode cX9_of 160 = .ok (.invokevirtual 168, 3) := by decide +kernel
theorem dX9_of_163 : decode cX9_of 163 = .ok (.ireturn, 1) := by decide +kernel
theorem dX9_of_164 : decode cX9_of 164 = .ok (.aload_n 3, 1) := by decide +kernel
theorem dX9_of_165 : decode cX9_of 165 = .ok (.iload_n 1, 1) := by decide +kernel
theorem dX9_of_166 : decode cX9_of 166 = .ok (.invokevirtual 171, 3) := by decide +kernel
theorem dX9_of_169 : decode cX9_of 169 = .ok (.ireturn, 1) := by decide +kernel
theorem dX9_of_170 : decode cX9_of 170 = .ok (.aload_n 3, 1) := by decide +kernel
theorem dX9_of_171 : decode cX9_of 171 = .ok (.getfield 174, 3) := by decide +kernel
theorem dX9_of_174 : decode cX9_of 174 = .ok (.iload_n 1, 1) := by decide +kernel
theorem dX9_of_175 : decode cX9_of 175 = .ok (.iaload, 1) := by decide +kernel
theorem dX9_of_176 : decode cX9_of 176 = .ok (.ireturn, 1) := by decide +kernel
theorem dX9_of_177 : decode cX9_of 177 = .ok (.aload_n 0, 1) := by decide +kernel
theorem dX9_of_178 : decode cX9_of 178 = .ok (.getfield 12, 3) := by decide +kernel
theorem dX9_of_181 : decode cX9_of 181 = .ok (.iload_n 1, 1) := by decide +kernel
theorem dX9_of_182 : decode cX9_of 182 = .ok (.invokevirtual 177, 3) := by decide +kernel
theorem dX9_of_185 : decode cX9_of 185 = .ok (.ifCond .eq 7, 3) := by decide +kernel
theorem dX9_of_188 : decode cX9_of 188 = .ok (.iconst 1, 1) := by decide +kernel
theorem dX9_of_189 : decode cX9_of 189 = .ok (.goto 4, 3) := by decide +kernel
theorem dX9_of_192 : decode cX9_of 192 = .ok (.iconst 0, 1) := by decide +kernel
theorem dX9_of_193 : decode cX9_of 193 = .ok (.ireturn, 1) := by decide +kernel
theorem dX9_of_194 : decode cX9_of 194 = .ok (.iload 4, 2) := by decide +kernel
theorem dX9_of_196 : decode cX9_of 196 = .ok (.iconst 2, 1) := by decide +kernel
theorem dX9_of_197 : decode cX9_of 197 = .ok (.if_icmp .gt 11, 3) := by decide +kernel
theorem dX9_of_200 : decode cX9_of 200 = .ok (.aload_n 3, 1) := by decide +kernel
theorem dX9_of_201 : decode cX9_of 201 = .ok (.iload_n 1, 1) := by decide +kernel
theorem dX9_of_202 : decode cX9_of 202 = .ok (.invokevirtual 180, 3) := by decide +kernel
theorem dX9_of_205 : decode cX9_of 205 = .ok (.goto 9, 3) := by decide +kernel
theorem dX9_of_208 : decode cX9_of 208 = .ok (.aload_n 0, 1) := by decide +kernel
theorem dX9_of_209 : decode cX9_of 209 = .ok (.ldc 89, 2) := by decide +kernel
theorem dX9_of_211 : decode cX9_of 211 = .ok (.invokevirtual 42, 3) := by decide +kernel
theorem dX9_of_214 : decode cX9_of 214 = .ok (.ireturn, 1) := by decide +kernel
theorem dX9_of_215 : decode cX9_of 215 = .ok (.iload 4, 2) := by decide +kernel
theorem dX9_of_217 : decode cX9_of 217 = .ok (.iconst 1, 1) := by decide +kernel
theorem dX9_of_218 : decode cX9_of 218 = .ok (.invokestatic 149, 3) := by decide +kernel
theorem dX9_of_221 : decode cX9_of 221 = .ok (.ifCond .eq 12, 3) := by decide +kernel
theorem dX9_of_224 : decode cX9_of 224 = .ok (.aload_n 3, 1) := by decide +kernel
theorem dX9_of_225 : decode cX9_of 225 = .ok (.getfield 183, 3) := by decide +kernel
theorem dX9_of_228 : decode cX9_of 228 = .ok (.iload_n 1, 1) := by decide +kernel
theorem dX9_of_229 : decode cX9_of 229 = .ok (.iaload, 1) := by decide +kernel
theorem dX9_of_230 : decode cX9_of 230 = .ok (.goto 9, 3) := by decide +kernel
theorem dX9_of_233 : decode cX9_of 233 = .ok (.aload_n 0, 1) := by decide +kernel
theorem dX9_of_234 : decode cX9_of 234 = .ok (.ldc 89, 2) := by decide +kernel
theorem dX9_of_236 : decode cX9_of 236 = .ok (.invokevirtual 42, 3) := by decide +kernel
theorem dX9_of_239 : decode cX9_of 239 = .ok (.ireturn, 1) := by decide +kernel
theorem dX9_of_240 : decode cX9_of 240 = .ok (.iload 4, 2) := by decide +kernel
theorem dX9_of_242 : decode cX9_of 242 = .ok (.iconst 4, 1) := by decide +kernel
theorem dX9_of_243 : decode cX9_of 243 = .ok (.if_icmp .ne 12, 3) := by decide +kernel
theorem dX9_of_246 : decode cX9_of 246 = .ok (.aload_n 3, 1) := by decide +kernel
theorem dX9_of_247 : decode cX9_of 247 = .ok (.getfield 186, 3) := by decide +kernel
theorem dX9_of_250 : decode cX9_of 250 = .ok (.iload_n 1, 1) := by decide +kernel
theorem dX9_of_251 : decode cX9_of 251 = .ok (.iaload, 1) := by decide +kernel
theorem dX9_of_252 : decode cX9_of 252 = .ok (.goto 9, 3) := by decide +kernel
theorem dX9_of_255 : decode cX9_of 255 = .ok (.aload_n 0, 1) := by decide +kernel
theorem dX9_of_256 : decode cX9_of 256 = .ok (.ldc 89, 2) := by decide +kernel
theorem dX9_of_258 : decode cX9_of 258 = .ok (.invokevirtual 42, 3) := by decide +kernel
theorem dX9_of_261 : decode cX9_of 261 = .ok (.ireturn, 1) := by decide +kernel
theorem dX9_of_262 : decode cX9_of 262 = .ok (.iload 4, 2) := by decide +kernel
theorem dX9_of_264 : decode cX9_of 264 = .ok (.iconst 4, 1) := by decide +kernel
theorem dX9_of_265 : decode cX9_of 265 = .ok (.if_icmp .ne 12, 3) := by decide +kernel
theorem dX9_of_268 : decode cX9_of 268 = .ok (.aload_n 3, 1) := by decide +kernel
theorem dX9_of_269 : decode cX9_of 269 = .ok (.getfield 183, 3) := by decide +kernel
theorem dX9_of_272 : decode cX9_of 272 = .ok (.iload_n 1, 1) := by decide +kernel
theorem dX9_of_273 : decode cX9_of 273 = .ok (.iaload, 1) := by decide +kernel
theorem dX9_of_274 : decode cX9_of 274 = .ok (.goto 9, 3) := by decide +kernel
theorem dX9_of_277 : decode cX9_of 277 = .ok (.aload_n 0, 1) := by decide +kernel
theorem dX9_of_278 : decode cX9_of 278 = .ok (.ldc 89, 2) := by decide +kernel
theorem dX9_of_280 : decode cX9_of 280 = .ok (.invokevirtual 42, 3) := by decide +kernel
theorem dX9_of_283 : decode cX9_of 283 = .ok (.ireturn, 1) := by decide +kernel
theorem dX9_of_284 : decode cX9_of 284 = .ok (.aload_n 0, 1) := by decide +kernel
theorem dX9_of_285 : decode cX9_of 285 = .ok (.ldc 41, 2) := by decide +kernel
theorem dX9_of_287 : decode cX9_of 287 = .ok (.invokevirtual 42, 3) := by decide +kernel
theorem dX9_of_290 : decode cX9_of 290 = .ok (.ireturn, 1) := by decide +kernel
def F_X9_of (x1 : Int32) (x2 : Int32) (M : eMem) : Option (Int32 × eMem) :=
  (F_X5_has x1 M).bind fun q1 =>
  if q1 = 0 then
    (F_X9_found (-1000001) M).bind fun q26 =>
    some (q26.1, q26.2)
  else
    eG (eIn x1 20) <|
    if x2 = 0 then
      some ((M.1 13 x1.toNatClampNeg), M)
    else
    if x2 = 1 then
      eG (eIn x1 20) <|
      some ((M.1 14 x1.toNatClampNeg), M)
    else
    if x2 = 2 then
      eG (eIn x1 20) <|
      some ((M.1 15 x1.toNatClampNeg), M)
    else
    if x2 = 3 then
      eG (eIn x1 20) <|
      if (M.1 18 x1.toNatClampNeg) = 0 then
        some (0, M)
      else
        some (1, M)
    else
    if x2 = 4 then
      eG (eIn x1 20) <|
      if (M.1 20 x1.toNatClampNeg) = 0 then
        some (0, M)
      else
        some (1, M)
    else
    if x2 = 5 then
      eG (eIn x1 20) <|
      some ((M.1 21 x1.toNatClampNeg), M)
    else
    if x2 = 6 then
      (F_X5_need x1 M).bind fun q8 =>
      some (q8, M)
    else
    if x2 = 7 then
      (F_X5_price x1 M).bind fun q10 =>
      some (q10, M)
    else
    if x2 = 8 then
      eG (eIn x1 20) <|
      some ((M.1 22 x1.toNatClampNeg), M)
    else
    if x2 = 9 then
      (F_X8_isShown x1 M).bind fun q13 =>
      if q13.1 = 0 then
        some (0, q13.2)
      else
        some (1, q13.2)
    else
    if x2 = 10 then
      if 2 < (M.1 13 x1.toNatClampNeg) then
        (F_X9_found (-1000003) M).bind fun q15 =>
        some (q15.1, q15.2)
      else
        (F_X5_top x1 M).bind fun q16 =>
        some (q16, M)
    else
    if x2 = 11 then
      (F_X9_isUnder (M.1 13 x1.toNatClampNeg) 1).bind fun q18 =>
      if q18 = 0 then
        (F_X9_found (-1000003) M).bind fun q19 =>
        some (q19.1, q19.2)
      else
        eG (eIn x1 20) <|
        some ((M.1 17 x1.toNatClampNeg), M)
    else
    if x2 = 12 then
      if (M.1 13 x1.toNatClampNeg) = 4 then
        eG (eIn x1 20) <|
        some ((M.1 16 x1.toNatClampNeg), M)
      else
        (F_X9_found (-1000003) M).bind fun q21 =>
        some (q21.1, q21.2)
    else
    if x2 = 13 then
      if (M.1 13 x1.toNatClampNeg) = 4 then
        eG (eIn x1 20) <|
        some ((M.1 17 x1.toNatClampNeg), M)
      else
        (F_X9_found (-1000003) M).bind fun q23 =>
        some (q23.1, q23.2)
    else
    (F_X9_found (-1000001) M).bind fun q25 =>
    some (q25.1, q25.2)
set_option maxRecDepth 100000 in
set_option maxHeartbeats 4000000 in
theorem ev_X9_of (x1 : Int32) (x2 : Int32) (M : eMem) (q : (Int32 × eMem)) (h : F_X9_of x1 x2 M = some q) : Ev layC 4 m_X9_of 0 [some (.ref 0), some (.int x1), some (.int x2), none, none] [] M (some (.int q.1), q.2) := by
  rw [F_X9_of] at h
  refine Ev.aload_n (pc := 0) dX9_of_0 rfl ?_
  refine Ev.getR (pc := 1) dX9_of_1 fl_RX9_12 lC_0 rfl ?_
  refine Ev.getR (pc := 4) dX9_of_4 fl_RX9_130 lC_1 rfl ?_
  refine Ev.astore_n (pc := 7) dX9_of_7 (by decide) rfl rfl ?_
  refine Ev.aload_n (pc := 8) dX9_of_8 rfl ?_
  refine Ev.iload_n (pc := 9) dX9_of_9 rfl ?_
  refine eBk h (fun q1 hq1 h => ?_)
  refine Ev.callV (pc := 10) (as := [.int x1]) (st := []) (z := 0) dX9_of_10 wc_X5_has ml_RX9_143 im_X5_has se_X5_has lC_12 rfl rfl (ev_X5_has x1 M _ hq1) rfl rfl (by decide) rfl rfl (Nat.le_of_ble_eq_true rfl) ?_
  refine Ev.if_ne (pc := 13) (tgt := 23) dX9_of_13 (by decide) (fun c9 => ?_) (fun c9 => ?_)
  · have h := eF h c9
    refine Ev.aload_n (pc := 23) dX9_of_23 rfl ?_
    refine Ev.getR (pc := 24) dX9_of_24 fl_RX9_146 lC_12 rfl ?_
    refine Ev.iload_n (pc := 27) dX9_of_27 rfl ?_
    obtain ⟨g9, h⟩ := eGdB h
    refine Ev.ialdj (pc := 28) dX9_of_28 (j := x1.toNatClampNeg) lC_13 g9 rfl ?_
    refine Ev.istore (pc := 29) dX9_of_29 (by decide) rfl rfl ?_
    refine Ev.iload_n (pc := 31) dX9_of_31 rfl ?_
    by_cases cs2 : x2 = 0
    · have h := eT h cs2
      refine Ev.tsIn (pc := 32) (tgt := 104) (off := 72) dX9_of_32 (by rw [cs2]; decide) (by rw [cs2]; decide) (by rw [cs2]; rfl) (by decide) ?_
      refine Ev.iload (pc := 104) dX9_of_104 rfl ?_
      obtain rfl := Option.some.inj h
      exact Ev.iret (pc := 106) dX9_of_106 rfl rfl
    have h := eF h cs2
    by_cases cs3 : x2 = 1
    · have h := eT h cs3
      refine Ev.tsIn (pc := 32) (tgt := 107) (off := 75) dX9_of_32 (by rw [cs3]; decide) (by rw [cs3]; decide) (by rw [cs3]; rfl) (by decide) ?_
      refine Ev.aload_n (pc := 107) dX9_of_107 rfl ?_
      refine Ev.getR (pc := 108) dX9_of_108 fl_RX9_152 lC_12 rfl ?_
      refine Ev.iload_n (pc := 111) dX9_of_111 rfl ?_
      obtain ⟨g9, h⟩ := eGdB h
      refine Ev.ialdj (pc := 112) dX9_of_112 (j := x1.toNatClampNeg) lC_14 g9 rfl ?_
      obtain rfl := Option.some.inj h
      exact Ev.iret (pc := 113) dX9_of_113 rfl rfl
    have h := eF h cs3
    by_cases cs4 : x2 = 2
    · have h := eT h cs4
      refine Ev.tsIn (pc := 32) (tgt := 114) (off := 82) dX9_of_32 (by rw [cs4]; decide) (by rw [cs4]; decide) (by rw [cs4]; rfl) (by decide) ?_
      refine Ev.aload_n (pc := 114) dX9_of_114 rfl ?_
      refine Ev.getR (pc := 115) dX9_of_115 fl_RX9_155 lC_12 rfl ?_
      refine Ev.iload_n (pc := 118) dX9_of_118 rfl ?_
      obtain ⟨g9, h⟩ := eGdB h
      refine Ev.ialdj (pc := 119) dX9_of_119 (j := x1.toNatClampNeg) lC_15 g9 rfl ?_
      obtain rfl := Option.some.inj h
      exact Ev.iret (pc := 120) dX9_of_120 rfl rfl
    have h := eF h cs4
    by_cases cs5 : x2 = 3
    · have h := eT h cs5
      refine Ev.tsIn (pc := 32) (tgt := 121) (off := 89) dX9_of_32 (by rw [cs5]; decide) (by rw [cs5]; decide) (by rw [cs5]; rfl) (by decide) ?_
      refine Ev.aload_n (pc := 121) dX9_of_121 rfl ?_
      refine Ev.getR (pc := 122) dX9_of_122 fl_RX9_158 lC_12 rfl ?_
      refine Ev.iload_n (pc := 125) dX9_of_125 rfl ?_
      obtain ⟨g9, h⟩ := eGdB h
      refine Ev.zaldj (pc := 126) dX9_of_126 (j := x1.toNatClampNeg) lC_18 g9 rfl ?_
      refine Ev.if_eq (pc := 127) (tgt := 134) dX9_of_127 (by decide) (fun c9 => ?_) (fun c9 => ?_)
      · have h := eT h c9
        refine Ev.iconst (pc := 134) dX9_of_134 (v := 0) (by decide) ?_
        obtain rfl := Option.some.inj h
        exact Ev.iret (pc := 135) dX9_of_135 rfl rfl
      · have h := eF h c9
        refine Ev.iconst (pc := 130) dX9_of_130 (v := 1) (by decide) ?_
        refine Ev.goto (pc := 131) (tgt := 135) dX9_of_131 (by decide) ?_
        obtain rfl := Option.some.inj h
        exact Ev.iret (pc := 135) dX9_of_135 rfl rfl
    have h := eF h cs5
    by_cases cs6 : x2 = 4
    · have h := eT h cs6
      refine Ev.tsIn (pc := 32) (tgt := 136) (off := 104) dX9_of_32 (by rw [cs6]; decide) (by rw [cs6]; decide) (by rw [cs6]; rfl) (by decide) ?_
      refine Ev.aload_n (pc := 136) dX9_of_136 rfl ?_
      refine Ev.getR (pc := 137) dX9_of_137 fl_RX9_162 lC_12 rfl ?_
      refine Ev.iload_n (pc := 140) dX9_of_140 rfl ?_
      obtain ⟨g9, h⟩ := eGdB h
      refine Ev.zaldj (pc := 141) dX9_of_141 (j := x1.toNatClampNeg) lC_20 g9 rfl ?_
      refine Ev.if_eq (pc := 142) (tgt := 149) dX9_of_142 (by decide) (fun c9 => ?_) (fun c9 => ?_)
      · have h := eT h c9
        refine Ev.iconst (pc := 149) dX9_of_149 (v := 0) (by decide) ?_
        obtain rfl := Option.some.inj h
        exact Ev.iret (pc := 150) dX9_of_150 rfl rfl
      · have h := eF h c9
        refine Ev.iconst (pc := 145) dX9_of_145 (v := 1) (by decide) ?_
        refine Ev.goto (pc := 146) (tgt := 150) dX9_of_146 (by decide) ?_
        obtain rfl := Option.some.inj h
        exact Ev.iret (pc := 150) dX9_of_150 rfl rfl
    have h := eF h cs6
    by_cases cs7 : x2 = 5
    · have h := eT h cs7
      refine Ev.tsIn (pc := 32) (tgt := 151) (off := 119) dX9_of_32 (by rw [cs7]; decide) (by rw [cs7]; decide) (by rw [cs7]; rfl) (by decide) ?_
      refine Ev.aload_n (pc := 151) dX9_of_151 rfl ?_
      refine Ev.getR (pc := 152) dX9_of_152 fl_RX9_165 lC_12 rfl ?_
      refine Ev.iload_n (pc := 155) dX9_of_155 rfl ?_
      obtain ⟨g9, h⟩ := eGdB h
      refine Ev.ialdj (pc := 156) dX9_of_156 (j := x1.toNatClampNeg) lC_21 g9 rfl ?_
      obtain rfl := Option.some.inj h
      exact Ev.iret (pc := 157) dX9_of_157 rfl rfl
    have h := eF h cs7
    by_cases cs9 : x2 = 6
    · have h := eT h cs9
      refine Ev.tsIn (pc := 32) (tgt := 158) (off := 126) dX9_of_32 (by rw [cs9]; decide) (by rw [cs9]; decide) (by rw [cs9]; rfl) (by decide) ?_
      refine Ev.aload_n (pc := 158) dX9_of_158 rfl ?_
      refine Ev.iload_n (pc := 159) dX9_of_159 rfl ?_
      refine eBk h (fun q8 hq8 h => ?_)
      refine Ev.callV (pc := 160) (as := [.int x1]) (st := []) (z := 0) dX9_of_160 wc_X5_need ml_RX9_168 im_X5_need se_X5_need lC_12 rfl rfl (ev_X5_need x1 M _ hq8) rfl rfl (by decide) rfl rfl (Nat.le_of_ble_eq_true rfl) ?_
      obtain rfl := Option.some.inj h
      exact Ev.iret (pc := 163) dX9_of_163 rfl rfl
    have h := eF h cs9
    by_cases cs11 : x2 = 7
    · have h := eT h cs11
      refine Ev.tsIn (pc := 32) (tgt := 164) (off := 132) dX9_of_32 (by rw [cs11]; decide) (by rw [cs11]; decide) (by rw [cs11]; rfl) (by decide) ?_
      refine Ev.aload_n (pc := 164) dX9_of_164 rfl ?_
      refine Ev.iload_n (pc := 165) dX9_of_165 rfl ?_
      refine eBk h (fun q10 hq10 h => ?_)
      refine Ev.callV (pc := 166) (as := [.int x1]) (st := []) (z := 0) dX9_of_166 wc_X5_price ml_RX9_171 im_X5_price se_X5_price lC_12 rfl rfl (ev_X5_price x1 M _ hq10) rfl rfl (by decide) rfl rfl (Nat.le_of_ble_eq_true rfl) ?_
      obtain rfl := Option.some.inj h
      exact Ev.iret (pc := 169) dX9_of_169 rfl rfl
    have h := eF h cs11
    by_cases cs12 : x2 = 8
    · have h := eT h cs12
      refine Ev.tsIn (pc := 32) (tgt := 170) (off := 138) dX9_of_32 (by rw [cs12]; decide) (by rw [cs12]; decide) (by rw [cs12]; rfl) (by decide) ?_
      refine Ev.aload_n (pc := 170) dX9_of_170 rfl ?_
      refine Ev.getR (pc := 171) dX9_of_171 fl_RX9_174 lC_12 rfl ?_
      refine Ev.iload_n (pc := 174) dX9_of_174 rfl ?_
      obtain ⟨g9, h⟩ := eGdB h
      refine Ev.ialdj (pc := 175) dX9_of_175 (j := x1.toNatClampNeg) lC_22 g9 rfl ?_
      obtain rfl := Option.some.inj h
      exact Ev.iret (pc := 176) dX9_of_176 rfl rfl
    have h := eF h cs12
    by_cases cs14 : x2 = 9
    · have h := eT h cs14
      refine Ev.tsIn (pc := 32) (tgt := 177) (off := 145) dX9_of_32 (by rw [cs14]; decide) (by rw [cs14]; decide) (by rw [cs14]; rfl) (by decide) ?_
      refine Ev.aload_n (pc := 177) dX9_of_177 rfl ?_
      refine Ev.getR (pc := 178) dX9_of_178 fl_RX9_12 lC_0 rfl ?_
      refine Ev.iload_n (pc := 181) dX9_of_181 rfl ?_
      refine eBk h (fun q13 hq13 h => ?_)
      refine Ev.callV (pc := 182) (as := [.int x1]) (st := []) (z := 0) dX9_of_182 wc_X8_isShown ml_RX9_177 im_X8_isShown se_X8_isShown lC_1 rfl rfl (ev_X8_isShown x1 M _ hq13) rfl rfl (by decide) rfl rfl (Nat.le_of_ble_eq_true rfl) ?_
      refine Ev.if_eq (pc := 185) (tgt := 192) dX9_of_185 (by decide) (fun c9 => ?_) (fun c9 => ?_)
      · have h := eT h c9
        refine Ev.iconst (pc := 192) dX9_of_192 (v := 0) (by decide) ?_
        obtain rfl := Option.some.inj h
        exact Ev.iret (pc := 193) dX9_of_193 rfl rfl
      · have h := eF h c9
        refine Ev.iconst (pc := 188) dX9_of_188 (v := 1) (by decide) ?_
        refine Ev.goto (pc := 189) (tgt := 193) dX9_of_189 (by decide) ?_
        obtain rfl := Option.some.inj h
        exact Ev.iret (pc := 193) dX9_of_193 rfl rfl
    have h := eF h cs14
    by_cases cs17 : x2 = 10
    · have h := eT h cs17
      refine Ev.tsIn (pc := 32) (tgt := 194) (off := 162) dX9_of_32 (by rw [cs17]; decide) (by rw [cs17]; decide) (by rw [cs17]; rfl) (by decide) ?_
      refine Ev.iload (pc := 194) dX9_of_194 rfl ?_
      refine Ev.iconst (pc := 196) dX9_of_196 (v := 2) (by decide) ?_
      refine Ev.icmp_gt (pc := 197) (tgt := 208) dX9_of_197 (by decide) (fun c9 => ?_) (fun c9 => ?_)
      · have h := eT h c9
        refine Ev.aload_n (pc := 208) dX9_of_208 rfl ?_
        refine Ev.ldc (pc := 209) dX9_of_209 ld_RX9_89 ?_
        refine eBk h (fun q15 hq15 h => ?_)
        refine Ev.callV (pc := 211) (as := [.int (-1000003)]) (st := []) (z := 1) dX9_of_211 wc_X9_found ml_RX9_42 im_X9_found se_X9_found lC_0 rfl rfl (ev_X9_found (-1000003) M _ hq15) rfl rfl (by decide) rfl rfl (Nat.le_of_ble_eq_true rfl) ?_
        obtain rfl := Option.some.inj h
        exact Ev.iret (pc := 214) dX9_of_214 rfl rfl
      · have h := eF h c9
        refine Ev.aload_n (pc := 200) dX9_of_200 rfl ?_
        refine Ev.iload_n (pc := 201) dX9_of_201 rfl ?_
        refine eBk h (fun q16 hq16 h => ?_)
        refine Ev.callV (pc := 202) (as := [.int x1]) (st := []) (z := 0) dX9_of_202 wc_X5_top ml_RX9_180 im_X5_top se_X5_top lC_12 rfl rfl (ev_X5_top x1 M _ hq16) rfl rfl (by decide) rfl rfl (Nat.le_of_ble_eq_true rfl) ?_
        refine Ev.goto (pc := 205) (tgt := 214) dX9_of_205 (by decide) ?_
        obtain rfl := Option.some.inj h
        exact Ev.iret (pc := 214) dX9_of_214 rfl rfl
    have h := eF h cs17
    by_cases cs20 : x2 = 11
    · have h := eT h cs20
      refine Ev.tsIn (pc := 32) (tgt := 215) (off := 183) dX9_of_32 (by rw [cs20]; decide) (by rw [cs20]; decide) (by rw [cs20]; rfl) (by decide) ?_
      refine Ev.iload (pc := 215) dX9_of_215 rfl ?_
      refine Ev.iconst (pc := 217) dX9_of_217 (v := 1) (by decide) ?_
      refine eBk h (fun q18 hq18 h => ?_)
      refine Ev.callS (pc := 218) (as := [.int (M.1 13 x1.toNatClampNeg), .int 1]) (st := []) (z := 0) dX9_of_218 wc_X9_isUnder ml_RX9_149 sm_X9_isUnder (ev_X9_isUnder (M.1 13 x1.toNatClampNeg) 1 M _ hq18) rfl rfl (by decide) rfl rfl (Nat.le_of_ble_eq_true rfl) ?_
      refine Ev.if_eq (pc := 221) (tgt := 233) dX9_of_221 (by decide) (fun c9 => ?_) (fun c9 => ?_)
      · have h := eT h c9
        refine Ev.aload_n (pc := 233) dX9_of_233 rfl ?_
        refine Ev.ldc (pc := 234) dX9_of_234 ld_RX9_89 ?_
        refine eBk h (fun q19 hq19 h => ?_)
        refine Ev.callV (pc := 236) (as := [.int (-1000003)]) (st := []) (z := 1) dX9_of_236 wc_X9_found ml_RX9_42 im_X9_found se_X9_found lC_0 rfl rfl (ev_X9_found (-1000003) M _ hq19) rfl rfl (by decide) rfl rfl (Nat.le_of_ble_eq_true rfl) ?_
        obtain rfl := Option.some.inj h
        exact Ev.iret (pc := 239) dX9_of_239 rfl rfl
      · have h := eF h c9
        refine Ev.aload_n (pc := 224) dX9_of_224 rfl ?_
        refine Ev.getR (pc := 225) dX9_of_225 fl_RX9_183 lC_12 rfl ?_
        refine Ev.iload_n (pc := 228) dX9_of_228 rfl ?_
        obtain ⟨g9, h⟩ := eGdB h
        refine Ev.ialdj (pc := 229) dX9_of_229 (j := x1.toNatClampNeg) lC_17 g9 rfl ?_
        refine Ev.goto (pc := 230) (tgt := 239) dX9_of_230 (by decide) ?_
        obtain rfl := Option.some.inj h
        exact Ev.iret (pc := 239) dX9_of_239 rfl rfl
    have h := eF h cs20
    by_cases cs22 : x2 = 12
    · have h := eT h cs22
      refine Ev.tsIn (pc := 32) (tgt := 240) (off := 208) dX9_of_32 (by rw [cs22]; decide) (by rw [cs22]; decide) (by rw [cs22]; rfl) (by decide) ?_
      refine Ev.iload (pc := 240) dX9_of_240 rfl ?_
      refine Ev.iconst (pc := 242) dX9_of_242 (v := 4) (by decide) ?_
      refine Ev.icmp_ne (pc := 243) (tgt := 255) dX9_of_243 (by decide) (fun c9 => ?_) (fun c9 => ?_)
      · have h := eF h c9
        refine Ev.aload_n (pc := 255) dX9_of_255 rfl ?_
        refine Ev.ldc (pc := 256) dX9_of_256 ld_RX9_89 ?_
        refine eBk h (fun q21 hq21 h => ?_)
        refine Ev.callV (pc := 258) (as := [.int (-1000003)]) (st := []) (z := 1) dX9_of_258 wc_X9_found ml_RX9_42 im_X9_found se_X9_found lC_0 rfl rfl (ev_X9_found (-1000003) M _ hq21) rfl rfl (by decide) rfl rfl (Nat.le_of_ble_eq_true rfl) ?_
        obtain rfl := Option.some.inj h
        exact Ev.iret (pc := 261) dX9_of_261 rfl rfl
      · have h := eT h c9
        refine Ev.aload_n (pc := 246) dX9_of_246 rfl ?_
        refine Ev.getR (pc := 247) dX9_of_247 fl_RX9_186 lC_12 rfl ?_
        refine Ev.iload_n (pc := 250) dX9_of_250 rfl ?_
        obtain ⟨g9, h⟩ := eGdB h
        refine Ev.ialdj (pc := 251) dX9_of_251 (j := x1.toNatClampNeg) lC_16 g9 rfl ?_
        refine Ev.goto (pc := 252) (tgt := 261) dX9_of_252 (by decide) ?_
        obtain rfl := Option.some.inj h
        exact Ev.iret (pc := 261) dX9_of_261 rfl rfl
    have h := eF h cs22
    by_cases cs24 : x2 = 13
    · have h := eT h cs24
      refine Ev.tsIn (pc := 32) (tgt := 262) (off := 230) dX9_of_32 (by rw [cs24]; decide) (by rw [cs24]; decide) (by rw [cs24]; rfl) (by decide) ?_
      refine Ev.iload (pc := 262) dX9_of_262 rfl ?_
      refine Ev.iconst (pc := 264) dX9_of_264 (v := 4) (by decide) ?_
      refine Ev.icmp_ne (pc := 265) (tgt := 277) dX9_of_265 (by decide) (fun c9 => ?_) (fun c9 => ?_)
      · have h := eF h c9
        refine Ev.aload_n (pc := 277) dX9_of_277 rfl ?_
        refine Ev.ldc (pc := 278) dX9_of_278 ld_RX9_89 ?_
        refine eBk h (fun q23 hq23 h => ?_)
        refine Ev.callV (pc := 280) (as := [.int (-1000003)]) (st := []) (z := 1) dX9_of_280 wc_X9_found ml_RX9_42 im_X9_found se_X9_found lC_0 rfl rfl (ev_X9_found (-1000003) M _ hq23) rfl rfl (by decide) rfl rfl (Nat.le_of_ble_eq_true rfl) ?_
        obtain rfl := Option.some.inj h
        exact Ev.iret (pc := 283) dX9_of_283 rfl rfl
      · have h := eT h c9
        refine Ev.aload_n (pc := 268) dX9_of_268 rfl ?_
        refine Ev.getR (pc := 269) dX9_of_269 fl_RX9_183 lC_12 rfl ?_
        refine Ev.iload_n (pc := 272) dX9_of_272 rfl ?_
        obtain ⟨g9, h⟩ := eGdB h
        refine Ev.ialdj (pc := 273) dX9_of_273 (j := x1.toNatClampNeg) lC_17 g9 rfl ?_
        refine Ev.goto (pc := 274) (tgt := 283) dX9_of_274 (by decide) ?_
        obtain rfl := Option.some.inj h
        exact Ev.iret (pc := 283) dX9_of_283 rfl rfl
    have h := eF h cs24
    refine Ev.tsOut (pc := 32) (tgt := 284) dX9_of_32 (eTsO 14 (by decide) (by decide) (by decide) (by
      intro k hk
      rcases (show k = 0 ∨ k = 1 ∨ k = 2 ∨ k = 3 ∨ k = 4 ∨ k = 5 ∨ k = 6 ∨ k = 7 ∨ k = 8 ∨ k = 9 ∨ k = 10 ∨ k = 11 ∨ k = 12 ∨ k = 13 by omega) with rfl | rfl | rfl | rfl | rfl | rfl | rfl | rfl | rfl | rfl | rfl | rfl | rfl | rfl
      · exact cs2
      · exact cs3
      · exact cs4
      · exact cs5
      · exact cs6
      · exact cs7
      · exact cs9
      · exact cs11
      · exact cs12
      · exact cs14
      · exact cs17
      · exact cs20
      · exact cs22
      · exact cs24
      )) (by decide) ?_
    refine Ev.aload_n (pc := 284) dX9_of_284 rfl ?_
    refine Ev.ldc (pc := 285) dX9_of_285 ld_RX9_41 ?_
    refine eBk h (fun q25 hq25 h => ?_)
    refine Ev.callV (pc := 287) (as := [.int (-1000001)]) (st := []) (z := 1) dX9_of_287 wc_X9_found ml_RX9_42 im_X9_found se_X9_found lC_0 rfl rfl (ev_X9_found (-1000001) M _ hq25) rfl rfl (by decide) rfl rfl (Nat.le_of_ble_eq_true rfl) ?_
    obtain rfl := Option.some.inj h
    exact Ev.iret (pc := 290) dX9_of_290 rfl rfl
  · have h := eT h c9
    refine Ev.aload_n (pc := 16) dX9_of_16 rfl ?_
    refine Ev.ldc (pc := 17) dX9_of_17 ld_RX9_41 ?_
    refine eBk h (fun q26 hq26 h => ?_)
    refine Ev.callV (pc := 19) (as := [.int (-1000001)]) (st := []) (z := 1) dX9_of_19 wc_X9_found ml_RX9_42 im_X9_found se_X9_found lC_0 rfl rfl (ev_X9_found (-1000001) M _ hq26) rfl rfl (by decide) rfl rfl (Nat.le_of_ble_eq_true rfl) ?_
    obtain rfl := Option.some.inj h
    exact Ev.iret (pc := 22) dX9_of_22 rfl rfl
theorem dX10_priceOf_0 : decode cX10_priceOf 0 = .ok (.aload_n 0, 1) := by decide +kernel
theorem dX10_priceOf_1 : decode cX10_priceOf 1 = .ok (.iload_n 1, 1) := by decide +kernel
theorem dX10_priceOf_2 : decode cX10_priceOf 2 = .ok (.iconst 0, 1) := by decide +kernel
theorem dX10_priceOf_3 : decode cX10_priceOf 3 = .ok (.invokevirtual 77, 3) := by decide +kernel
theorem dX10_priceOf_6 : decode cX10_priceOf 6 = .ok (.tableswitch 56 0 4 #[34, 36, 38, 40, 34], 34) := by decide +kernel
theorem dX10_priceOf_40 : decode cX10_priceOf 40 = .ok (.iconst 1, 1) := by decide +kernel
theorem dX10_priceOf_41 : decode cX10_priceOf 41 = .ok (.ireturn, 1) := by decide +kernel
theorem dX10_priceOf_42 : decode cX10_priceOf 42 = .ok (.iconst 2, 1) := by decide +kernel
theorem dX10_priceOf_43 : decode cX10_priceOf 43 = .ok (.ireturn, 1) := by decide +kernel
theorem dX10_priceOf_44 : decode cX10_priceOf 44 = .ok (.iconst 5, 1) := by decide +kernel
theorem dX10_priceOf_45 : decode cX10_priceOf 45 = .ok (.ireturn, 1) := by decide +kernel
theorem dX10_priceOf_46 : decode cX10_priceOf 46 = .ok (.aload_n 0, 1) := by decide +kernel
theorem dX10_priceOf_47 : decode cX10_priceOf 47 = .ok (.iload_n 1, 1) := by decide +kernel
theorem dX10_priceOf_48 : decode cX10_priceOf 48 = .ok (.iconst 4, 1) := by decide +kernel
theorem dX10_priceOf_49 : decode cX10_priceOf 49 = .ok (.invokevirtual 77, 3) := by decide +kernel
theorem dX10_priceOf_52 : decode cX10_priceOf 52 = .ok (.aload_n 0, 1) := by decide +kernel
theorem dX10_priceOf_53 : decode cX10_priceOf 53 = .ok (.iload_n 1, 1) := by decide +kernel
theorem dX10_priceOf_54 : decode cX10_priceOf 54 = .ok (.iconst 3, 1) := by decide +kernel
theorem dX10_priceOf_55 : decode cX10_priceOf 55 = .ok (.invokevirtual 77, 3) := by decide +kernel
theorem dX10_priceOf_58 : decode cX10_priceOf 58 = .ok (.isub, 1) := by decide +kernel
theorem dX10_priceOf_59 : decode cX10_priceOf 59 = .ok (.iconst 1, 1) := by decide +kernel
theorem dX10_priceOf_60 : decode cX10_priceOf 60 = .ok (.iadd, 1) := by decide +kernel
theorem dX10_priceOf_61 : decode cX10_priceOf 61 = .ok (.ireturn, 1) := by decide +kernel
theorem dX10_priceOf_62 : decode cX10_priceOf 62 = .ok (.iconst 0, 1) := by decide +kernel
theorem dX10_priceOf_63 : decode cX10_priceOf 63 = .ok (.ireturn, 1) := by decide +kernel
def F_X10_priceOf (x1 : Int32) (M : eMem) : Option Int32 :=
  (F_X10_show x1 0 M).bind fun q1 =>
  if q1 = 0 then
    some 1
  else
  if q1 = 1 then
    some 2
  else
  if q1 = 2 then
    some 5
  else
  if q1 = 3 then
    (F_X10_show x1 4 M).bind fun q5 =>
    (F_X10_show x1 3 M).bind fun q6 =>
    some ((q5 - q6) + 1)
  else
  if q1 = 4 then
    some 1
  else
  some 0
set_option maxRecDepth 100000 in
set_option maxHeartbeats 4000000 in
theorem ev_X10_priceOf (x1 : Int32) (M : eMem) (q : Int32) (h : F_X10_priceOf x1 M = some q) : Ev layR 1 m_X10_priceOf 0 [some (.ref 0), some (.int x1)] [] M (some (.int q), M) := by
  rw [F_X10_priceOf] at h
  refine Ev.aload_n (pc := 0) dX10_priceOf_0 rfl ?_
  refine Ev.iload_n (pc := 1) dX10_priceOf_1 rfl ?_
  refine Ev.iconst (pc := 2) dX10_priceOf_2 (v := 0) (by decide) ?_
  refine eBk h (fun q1 hq1 h => ?_)
  refine Ev.callV (pc := 3) (as := [.int x1, .int 0]) (st := []) (z := 0) dX10_priceOf_3 wc_X10_show ml_RX10_77 im_X10_show se_X10_show lR_0 rfl rfl (ev_X10_show x1 0 M _ hq1) rfl rfl (by decide) rfl rfl (Nat.le_of_ble_eq_true rfl) ?_
  by_cases cs2 : q1 = 0
  · have h := eT h cs2
    refine Ev.tsIn (pc := 6) (tgt := 40) (off := 34) dX10_priceOf_6 (by rw [cs2]; decide) (by rw [cs2]; decide) (by rw [cs2]; rfl) (by decide) ?_
    refine Ev.iconst (pc := 40) dX10_priceOf_40 (v := 1) (by decide) ?_
    obtain rfl := Option.some.inj h
    exact Ev.iret (pc := 41) dX10_priceOf_41 rfl rfl
  have h := eF h cs2
  by_cases cs3 : q1 = 1
  · have h := eT h cs3
    refine Ev.tsIn (pc := 6) (tgt := 42) (off := 36) dX10_priceOf_6 (by rw [cs3]; decide) (by rw [cs3]; decide) (by rw [cs3]; rfl) (by decide) ?_
    refine Ev.iconst (pc := 42) dX10_priceOf_42 (v := 2) (by decide) ?_
    obtain rfl := Option.some.inj h
    exact Ev.iret (pc := 43) dX10_priceOf_43 rfl rfl
  have h := eF h cs3
  by_cases cs4 : q1 = 2
  · have h := eT h cs4
    refine Ev.tsIn (pc := 6) (tgt := 44) (off := 38) dX10_priceOf_6 (by rw [cs4]; decide) (by rw [cs4]; decide) (by rw [cs4]; rfl) (by decide) ?_
    refine Ev.iconst (pc := 44) dX10_priceOf_44 (v := 5) (by decide) ?_
    obtain rfl := Option.some.inj h
    exact Ev.iret (pc := 45) dX10_priceOf_45 rfl rfl
  have h := eF h cs4
  by_cases cs7 : q1 = 3
  · have h := eT h cs7
    refine Ev.tsIn (pc := 6) (tgt := 46) (off := 40) dX10_priceOf_6 (by rw [cs7]; decide) (by rw [cs7]; decide) (by rw [cs7]; rfl) (by decide) ?_
    refine Ev.aload_n (pc := 46) dX10_priceOf_46 rfl ?_
    refine Ev.iload_n (pc := 47) dX10_priceOf_47 rfl ?_
    refine Ev.iconst (pc := 48) dX10_priceOf_48 (v := 4) (by decide) ?_
    refine eBk h (fun q5 hq5 h => ?_)
    refine Ev.callV (pc := 49) (as := [.int x1, .int 4]) (st := []) (z := 0) dX10_priceOf_49 wc_X10_show ml_RX10_77 im_X10_show se_X10_show lR_0 rfl rfl (ev_X10_show x1 4 M _ hq5) rfl rfl (by decide) rfl rfl (Nat.le_of_ble_eq_true rfl) ?_
    refine Ev.aload_n (pc := 52) dX10_priceOf_52 rfl ?_
    refine Ev.iload_n (pc := 53) dX10_priceOf_53 rfl ?_
    refine Ev.iconst (pc := 54) dX10_priceOf_54 (v := 3) (by decide) ?_
    refine eBk h (fun q6 hq6 h => ?_)
    refine Ev.callV (pc := 55) (as := [.int x1, .int 3]) (st := [.int q5]) (z := 0) dX10_priceOf_55 wc_X10_show ml_RX10_77 im_X10_show se_X10_show lR_0 rfl rfl (ev_X10_show x1 3 M _ hq6) rfl rfl (by decide) rfl rfl (Nat.le_of_ble_eq_true rfl) ?_
    refine Ev.isub (pc := 58) dX10_priceOf_58 ?_
    refine Ev.iconst (pc := 59) dX10_priceOf_59 (v := 1) (by decide) ?_
    refine Ev.iadd (pc := 60) dX10_priceOf_60 ?_
    obtain rfl := Option.some.inj h
    exact Ev.iret (pc := 61) dX10_priceOf_61 rfl rfl
  have h := eF h cs7
  by_cases cs8 : q1 = 4
  · have h := eT h cs8
    refine Ev.tsIn (pc := 6) (tgt := 40) (off := 34) dX10_priceOf_6 (by rw [cs8]; decide) (by rw [cs8]; decide) (by rw [cs8]; rfl) (by decide) ?_
    refine Ev.iconst (pc := 40) dX10_priceOf_40 (v := 1) (by decide) ?_
    obtain rfl := Option.some.inj h
    exact Ev.iret (pc := 41) dX10_priceOf_41 rfl rfl
  have h := eF h cs8
  refine Ev.tsOut (pc := 6) (tgt := 62) dX10_priceOf_6 (eTsO 5 (by decide) (by decide) (by decide) (by
    intro k hk
    rcases (show k = 0 ∨ k = 1 ∨ k = 2 ∨ k = 3 ∨ k = 4 by omega) with rfl | rfl | rfl | rfl | rfl
    · exact cs2
    · exact cs3
    · exact cs4
    · exact cs7
    · exact cs8
    )) (by decide) ?_
  refine Ev.iconst (pc := 62) dX10_priceOf_62 (v := 0) (by decide) ?_
  obtain rfl := Option.some.inj h
  exact Ev.iret (pc := 63) dX10_priceOf_63 rfl rfl
theorem dX10_topOf_0 : decode cX10_topOf 0 = .ok (.aload_n 0, 1) := by decide +kernel
theorem dX10_topOf_1 : decode cX10_topOf 1 = .ok (.iload_n 1, 1) := by decide +kernel
theorem dX10_topOf_2 : decode cX10_topOf 2 = .ok (.iconst 0, 1) := by decide +kernel
theorem dX10_topOf_3 : decode cX10_topOf 3 = .ok (.invokevirtual 77, 3) := by decide +kernel
theorem dX10_topOf_6 : decode cX10_topOf 6 = .ok (.ifCond .ne 7, 3) := by decide +kernel
theorem dX10_topOf_9 : decode cX10_topOf 9 = .ok (.iconst 0, 1) := by decide +kernel
theorem dX10_topOf_10 : decode cX10_topOf 10 = .ok (.goto 9, 3) := by decide +kernel
theorem dX10_topOf_13 : decode cX10_topOf 13 = .ok (.aload_n 0, 1) := by decide +kernel
theorem dX10_topOf_14 : decode cX10_topOf 14 = .ok (.iload_n 1, 1) := by decide +kernel
theorem dX10_topOf_15 : decode cX10_topOf 15 = .ok (.iconst 3, 1) := by decide +kernel
theorem dX10_topOf_16 : decode cX10_topOf 16 = .ok (.invokevirtual 77, 3) := by decide +kernel
theorem dX10_topOf_19 : decode cX10_topOf 19 = .ok (.ireturn, 1) := by decide +kernel
def F_X10_topOf (x1 : Int32) (M : eMem) : Option Int32 :=
  (F_X10_show x1 0 M).bind fun q1 =>
  if q1 = 0 then
    some 0
  else
    (F_X10_show x1 3 M).bind fun q2 =>
    some q2
set_option maxRecDepth 100000 in
set_option maxHeartbeats 4000000 in
theorem ev_X10_topOf (x1 : Int32) (M : eMem) (q : Int32) (h : F_X10_topOf x1 M = some q) : Ev layR 1 m_X10_topOf 0 [some (.ref 0), some (.int x1)] [] M (some (.int q), M) := by
  rw [F_X10_topOf] at h
  refine Ev.aload_n (pc := 0) dX10_topOf_0 rfl ?_
  refine Ev.iload_n (pc := 1) dX10_topOf_1 rfl ?_
  refine Ev.iconst (pc := 2) dX10_topOf_2 (v := 0) (by decide) ?_
  refine eBk h (fun q1 hq1 h => ?_)
  refine Ev.callV (pc := 3) (as := [.int x1, .int 0]) (st := []) (z := 0) dX10_topOf_3 wc_X10_show ml_RX10_77 im_X10_show se_X10_show lR_0 rfl rfl (ev_X10_show x1 0 M _ hq1) rfl rfl (by decide) rfl rfl (Nat.le_of_ble_eq_true rfl) ?_
  refine Ev.if_ne (pc := 6) (tgt := 13) dX10_topOf_6 (by decide) (fun c9 => ?_) (fun c9 => ?_)
  · have h := eF h c9
    refine Ev.aload_n (pc := 13) dX10_topOf_13 rfl ?_
    refine Ev.iload_n (pc := 14) dX10_topOf_14 rfl ?_
    refine Ev.iconst (pc := 15) dX10_topOf_15 (v := 3) (by decide) ?_
    refine eBk h (fun q2 hq2 h => ?_)
    refine Ev.callV (pc := 16) (as := [.int x1, .int 3]) (st := []) (z := 0) dX10_topOf_16 wc_X10_show ml_RX10_77 im_X10_show se_X10_show lR_0 rfl rfl (ev_X10_show x1 3 M _ hq2) rfl rfl (by decide) rfl rfl (Nat.le_of_ble_eq_true rfl) ?_
    obtain rfl := Option.some.inj h
    exact Ev.iret (pc := 19) dX10_topOf_19 rfl rfl
  · have h := eT h c9
    refine Ev.iconst (pc := 9) dX10_topOf_9 (v := 0) (by decide) ?_
    refine Ev.goto (pc := 10) (tgt := 19) dX10_topOf_10 (by decide) ?_
    obtain rfl := Option.some.inj h
    exact Ev.iret (pc := 19) dX10_topOf_19 rfl rfl
theorem dX10_of_0 : decode cX10_of 0 = .ok (.aload_n 0, 1) := by decide +kernel
theorem dX10_of_1 : decode cX10_of 1 = .ok (.iload_n 1, 1) := by decide +kernel
theorem dX10_of_2 : decode cX10_of 2 = .ok (.invokevirtual 109, 3) := by decide +kernel
theorem dX10_of_5 : decode cX10_of 5 = .ok (.ifCond .eq 13, 3) := by decide +kernel
theorem dX10_of_8 : decode cX10_of 8 = .ok (.iload_n 2, 1) := by decide +kernel
theorem dX10_of_9 : decode cX10_of 9 = .ok (.iconst 0, 1) := by decide +kernel
theorem dX10_of_10 : decode cX10_of 10 = .ok (.bipush 13, 2) := by decide +kernel
theorem dX10_of_12 : decode cX10_of 12 = .ok (.invokestatic 58, 3) := by decide +kernel
theorem dX10_of_15 : decode cX10_of 15 = .ok (.ifCond .ne 9, 3) := by decide +kernel
theorem dX10_of_18 : decode cX10_of 18 = .ok (.aload_n 0, 1) := by decide +kernel
theorem dX10_of_19 : decode cX10_of 19 = .ok (.iconst 1, 1) := by decide +kernel
theorem dX10_of_20 : decode cX10_of 20 = .ok (.invokevirtual 66, 3) := by decide +kernel
theorem dX10_of_23 : decode cX10_of 23 = .ok (.ireturn, 1) := by decide +kernel
theorem dX10_of_24 : decode cX10_of 24 = .ok (.aload_n 0, 1) := by decide +kernel
theorem dX10_of_25 : decode cX10_of 25 = .ok (.iload_n 1, 1) := by decide +kernel
theorem dX10_of_26 : decode cX10_of 26 = .ok (.iconst 0, 1) := by decide +kernel
theorem dX10_of_27 : decode cX10_of 27 = .ok (.invokevirtual 77, 3) := by decide +kernel
theorem dX10_of_30 : decode cX10_of 30 = .ok (.istore_n 3, 1) := by decide +kernel
theorem dX10_of_31 : decode cX10_of 31 = .ok (.iload_n 2, 1) := by decide +kernel
theorem dX10_of_32 : decode cX10_of 32 = .ok (.bipush 10, 2) := by decide +kernel
theorem dX10_of_34 : decode cX10_of 34 = .ok (.if_icmp .lt 40, 3) := by decide +kernel
theorem dX10_of_37 : decode cX10_of 37 = .ok (.iload_n 2, 1) := by decide +kernel
theorem dX10_of_38 : decode cX10_of 38 = .ok (.bipush 10, 2) := by decide +kernel
theorem dX10_of_40 : decode cX10_of 40 = .ok (.if_icmp .ne 8, 3) := by decide +kernel
theorem dX10_of_43 : decode cX10_of 43 = .ok (.iload_n 3, 1) := by decide +kernel
theorem dX10_of_44 : decode cX10_of 44 = .ok (.iconst 2, 1) := by decide +kernel
theorem dX10_of_45 : decode cX10_of 45 = .ok (.if_icmp .le 29, 3) := by decide +kernel
theorem dX10_of_48 : decode cX10_of 48 = .ok (.iload_n 2, 1) := by decide +kernel
theorem dX10_of_49 : decode cX10_of 49 = .ok (.bipush 11, 2) := by decide +kernel
theorem dX10_of_51 : decode cX10_of 51 = .ok (.if_icmp .ne 12, 3) := by decide +kernel
theorem dX10_of_54 : decode cX10_of 54 = .ok (.iload_n 3, 1) := by decide +kernel
theorem dX10_of_55 : decode cX10_of 55 = .ok (.iconst 1, 1) := by decide +kernel
theorem dX10_of_56 : decode cX10_of 56 = .ok (.iconst 2, 1) := by decide +kernel
theorem dX10_of_57 : decode cX10_of 57 = .ok (.invokestatic 58, 3) := by decide +kernel
theorem dX10_of_60 : decode cX10_of 60 = .ok (.ifCond .ne 14, 3) := by decide +kernel
theorem dX10_of_63 : decode cX10_of 63 = .ok (.iload_n 2, 1) := by decide +kernel
theorem dX10_of_64 : decode cX10_of 64 = .ok (.bipush 11, 2) := by decide +kernel
theorem dX10_of_66 : decode cX10_of 66 = .ok (.if_icmp .le 12, 3) := by decide +kernel
theorem dX10_of_69 : decode cX10_of 69 = .ok (.iload_n 3, 1) := by decide +kernel
theorem dX10_of_70 : decode cX10_of 70 = .ok (.iconst 4, 1) := by decide +kernel
theorem dX10_of_71 : decode cX10_of 71 = .ok (.if_icmp .ne 7, 3) := by decide +kernel
theorem dX10_of_74 : decode cX10_of 74 = .ok (.iconst 1, 1) := by decide +kernel
theorem dX10_of_75 : decode cX10_of 75 = .ok (.goto 4, 3) := by decide +kernel
theorem dX10_of_78 : decode cX10_of 78 = .ok (.iconst 0, 1) := by decide +kernel
theorem dX10_of_79 : decode cX10_of 79 = .ok (.istore 4, 2) := by decide +kernel
theorem dX10_of_81 : decode cX10_of 81 = .ok (.iload 4, 2) := by decide +kernel
theorem dX10_of_83 : decode cX10_of 83 = .ok (.ifCond .ne 9, 3) := by decide +kernel
theorem dX10_of_86 : decode cX10_of 86 = .ok (.aload_n 0, 1) := by decide +kernel
theorem dX10_of_87 : decode cX10_of 87 = .ok (.iconst 3, 1) := by decide +kernel
theorem dX10_of_88 : decode cX10_of 88 = .ok (.invokevirtual 66, 3) := by decide +kernel
theorem dX10_of_91 : decode cX10_of 91 = .ok (.ireturn, 1) := by decide +kernel
theorem dX10_of_92 : decode cX10_of 92 = .ok (.iload_n 2, 1) := by decide +kernel
theorem dX10_of_93 : decode cX10_of 93 = .ok (.tableswitch 153 0 12 #[67, 69, 76, 83, 90, 98, 106, 112, 118, 126, 140, 153, 146], 67) := by decide +kernel
theorem dX10_of_160 : decode cX10_of 160 = .ok (.iload_n 3, 1) := by decide +kernel
theorem dX10_of_161 : decode cX10_of 161 = .ok (.ireturn, 1) := by decide +kernel
theorem dX10_of_162 : decode cX10_of 162 = .ok (.aload_n 0, 1) := by decide +kernel
theorem dX10_of_163 : decode cX10_of 163 = .ok (.iload_n 1, 1) := by decide +kernel
theorem dX10_of_164 : decode cX10_of 164 = .ok (.iconst 1, 1) := by decide +kernel
theorem dX10_of_165 : decode cX10_of 165 = .ok (.invokevirtual 77, 3) := by decide +kernel
theorem dX10_of_168 : decode cX10_of 168 = .ok (.ireturn, 1) := by decide +kernel
theorem dX10_of_169 : decode cX10_of 169 = .ok (.aload_n 0, 1) := by decide +kernel
theorem dX10_of_170 : decode cX10_of 170 = .ok (.iload_n 1, 1) := by decide +kernel
theorem dX10_of_171 : decode cX10_of 171 = .ok (.iconst 2, 1) := by decide +kernel
theorem dX10_of_172 : decode cX10_of 172 = .ok (.invokevirtual 77, 3) := by decide +kernel
theorem dX10_of_175 : decode cX10_of 175 = .ok (.ireturn, 1) := by decide +kernel
theorem dX10_of_176 : decode cX10_of 176 = .ok (.aload_n 0, 1) := by decide +kernel
theorem dX10_of_177 : decode cX10_of 177 = .ok (.iload_n 1, 1) := by decide +kernel
theorem dX10_of_178 : decode cX10_of 178 = .ok (.iconst 5, 1) := by decide +kernel
theorem dX10_of_179 : decode cX10_of 179 = .ok (.invokevirtual 77, 3) := by decide +kernel
theorem dX10_of_182 : decode cX10_of 182 = .ok (.ireturn, 1) := by decide +kernel
theorem dX10_of_183 : decode cX10_of 183 = .ok (.aload_n 0, 1) := by decide +kernel
theorem dX10_of_184 : decode cX10_of 184 = .ok (.iload_n 1, 1) := by decide +kernel
theorem dX10_of_185 : decode cX10_of 185 = .ok (.bipush 7, 2) := by decide +kernel
theorem dX10_of_187 : decode cX10_of 187 = .ok (.invokevirtual 77, 3) := by decide +kernel
theorem dX10_of_190 : decode cX10_of 190 = .ok (.ireturn, 1) := by decide +kernel
theorem dX10_of_191 : decode cX10_of 191 = .ok (.aload_n 0, 1) := by decide +kernel
theorem dX10_of_192 : decode cX10_of 192 = .ok (.iload_n 1, 1) := by decide +kernel
theorem dX10_of_193 : decode cX10_of 193 = .ok (.bipush 8, 2) := by decide +kernel
theorem dX10_of_195 : decode cX10_of 195 = .ok (.invokevirtual 77, 3) := by decide +kernel
theorem dX10_of_198 : decode cX10_of 198 = .ok (.ireturn, 1) := by decide +kernel
theorem dX10_of_199 : decode cX10_of 199 = .ok (.aload_n 0, 1) := by decide +kernel
theorem dX10_of_200 : decode cX10_of 200 = .ok (.iload_n 1, 1) := by decide +kernel
theorem dX10_of_201 : decode cX10_of 201 = .ok (.invokevirtual 115, 3) := by decide +kernel
theorem dX10_of_204 : decode cX10_of 204 = .ok (.ireturn, 1) := by decide +kernel
theorem dX10_of_205 : decode cX10_of 205 = .ok (.aload_n 0, 1) := by decide +kernel
theorem dX10_of_206 : decode cX10_of 206 = .ok (.iload_n 1, 1) := by decide +kernel
theorem dX10_of_207 : decode cX10_of 207 = .ok (.invokevirtual 121, 3) := by decide +kernel
theorem dX10_of_210 : decode cX10_of 210 = .ok (.ireturn, 1) := by decide +kernel
theorem dX10_of_211 : decode cX10_of 211 = .ok (.aload_n 0, 1) := by decide +kernel
theorem dX10_of_212 : decode cX10_of 212 = .ok (.iload_n 1, 1) := by decide +kernel
theorem dX10_of_213 : decode cX10_of 213 = .ok (.bipush 9, 2) := by decide +kernel
theorem dX10_of_215 : decode cX10_of 215 = .ok (.invokevirtual 77, 3) := by decide +kernel
theorem dX10_of_218 : decode cX10_of 218 = .ok (.ireturn, 1) := by decide +kernel
theorem dX10_of_219 : decode cX10_of 219 = .ok (.aload_n 0, 1) := by decide +kernel
theorem dX10_of_220 : decode cX10_of 220 = .ok (.iload_n 1, 1) := by decide +kernel
theorem dX10_of_221 : decode cX10_of 221 = .ok (.invokevirtual 80, 3) := by decide +kernel
theorem dX10_of_224 : decode cX10_of 224 = .ok (.ifCond .eq 7, 3) := by decide +kernel
theorem dX10_of_227 : decode cX10_of 227 = .ok (.iconst 1, 1) := by decide +kernel
theorem dX10_of_228 : decode cX10_of 228 = .ok (.goto 4, 3) := by decide +kernel
theorem dX10_of_231 : decode cX10_of 231 = .ok (.iconst 0, 1) := by decide +kernel
theorem dX10_of_232 : decode cX10_of 232 = .ok (.ireturn, 1) := by decide +kernel
theorem dX10_of_233 : decode cX10_of 233 = .ok (.aload_n 0, 1) := by decide +kernel
theorem dX10_of_234 : decode cX10_of 234 = .ok (.iload_n 1, 1) := by decide +kernel
theorem dX10_of_235 : decode cX10_of 235 = .ok (.invokevirtual 124, 3) := by decide +kernel
theorem dX10_of_238 : decode cX10_of 238 = .ok (.ireturn, 1) := by decide +kernel
theorem dX10_of_239 : decode cX10_of 239 = .ok (.aload_n 0, 1) := by decide +kernel
theorem dX10_of_240 : decode cX10_of 240 = .ok (.iload_n 1, 1) := by decide +kernel
theorem dX10_of_241 : decode cX10_of 241 = .ok (.iconst 3, 1) := by decide +kernel
theorem dX10_of_242 : decode cX10_of 242 = .ok (.invokevirtual 77, 3) := by decide +kernel
theorem dX10_of_245 : decode cX10_of 245 = .ok (.ireturn, 1) := by decide +kernel
theorem dX10_of_246 : decode cX10_of 246 = .ok (.aload_n 0, 1) := by decide +kernel
theorem dX10_of_247 : decode cX10_of 247 = .ok (.iload_n 1, 1) := by decide +kernel
theorem dX10_of_248 : decode cX10_of 248 = .ok (.iconst 4, 1) := by decide +kernel
theorem dX10_of_249 : decode cX10_of 249 = .ok (.invokevirtual 77, 3) := by decide +kernel
theorem dX10_of_252 : decode cX10_of 252 = .ok (.ireturn, 1) := by decide +kernel
def F_X10_of_79  (v1 : Int32) (v2 : Int32) (v3 : Int32) (s0 : Int32) (M : eMem) : Option (Int32 × eMem) :=
  if s0 = 0 then
    (F_X10_finding 3 M).bind fun q31 =>
    some (q31.1, q31.2)
  else
    if v2 = 0 then
      some (v3, M)
    else
    if v2 = 1 then
      (F_X10_show v1 1 M).bind fun q6 =>
      some (q6, M)
    else
    if v2 = 2 then
      (F_X10_show v1 2 M).bind fun q8 =>
      some (q8, M)
    else
    if v2 = 3 then
      (F_X10_show v1 5 M).bind fun q10 =>
      some (q10, M)
    else
    if v2 = 4 then
      (F_X10_show v1 7 M).bind fun q12 =>
      some (q12, M)
    else
    if v2 = 5 then
      (F_X10_show v1 8 M).bind fun q14 =>
      some (q14, M)
    else
    if v2 = 6 then
      (F_X10_needOf v1 M).bind fun q16 =>
      some (q16, M)
    else
    if v2 = 7 then
      (F_X10_priceOf v1 M).bind fun q18 =>
      some (q18, M)
    else
    if v2 = 8 then
      (F_X10_show v1 9 M).bind fun q20 =>
      some (q20, M)
    else
    if v2 = 9 then
      (F_X10_isShown v1 M).bind fun q22 =>
      if q22 = 0 then
        some (0, M)
      else
        some (1, M)
    else
    if v2 = 10 then
      (F_X10_topOf v1 M).bind fun q24 =>
      some (q24, M)
    else
    if v2 = 11 then
      (F_X10_show v1 4 M).bind fun q26 =>
      some (q26, M)
    else
    if v2 = 12 then
      (F_X10_show v1 3 M).bind fun q28 =>
      some (q28, M)
    else
    (F_X10_show v1 4 M).bind fun q30 =>
    some (q30, M)
set_option maxRecDepth 100000 in
set_option maxHeartbeats 4000000 in
theorem ev_X10_of_79  (q : (Int32 × eMem))  (v1 : Int32) (v2 : Int32) (v3 : Int32) (s0 : Int32) (M : eMem) (h : F_X10_of_79 v1 v2 v3 s0 M = some q) : Ev layR 7 m_X10_of 79 [some (.ref 0), some (.int v1), some (.int v2), some (.int v3), none] [.int s0] M (some (.int q.1), q.2) := by
  rw [F_X10_of_79] at h
  refine Ev.istore (pc := 79) dX10_of_79 (by decide) rfl rfl ?_
  refine Ev.iload (pc := 81) dX10_of_81 rfl ?_
  refine Ev.if_ne (pc := 83) (tgt := 92) dX10_of_83 (by decide) (fun c9 => ?_) (fun c9 => ?_)
  · have h := eF h c9
    refine Ev.iload_n (pc := 92) dX10_of_92 rfl ?_
    by_cases cs5 : v2 = 0
    · have h := eT h cs5
      refine Ev.tsIn (pc := 93) (tgt := 160) (off := 67) dX10_of_93 (by rw [cs5]; decide) (by rw [cs5]; decide) (by rw [cs5]; rfl) (by decide) ?_
      refine Ev.iload_n (pc := 160) dX10_of_160 rfl ?_
      obtain rfl := Option.some.inj h
      exact Ev.iret (pc := 161) dX10_of_161 rfl rfl
    have h := eF h cs5
    by_cases cs7 : v2 = 1
    · have h := eT h cs7
      refine Ev.tsIn (pc := 93) (tgt := 162) (off := 69) dX10_of_93 (by rw [cs7]; decide) (by rw [cs7]; decide) (by rw [cs7]; rfl) (by decide) ?_
      refine Ev.aload_n (pc := 162) dX10_of_162 rfl ?_
      refine Ev.iload_n (pc := 163) dX10_of_163 rfl ?_
      refine Ev.iconst (pc := 164) dX10_of_164 (v := 1) (by decide) ?_
      refine eBk h (fun q6 hq6 h => ?_)
      refine Ev.callV (pc := 165) (as := [.int v1, .int 1]) (st := []) (z := 0) dX10_of_165 wc_X10_show ml_RX10_77 im_X10_show se_X10_show lR_0 rfl rfl (ev_X10_show v1 1 M _ hq6) rfl rfl (by decide) rfl rfl (Nat.le_of_ble_eq_true rfl) ?_
      obtain rfl := Option.some.inj h
      exact Ev.iret (pc := 168) dX10_of_168 rfl rfl
    have h := eF h cs7
    by_cases cs9 : v2 = 2
    · have h := eT h cs9
      refine Ev.tsIn (pc := 93) (tgt := 169) (off := 76) dX10_of_93 (by rw [cs9]; decide) (by rw [cs9]; decide) (by rw [cs9]; rfl) (by decide) ?_
      refine Ev.aload_n (pc := 169) dX10_of_169 rfl ?_
      refine Ev.iload_n (pc := 170) dX10_of_170 rfl ?_
      refine Ev.iconst (pc := 171) dX10_of_171 (v := 2) (by decide) ?_
      refine eBk h (fun q8 hq8 h => ?_)
      refine Ev.callV (pc := 172) (as := [.int v1, .int 2]) (st := []) (z := 0) dX10_of_172 wc_X10_show ml_RX10_77 im_X10_show se_X10_show lR_0 rfl rfl (ev_X10_show v1 2 M _ hq8) rfl rfl (by decide) rfl rfl (Nat.le_of_ble_eq_true rfl) ?_
      obtain rfl := Option.some.inj h
      exact Ev.iret (pc := 175) dX10_of_175 rfl rfl
    have h := eF h cs9
    by_cases cs11 : v2 = 3
    · have h := eT h cs11
      refine Ev.tsIn (pc := 93) (tgt := 176) (off := 83) dX10_of_93 (by rw [cs11]; decide) (by rw [cs11]; decide) (by rw [cs11]; rfl) (by decide) ?_
      refine Ev.aload_n (pc := 176) dX10_of_176 rfl ?_
      refine Ev.iload_n (pc := 177) dX10_of_177 rfl ?_
      refine Ev.iconst (pc := 178) dX10_of_178 (v := 5) (by decide) ?_
      refine eBk h (fun q10 hq10 h => ?_)
      refine Ev.callV (pc := 179) (as := [.int v1, .int 5]) (st := []) (z := 0) dX10_of_179 wc_X10_show ml_RX10_77 im_X10_show se_X10_show lR_0 rfl rfl (ev_X10_show v1 5 M _ hq10) rfl rfl (by decide) rfl rfl (Nat.le_of_ble_eq_true rfl) ?_
      obtain rfl := Option.some.inj h
      exact Ev.iret (pc := 182) dX10_of_182 rfl rfl
    have h := eF h cs11
    by_cases cs13 : v2 = 4
    · have h := eT h cs13
      refine Ev.tsIn (pc := 93) (tgt := 183) (off := 90) dX10_of_93 (by rw [cs13]; decide) (by rw [cs13]; decide) (by rw [cs13]; rfl) (by decide) ?_
      refine Ev.aload_n (pc := 183) dX10_of_183 rfl ?_
      refine Ev.iload_n (pc := 184) dX10_of_184 rfl ?_
      refine Ev.bipush (pc := 185) dX10_of_185 (v := 7) (by decide) ?_
      refine eBk h (fun q12 hq12 h => ?_)
      refine Ev.callV (pc := 187) (as := [.int v1, .int 7]) (st := []) (z := 0) dX10_of_187 wc_X10_show ml_RX10_77 im_X10_show se_X10_show lR_0 rfl rfl (ev_X10_show v1 7 M _ hq12) rfl rfl (by decide) rfl rfl (Nat.le_of_ble_eq_true rfl) ?_
      obtain rfl := Option.some.inj h
      exact Ev.iret (pc := 190) dX10_of_190 rfl rfl
    have h := eF h cs13
    by_cases cs15 : v2 = 5
    · have h := eT h cs15
      refine Ev.tsIn (pc := 93) (tgt := 191) (off := 98) dX10_of_93 (by rw [cs15]; decide) (by rw [cs15]; decide) (by rw [cs15]; rfl) (by decide) ?_
      refine Ev.aload_n (pc := 191) dX10_of_191 rfl ?_
      refine Ev.iload_n (pc := 192) dX10_of_192 rfl ?_
      refine Ev.bipush (pc := 193) dX10_of_193 (v := 8) (by decide) ?_
      refine eBk h (fun q14 hq14 h => ?_)
      refine Ev.callV (pc := 195) (as := [.int v1, .int 8]) (st := []) (z := 0) dX10_of_195 wc_X10_show ml_RX10_77 im_X10_show se_X10_show lR_0 rfl rfl (ev_X10_show v1 8 M _ hq14) rfl rfl (by decide) rfl rfl (Nat.le_of_ble_eq_true rfl) ?_
      obtain rfl := Option.some.inj h
      exact Ev.iret (pc := 198) dX10_of_198 rfl rfl
    have h := eF h cs15
    by_cases cs17 : v2 = 6
    · have h := eT h cs17
      refine Ev.tsIn (pc := 93) (tgt := 199) (off := 106) dX10_of_93 (by rw [cs17]; decide) (by rw [cs17]; decide) (by rw [cs17]; rfl) (by decide) ?_
      refine Ev.aload_n (pc := 199) dX10_of_199 rfl ?_
      refine Ev.iload_n (pc := 200) dX10_of_200 rfl ?_
      refine eBk h (fun q16 hq16 h => ?_)
      refine Ev.callV (pc := 201) (as := [.int v1]) (st := []) (z := 1) dX10_of_201 wc_X10_needOf ml_RX10_115 im_X10_needOf se_X10_needOf lR_0 rfl rfl (ev_X10_needOf v1 M _ hq16) rfl rfl (by decide) rfl rfl (Nat.le_of_ble_eq_true rfl) ?_
      obtain rfl := Option.some.inj h
      exact Ev.iret (pc := 204) dX10_of_204 rfl rfl
    have h := eF h cs17
    by_cases cs19 : v2 = 7
    · have h := eT h cs19
      refine Ev.tsIn (pc := 93) (tgt := 205) (off := 112) dX10_of_93 (by rw [cs19]; decide) (by rw [cs19]; decide) (by rw [cs19]; rfl) (by decide) ?_
      refine Ev.aload_n (pc := 205) dX10_of_205 rfl ?_
      refine Ev.iload_n (pc := 206) dX10_of_206 rfl ?_
      refine eBk h (fun q18 hq18 h => ?_)
      refine Ev.callV (pc := 207) (as := [.int v1]) (st := []) (z := 0) dX10_of_207 wc_X10_priceOf ml_RX10_121 im_X10_priceOf se_X10_priceOf lR_0 rfl rfl (ev_X10_priceOf v1 M _ hq18) rfl rfl (by decide) rfl rfl (Nat.le_of_ble_eq_true rfl) ?_
      obtain rfl := Option.some.inj h
      exact Ev.iret (pc := 210) dX10_of_210 rfl rfl
    have h := eF h cs19
    by_cases cs21 : v2 = 8
    · have h := eT h cs21
      refine Ev.tsIn (pc := 93) (tgt := 211) (off := 118) dX10_of_93 (by rw [cs21]; decide) (by rw [cs21]; decide) (by rw [cs21]; rfl) (by decide) ?_
      refine Ev.aload_n (pc := 211) dX10_of_211 rfl ?_
      refine Ev.iload_n (pc := 212) dX10_of_212 rfl ?_
      refine Ev.bipush (pc := 213) dX10_of_213 (v := 9) (by decide) ?_
      refine eBk h (fun q20 hq20 h => ?_)
      refine Ev.callV (pc := 215) (as := [.int v1, .int 9]) (st := []) (z := 0) dX10_of_215 wc_X10_show ml_RX10_77 im_X10_show se_X10_show lR_0 rfl rfl (ev_X10_show v1 9 M _ hq20) rfl rfl (by decide) rfl rfl (Nat.le_of_ble_eq_true rfl) ?_
      obtain rfl := Option.some.inj h
      exact Ev.iret (pc := 218) dX10_of_218 rfl rfl
    have h := eF h cs21
    by_cases cs23 : v2 = 9
    · have h := eT h cs23
      refine Ev.tsIn (pc := 93) (tgt := 219) (off := 126) dX10_of_93 (by rw [cs23]; decide) (by rw [cs23]; decide) (by rw [cs23]; rfl) (by decide) ?_
      refine Ev.aload_n (pc := 219) dX10_of_219 rfl ?_
      refine Ev.iload_n (pc := 220) dX10_of_220 rfl ?_
      refine eBk h (fun q22 hq22 h => ?_)
      refine Ev.callV (pc := 221) (as := [.int v1]) (st := []) (z := 0) dX10_of_221 wc_X10_isShown ml_RX10_80 im_X10_isShown se_X10_isShown lR_0 rfl rfl (ev_X10_isShown v1 M _ hq22) rfl rfl (by decide) rfl rfl (Nat.le_of_ble_eq_true rfl) ?_
      refine Ev.if_eq (pc := 224) (tgt := 231) dX10_of_224 (by decide) (fun c9 => ?_) (fun c9 => ?_)
      · have h := eT h c9
        refine Ev.iconst (pc := 231) dX10_of_231 (v := 0) (by decide) ?_
        obtain rfl := Option.some.inj h
        exact Ev.iret (pc := 232) dX10_of_232 rfl rfl
      · have h := eF h c9
        refine Ev.iconst (pc := 227) dX10_of_227 (v := 1) (by decide) ?_
        refine Ev.goto (pc := 228) (tgt := 232) dX10_of_228 (by decide) ?_
        obtain rfl := Option.some.inj h
        exact Ev.iret (pc := 232) dX10_of_232 rfl rfl
    have h := eF h cs23
    by_cases cs25 : v2 = 10
    · have h := eT h cs25
      refine Ev.tsIn (pc := 93) (tgt := 233) (off := 140) dX10_of_93 (by rw [cs25]; decide) (by rw [cs25]; decide) (by rw [cs25]; rfl) (by decide) ?_
      refine Ev.aload_n (pc := 233) dX10_of_233 rfl ?_
      refine Ev.iload_n (pc := 234) dX10_of_234 rfl ?_
      refine eBk h (fun q24 hq24 h => ?_)
      refine Ev.callV (pc := 235) (as := [.int v1]) (st := []) (z := 0) dX10_of_235 wc_X10_topOf ml_RX10_124 im_X10_topOf se_X10_topOf lR_0 rfl rfl (ev_X10_topOf v1 M _ hq24) rfl rfl (by decide) rfl rfl (Nat.le_of_ble_eq_true rfl) ?_
      obtain rfl := Option.some.inj h
      exact Ev.iret (pc := 238) dX10_of_238 rfl rfl
    have h := eF h cs25
    by_cases cs27 : v2 = 11
    · have h := eT h cs27
      refine Ev.tsIn (pc := 93) (tgt := 246) (off := 153) dX10_of_93 (by rw [cs27]; decide) (by rw [cs27]; decide) (by rw [cs27]; rfl) (by decide) ?_
      refine Ev.aload_n (pc := 246) dX10_of_246 rfl ?_
      refine Ev.iload_n (pc := 247) dX10_of_247 rfl ?_
      refine Ev.iconst (pc := 248) dX10_of_248 (v := 4) (by decide) ?_
      refine eBk h (fun q26 hq26 h => ?_)
      refine Ev.callV (pc := 249) (as := [.int v1, .int 4]) (st := []) (z := 0) dX10_of_249 wc_X10_show ml_RX10_77 im_X10_show se_X10_show lR_0 rfl rfl (ev_X10_show v1 4 M _ hq26) rfl rfl (by decide) rfl rfl (Nat.le_of_ble_eq_true rfl) ?_
      obtain rfl := Option.some.inj h
      exact Ev.iret (pc := 252) dX10_of_252 rfl rfl
    have h := eF h cs27
    by_cases cs29 : v2 = 12
    · have h := eT h cs29
      refine Ev.tsIn (pc := 93) (tgt := 239) (off := 146) dX10_of_93 (by rw [cs29]; decide) (by rw [cs29]; decide) (by rw [cs29]; rfl) (by decide) ?_
      refine Ev.aload_n (pc := 239) dX10_of_239 rfl ?_
      refine Ev.iload_n (pc := 240) dX10_of_240 rfl ?_
      refine Ev.iconst (pc := 241) dX10_of_241 (v := 3) (by decide) ?_
      refine eBk h (fun q28 hq28 h => ?_)
      refine Ev.callV (pc := 242) (as := [.int v1, .int 3]) (st := []) (z := 0) dX10_of_242 wc_X10_show ml_RX10_77 im_X10_show se_X10_show lR_0 rfl rfl (ev_X10_show v1 3 M _ hq28) rfl rfl (by decide) rfl rfl (Nat.le_of_ble_eq_true rfl) ?_
      obtain rfl := Option.some.inj h
      exact Ev.iret (pc := 245) dX10_of_245 rfl rfl
    have h := eF h cs29
    refine Ev.tsOut (pc := 93) (tgt := 246) dX10_of_93 (eTsO 13 (by decide) (by decide) (by decide) (by
      intro k hk
      rcases (show k = 0 ∨ k = 1 ∨ k = 2 ∨ k = 3 ∨ k = 4 ∨ k = 5 ∨ k = 6 ∨ k = 7 ∨ k = 8 ∨ k = 9 ∨ k = 10 ∨ k = 11 ∨ k = 12 by omega) with rfl | rfl | rfl | rfl | rfl | rfl | rfl | rfl | rfl | rfl | rfl | rfl | rfl
      · exact cs5
      · exact cs7
      · exact cs9
      · exact cs11
      · exact cs13
      · exact cs15
      · exact cs17
      · exact cs19
      · exact cs21
      · exact cs23
      · exact cs25
      · exact cs27
      · exact cs29
      )) (by decide) ?_
    refine Ev.aload_n (pc := 246) dX10_of_246 rfl ?_
    refine Ev.iload_n (pc := 247) dX10_of_247 rfl ?_
    refine Ev.iconst (pc := 248) dX10_of_248 (v := 4) (by decide) ?_
    refine eBk h (fun q30 hq30 h => ?_)
    refine Ev.callV (pc := 249) (as := [.int v1, .int 4]) (st := []) (z := 0) dX10_of_249 wc_X10_show ml_RX10_77 im_X10_show se_X10_show lR_0 rfl rfl (ev_X10_show v1 4 M _ hq30) rfl rfl (by decide) rfl rfl (Nat.le_of_ble_eq_true rfl) ?_
    obtain rfl := Option.some.inj h
    exact Ev.iret (pc := 252) dX10_of_252 rfl rfl
  · have h := eT h c9
    refine Ev.aload_n (pc := 86) dX10_of_86 rfl ?_
    refine Ev.iconst (pc := 87) dX10_of_87 (v := 3) (by decide) ?_
    refine eBk h (fun q31 hq31 h => ?_)
    refine Ev.callV (pc := 88) (as := [.int 3]) (st := []) (z := 0) dX10_of_88 wc_X10_finding ml_RX10_66 im_X10_finding se_X10_finding lR_0 rfl rfl (ev_X10_finding 3 M _ hq31) rfl rfl (by decide) rfl rfl (Nat.le_of_ble_eq_true rfl) ?_
    obtain rfl := Option.some.inj h
    exact Ev.iret (pc := 91) dX10_of_91 rfl rfl
def F_X10_of_74  (v1 : Int32) (v2 : Int32) (v3 : Int32) (M : eMem) : Option (Int32 × eMem) :=
  F_X10_of_79 v1 v2 v3 1 M
set_option maxRecDepth 100000 in
set_option maxHeartbeats 4000000 in
theorem ev_X10_of_74  (q : (Int32 × eMem))  (v1 : Int32) (v2 : Int32) (v3 : Int32) (M : eMem) (h : F_X10_of_74 v1 v2 v3 M = some q) : Ev layR 7 m_X10_of 74 [some (.ref 0), some (.int v1), some (.int v2), some (.int v3), none] [] M (some (.int q.1), q.2) := by
  rw [F_X10_of_74] at h
  refine Ev.iconst (pc := 74) dX10_of_74 (v := 1) (by decide) ?_
  refine Ev.goto (pc := 75) (tgt := 79) dX10_of_75 (by decide) ?_
  exact Ev.fg (ev_X10_of_79 _ _ _ _ _ _ h) (And.intro rfl (And.intro rfl (And.intro rfl (And.intro rfl trivial))))
def F_X10_of_78  (v1 : Int32) (v2 : Int32) (v3 : Int32) (M : eMem) : Option (Int32 × eMem) :=
  F_X10_of_79 v1 v2 v3 0 M
set_option maxRecDepth 100000 in
set_option maxHeartbeats 4000000 in
theorem ev_X10_of_78  (q : (Int32 × eMem))  (v1 : Int32) (v2 : Int32) (v3 : Int32) (M : eMem) (h : F_X10_of_78 v1 v2 v3 M = some q) : Ev layR 7 m_X10_of 78 [some (.ref 0), some (.int v1), some (.int v2), some (.int v3), none] [] M (some (.int q.1), q.2) := by
  rw [F_X10_of_78] at h
  refine Ev.iconst (pc := 78) dX10_of_78 (v := 0) (by decide) ?_
  exact Ev.fg (ev_X10_of_79 _ _ _ _ _ _ h) (And.intro rfl (And.intro rfl (And.intro rfl (And.intro rfl trivial))))
def F_X10_of_63  (v1 : Int32) (v2 : Int32) (v3 : Int32) (M : eMem) : Option (Int32 × eMem) :=
  if 11 < v2 then
    if v3 = 4 then
      F_X10_of_74 v1 v2 v3 M
    else
      F_X10_of_78 v1 v2 v3 M
  else
    F_X10_of_78 v1 v2 v3 M
set_option maxRecDepth 100000 in
set_option maxHeartbeats 4000000 in
theorem ev_X10_of_63  (q : (Int32 × eMem))  (v1 : Int32) (v2 : Int32) (v3 : Int32) (M : eMem) (h : F_X10_of_63 v1 v2 v3 M = some q) : Ev layR 7 m_X10_of 63 [some (.ref 0), some (.int v1), some (.int v2), some (.int v3), none] [] M (some (.int q.1), q.2) := by
  rw [F_X10_of_63] at h
  refine Ev.iload_n (pc := 63) dX10_of_63 rfl ?_
  refine Ev.bipush (pc := 64) dX10_of_64 (v := 11) (by decide) ?_
  refine Ev.icmp_le (pc := 66) (tgt := 78) dX10_of_66 (by decide) (fun c9 => ?_) (fun c9 => ?_)
  · have h := eF h c9
    exact Ev.fg (ev_X10_of_78 _ _ _ _ _ h) (And.intro rfl (And.intro rfl (And.intro rfl (And.intro rfl trivial))))
  · have h := eT h c9
    refine Ev.iload_n (pc := 69) dX10_of_69 rfl ?_
    refine Ev.iconst (pc := 70) dX10_of_70 (v := 4) (by decide) ?_
    refine Ev.icmp_ne (pc := 71) (tgt := 78) dX10_of_71 (by decide) (fun c9 => ?_) (fun c9 => ?_)
    · have h := eF h c9
      exact Ev.fg (ev_X10_of_78 _ _ _ _ _ h) (And.intro rfl (And.intro rfl (And.intro rfl (And.intro rfl trivial))))
    · have h := eT h c9
      exact Ev.fg (ev_X10_of_74 _ _ _ _ _ h) (And.intro rfl (And.intro rfl (And.intro rfl (And.intro rfl trivial))))
def F_X10_of_48  (v1 : Int32) (v2 : Int32) (v3 : Int32) (M : eMem) : Option (Int32 × eMem) :=
  if v2 = 11 then
    (F_X10_in v3 1 2).bind fun q32 =>
    if q32 = 0 then
      F_X10_of_63 v1 v2 v3 M
    else
      F_X10_of_74 v1 v2 v3 M
  else
    F_X10_of_63 v1 v2 v3 M
set_option maxRecDepth 100000 in
set_option maxHeartbeats 4000000 in
theorem ev_X10_of_48  (q : (Int32 × eMem))  (v1 : Int32) (v2 : Int32) (v3 : Int32) (M : eMem) (h : F_X10_of_48 v1 v2 v3 M = some q) : Ev layR 7 m_X10_of 48 [some (.ref 0), some (.int v1), some (.int v2), some (.int v3), none] [] M (some (.int q.1), q.2) := by
  rw [F_X10_of_48] at h
  refine Ev.iload_n (pc := 48) dX10_of_48 rfl ?_
  refine Ev.bipush (pc := 49) dX10_of_49 (v := 11) (by decide) ?_
  refine Ev.icmp_ne (pc := 51) (tgt := 63) dX10_of_51 (by decide) (fun c9 => ?_) (fun c9 => ?_)
  · have h := eF h c9
    exact Ev.fg (ev_X10_of_63 _ _ _ _ _ h) (And.intro rfl (And.intro rfl (And.intro rfl (And.intro rfl trivial))))
  · have h := eT h c9
    refine Ev.iload_n (pc := 54) dX10_of_54 rfl ?_
    refine Ev.iconst (pc := 55) dX10_of_55 (v := 1) (by decide) ?_
    refine Ev.iconst (pc := 56) dX10_of_56 (v := 2) (by decide) ?_
    refine eBk h (fun q32 hq32 h => ?_)
    refine Ev.callS (pc := 57) (as := [.int v3, .int 1, .int 2]) (st := []) (z := 0) dX10_of_57 wc_X10_in ml_RX10_58 sm_X10_in (ev_X10_in v3 1 2 M _ hq32) rfl rfl (by decide) rfl rfl (Nat.le_of_ble_eq_true rfl) ?_
    refine Ev.if_ne (pc := 60) (tgt := 74) dX10_of_60 (by decide) (fun c9 => ?_) (fun c9 => ?_)
    · have h := eF h c9
      exact Ev.fg (ev_X10_of_74 _ _ _ _ _ h) (And.intro rfl (And.intro rfl (And.intro rfl (And.intro rfl trivial))))
    · have h := eT h c9
      exact Ev.fg (ev_X10_of_63 _ _ _ _ _ h) (And.intro rfl (And.intro rfl (And.intro rfl (And.intro rfl trivial))))
def F_X10_of (x1 : Int32) (x2 : Int32) (M : eMem) : Option (Int32 × eMem) :=
  (F_X10_isShow x1 M).bind fun q1 =>
  if q1 = 0 then
    (F_X10_finding 1 M).bind fun q2 =>
    some (q2.1, q2.2)
  else
    (F_X10_in x2 0 13).bind fun q3 =>
    if q3 = 0 then
      (F_X10_finding 1 M).bind fun q33 =>
      some (q33.1, q33.2)
    else
      (F_X10_show x1 0 M).bind fun q4 =>
      if x2 < 10 then
        F_X10_of_74 x1 x2 q4 M
      else
        if x2 = 10 then
          if 2 < q4 then
            F_X10_of_48 x1 x2 q4 M
          else
            F_X10_of_74 x1 x2 q4 M
        else
          F_X10_of_48 x1 x2 q4 M
set_option maxRecDepth 100000 in
set_option maxHeartbeats 4000000 in
theorem ev_X10_of (x1 : Int32) (x2 : Int32) (M : eMem) (q : (Int32 × eMem)) (h : F_X10_of x1 x2 M = some q) : Ev layR 7 m_X10_of 0 [some (.ref 0), some (.int x1), some (.int x2), none, none] [] M (some (.int q.1), q.2) := by
  rw [F_X10_of] at h
  refine Ev.aload_n (pc := 0) dX10_of_0 rfl ?_
  refine Ev.iload_n (pc := 1) dX10_of_1 rfl ?_
  refine eBk h (fun q1 hq1 h => ?_)
  refine Ev.callV (pc := 2) (as := [.int x1]) (st := []) (z := 0) dX10_of_2 wc_X10_isShow ml_RX10_109 im_X10_isShow se_X10_isShow lR_0 rfl rfl (ev_X10_isShow x1 M _ hq1) rfl rfl (by decide) rfl rfl (Nat.le_of_ble_eq_true rfl) ?_
  refine Ev.if_eq (pc := 5) (tgt := 18) dX10_of_5 (by decide) (fun c9 => ?_) (fun c9 => ?_)
  · have h := eT h c9
    refine Ev.aload_n (pc := 18) dX10_of_18 rfl ?_
    refine Ev.iconst (pc := 19) dX10_of_19 (v := 1) (by decide) ?_
    refine eBk h (fun q2 hq2 h => ?_)
    refine Ev.callV (pc := 20) (as := [.int 1]) (st := []) (z := 0) dX10_of_20 wc_X10_finding ml_RX10_66 im_X10_finding se_X10_finding lR_0 rfl rfl (ev_X10_finding 1 M _ hq2) rfl rfl (by decide) rfl rfl (Nat.le_of_ble_eq_true rfl) ?_
    obtain rfl := Option.some.inj h
    exact Ev.iret (pc := 23) dX10_of_23 rfl rfl
  · have h := eF h c9
    refine Ev.iload_n (pc := 8) dX10_of_8 rfl ?_
    refine Ev.iconst (pc := 9) dX10_of_9 (v := 0) (by decide) ?_
    refine Ev.bipush (pc := 10) dX10_of_10 (v := 13) (by decide) ?_
    refine eBk h (fun q3 hq3 h => ?_)
    refine Ev.callS (pc := 12) (as := [.int x2, .int 0, .int 13]) (st := []) (z := 0) dX10_of_12 wc_X10_in ml_RX10_58 sm_X10_in (ev_X10_in x2 0 13 M _ hq3) rfl rfl (by decide) rfl rfl (Nat.le_of_ble_eq_true rfl) ?_
    refine Ev.if_ne (pc := 15) (tgt := 24) dX10_of_15 (by decide) (fun c9 => ?_) (fun c9 => ?_)
    · have h := eF h c9
      refine Ev.aload_n (pc := 24) dX10_of_24 rfl ?_
      refine Ev.iload_n (pc := 25) dX10_of_25 rfl ?_
      refine Ev.iconst (pc := 26) dX10_of_26 (v := 0) (by decide) ?_
      refine eBk h (fun q4 hq4 h => ?_)
      refine Ev.callV (pc := 27) (as := [.int x1, .int 0]) (st := []) (z := 0) dX10_of_27 wc_X10_show ml_RX10_77 im_X10_show se_X10_show lR_0 rfl rfl (ev_X10_show x1 0 M _ hq4) rfl rfl (by decide) rfl rfl (Nat.le_of_ble_eq_true rfl) ?_
      refine Ev.istore_n (pc := 30) dX10_of_30 (by decide) rfl rfl ?_
      refine Ev.iload_n (pc := 31) dX10_of_31 rfl ?_
      refine Ev.bipush (pc := 32) dX10_of_32 (v := 10) (by decide) ?_
      refine Ev.icmp_lt (pc := 34) (tgt := 74) dX10_of_34 (by decide) (fun c9 => ?_) (fun c9 => ?_)
      · have h := eT h c9
        exact Ev.fg (ev_X10_of_74 _ _ _ _ _ h) (And.intro rfl (And.intro rfl (And.intro rfl (And.intro rfl trivial))))
      · have h := eF h c9
        refine Ev.iload_n (pc := 37) dX10_of_37 rfl ?_
        refine Ev.bipush (pc := 38) dX10_of_38 (v := 10) (by decide) ?_
        refine Ev.icmp_ne (pc := 40) (tgt := 48) dX10_of_40 (by decide) (fun c9 => ?_) (fun c9 => ?_)
        · have h := eF h c9
          exact Ev.fg (ev_X10_of_48 _ _ _ _ _ h) (And.intro rfl (And.intro rfl (And.intro rfl (And.intro rfl trivial))))
        · have h := eT h c9
          refine Ev.iload_n (pc := 43) dX10_of_43 rfl ?_
          refine Ev.iconst (pc := 44) dX10_of_44 (v := 2) (by decide) ?_
          refine Ev.icmp_le (pc := 45) (tgt := 74) dX10_of_45 (by decide) (fun c9 => ?_) (fun c9 => ?_)
          · have h := eF h c9
            exact Ev.fg (ev_X10_of_74 _ _ _ _ _ h) (And.intro rfl (And.intro rfl (And.intro rfl (And.intro rfl trivial))))
          · have h := eT h c9
            exact Ev.fg (ev_X10_of_48 _ _ _ _ _ h) (And.intro rfl (And.intro rfl (And.intro rfl (And.intro rfl trivial))))
    · have h := eT h c9
      refine Ev.aload_n (pc := 18) dX10_of_18 rfl ?_
      refine Ev.iconst (pc := 19) dX10_of_19 (v := 1) (by decide) ?_
      refine eBk h (fun q33 hq33 h => ?_)
      refine Ev.callV (pc := 20) (as := [.int 1]) (st := []) (z := 0) dX10_of_20 wc_X10_finding ml_RX10_66 im_X10_finding se_X10_finding lR_0 rfl rfl (ev_X10_finding 1 M _ hq33) rfl rfl (by decide) rfl rfl (Nat.le_of_ble_eq_true rfl) ?_
      obtain rfl := Option.some.inj h
      exact Ev.iret (pc := 23) dX10_of_23 rfl rfl
theorem dX9_stand_0 : decode cX9_stand 0 = .ok (.aload_n 0, 1) := by decide +kernel
theorem dX9_stand_1 : decode cX9_stand 1 = .ok (.getfield 12, 3) := by decide +kernel
theorem dX9_stand_4 : decode cX9_stand 4 = .ok (.getfield 130, 3) := by decide +kernel
theorem dX9_stand_7 : decode cX9_stand 7 = .ok (.iload_n 1, 1) := by decide +kernel
theorem dX9_stand_8 : decode cX9_stand 8 = .ok (.invokevirtual 143, 3) := by decide +kernel
theorem dX9_stand_11 : decode cX9_stand 11 = .ok (.ifCond .ne 10, 3) := by decide +kernel
theorem dX9_stand_14 : decode cX9_stand 14 = .ok (.aload_n 0, 1) := by decide +kernel
theorem dX9_stand_15 : decode cX9_stand 15 = .ok (.ldc 41, 2) := by decide +kernel
theorem dX9_stand_17 : decode cX9_stand 17 = .ok (.invokevirtual 42, 3) := by decide +kernel
theorem dX9_stand_20 : decode cX9_stand 20 = .ok (.ireturn, 1) := by decide +kernel
theorem dX9_stand_21 : decode cX9_stand 21 = .ok (.aload_n 0, 1) := by decide +kernel
theorem dX9_stand_22 : decode cX9_stand 22 = .ok (.getfield 12, 3) := by decide +kernel
theorem dX9_stand_25 : decode cX9_stand 25 = .ok (.getfield 130, 3) := by decide +kernel
theorem dX9_stand_28 : decode cX9_stand 28 = .ok (.getfield 158, 3) := by decide +kernel
theorem dX9_stand_31 : decode cX9_stand 31 = .ok (.iload_n 1, 1) := by decide +kernel
theorem dX9_stand_32 : decode cX9_stand 32 = .ok (.baload, 1) := by decide +kernel
theorem dX9_stand_33 : decode cX9_stand 33 = .ok (.iload_n 2, 1) := by decide +kernel
theorem dX9_stand_34 : decode cX9_stand 34 = .ok (.if_icmp .ne 5, 3) := by decide +kernel
theorem dX9_stand_37 : decode cX9_stand 37 = .ok (.iconst 0, 1) := by decide +kernel
theorem dX9_stand_38 : decode cX9_stand 38 = .ok (.ireturn, 1) := by decide +kernel
theorem dX9_stand_39 : decode cX9_stand 39 = .ok (.aload_n 0, 1) := by decide +kernel
theorem dX9_stand_40 : decode cX9_stand 40 = .ok (.getfield 12, 3) := by decide +kernel
theorem dX9_stand_43 : decode cX9_stand 43 = .ok (.getfield 130, 3) := by decide +kernel
theorem dX9_stand_46 : decode cX9_stand 46 = .ok (.getfield 158, 3) := by decide +kernel
theorem dX9_stand_49 : decode cX9_stand 49 = .ok (.iload_n 1, 1) := by decide +kernel
theorem dX9_stand_50 : decode cX9_stand 50 = .ok (.iload_n 2, 1) := by decide +kernel
theorem dX9_stand_51 : decode cX9_stand 51 = .ok (.bastore, 1) := by decide +kernel
theorem dX9_stand_52 : decode cX9_stand 52 = .ok (.aload_n 0, 1) := by decide +kernel
theorem dX9_stand_53 : decode cX9_stand 53 = .ok (.getfield 12, 3) := by decide +kernel
theorem dX9_stand_56 : decode cX9_stand 56 = .ok (.getfield 130, 3) := by decide +kernel
theorem dX9_stand_59 : decode cX9_stand 59 = .ok (.getfield 189, 3) := by decide +kernel
theorem dX9_stand_62 : decode cX9_stand 62 = .ok (.iload_n 1, 1) := by decide +kernel
theorem dX9_stand_63 : decode cX9_stand 63 = .ok (.aload_n 0, 1) := by decide +kernel
theorem dX9_stand_64 : decode cX9_stand 64 = .ok (.getfield 12, 3) := by decide +kernel
theorem dX9_stand_67 : decode cX9_stand 67 = .ok (.getfield 46, 3) := by decide +kernel
theorem dX9_stand_70 : decode cX9_stand 70 = .ok (.getfield 99, 3) := by decide +kernel
theorem dX9_stand_73 : decode cX9_stand 73 = .ok (.iastore, 1) := by decide +kernel
theorem dX9_stand_74 : decode cX9_stand 74 = .ok (.iconst 1, 1) := by decide +kernel
theorem dX9_stand_75 : decode cX9_stand 75 = .ok (.ireturn, 1) := by decide +kernel
def F_X9_stand (x1 : Int32) (x2 : Int32) (M : eMem) : Option (Int32 × eMem) :=
  (F_X5_has x1 M).bind fun q1 =>
  if q1 = 0 then
    (F_X9_found (-1000001) M).bind fun q2 =>
    some (q2.1, q2.2)
  else
    eG (eIn x1 20) <|
    if (M.1 18 x1.toNatClampNeg) = x2 then
      some (0, M)
    else
      eG (eIn x1 20) <|
      eG (eIn x1 20) <|
      some (1, (eI (eI M 18 x1.toNatClampNeg (vp_nar .boolean x2)) 19 x1.toNatClampNeg (M.1 2 11)))
set_option maxRecDepth 100000 in
set_option maxHeartbeats 4000000 in
theorem ev_X9_stand (x1 : Int32) (x2 : Int32) (M : eMem) (q : (Int32 × eMem)) (h : F_X9_stand x1 x2 M = some q) : Ev layC 2 m_X9_stand 0 [some (.ref 0), some (.int x1), some (.int x2)] [] M (some (.int q.1), q.2) := by
  rw [F_X9_stand] at h
  refine Ev.aload_n (pc := 0) dX9_stand_0 rfl ?_
  refine Ev.getR (pc := 1) dX9_stand_1 fl_RX9_12 lC_0 rfl ?_
  refine Ev.getR (pc := 4) dX9_stand_4 fl_RX9_130 lC_1 rfl ?_
  refine Ev.iload_n (pc := 7) dX9_stand_7 rfl ?_
  refine eBk h (fun q1 hq1 h => ?_)
  refine Ev.callV (pc := 8) (as := [.int x1]) (st := []) (z := 0) dX9_stand_8 wc_X5_has ml_RX9_143 im_X5_has se_X5_has lC_12 rfl rfl (ev_X5_has x1 M _ hq1) rfl rfl (by decide) rfl rfl (Nat.le_of_ble_eq_true rfl) ?_
  refine Ev.if_ne (pc := 11) (tgt := 21) dX9_stand_11 (by decide) (fun c9 => ?_) (fun c9 => ?_)
  · have h := eF h c9
    refine Ev.aload_n (pc := 21) dX9_stand_21 rfl ?_
    refine Ev.getR (pc := 22) dX9_stand_22 fl_RX9_12 lC_0 rfl ?_
    refine Ev.getR (pc := 25) dX9_stand_25 fl_RX9_130 lC_1 rfl ?_
    refine Ev.getR (pc := 28) dX9_stand_28 fl_RX9_158 lC_12 rfl ?_
    refine Ev.iload_n (pc := 31) dX9_stand_31 rfl ?_
    obtain ⟨g9, h⟩ := eGdB h
    refine Ev.zaldj (pc := 32) dX9_stand_32 (j := x1.toNatClampNeg) lC_18 g9 rfl ?_
    refine Ev.iload_n (pc := 33) dX9_stand_33 rfl ?_
    refine Ev.icmp_ne (pc := 34) (tgt := 39) dX9_stand_34 (by decide) (fun c9 => ?_) (fun c9 => ?_)
    · have h := eF h c9
      refine Ev.aload_n (pc := 39) dX9_stand_39 rfl ?_
      refine Ev.getR (pc := 40) dX9_stand_40 fl_RX9_12 lC_0 rfl ?_
      refine Ev.getR (pc := 43) dX9_stand_43 fl_RX9_130 lC_1 rfl ?_
      refine Ev.getR (pc := 46) dX9_stand_46 fl_RX9_158 lC_12 rfl ?_
      refine Ev.iload_n (pc := 49) dX9_stand_49 rfl ?_
      refine Ev.iload_n (pc := 50) dX9_stand_50 rfl ?_
      obtain ⟨g9, h⟩ := eGdB h
      refine Ev.zastj (pc := 51) dX9_stand_51 (j := x1.toNatClampNeg) lC_18 g9 rfl ?_
      refine Ev.aload_n (pc := 52) dX9_stand_52 rfl ?_
      refine Ev.getR (pc := 53) dX9_stand_53 fl_RX9_12 lC_0 rfl ?_
      refine Ev.getR (pc := 56) dX9_stand_56 fl_RX9_130 lC_1 rfl ?_
      refine Ev.getR (pc := 59) dX9_stand_59 fl_RX9_189 lC_12 rfl ?_
      refine Ev.iload_n (pc := 62) dX9_stand_62 rfl ?_
      refine Ev.aload_n (pc := 63) dX9_stand_63 rfl ?_
      refine Ev.getR (pc := 64) dX9_stand_64 fl_RX9_12 lC_0 rfl ?_
      refine Ev.getR (pc := 67) dX9_stand_67 fl_RX9_46 lC_1 rfl ?_
      refine Ev.getIv (pc := 70) dX9_stand_70 (v := (M.1 2 11)) fl_RX9_99 lC_2 rfl (eI_n (by decide)) ?_
      obtain ⟨g9, h⟩ := eGdB h
      refine Ev.iastj (pc := 73) dX9_stand_73 (j := x1.toNatClampNeg) lC_19 g9 rfl ?_
      refine Ev.iconst (pc := 74) dX9_stand_74 (v := 1) (by decide) ?_
      obtain rfl := Option.some.inj h
      exact Ev.iret (pc := 75) dX9_stand_75 rfl rfl
    · have h := eT h c9
      refine Ev.iconst (pc := 37) dX9_stand_37 (v := 0) (by decide) ?_
      obtain rfl := Option.some.inj h
      exact Ev.iret (pc := 38) dX9_stand_38 rfl rfl
  · have h := eT h c9
    refine Ev.aload_n (pc := 14) dX9_stand_14 rfl ?_
    refine Ev.ldc (pc := 15) dX9_stand_15 ld_RX9_41 ?_
    refine eBk h (fun q2 hq2 h => ?_)
    refine Ev.callV (pc := 17) (as := [.int (-1000001)]) (st := []) (z := 1) dX9_stand_17 wc_X9_found ml_RX9_42 im_X9_found se_X9_found lC_0 rfl rfl (ev_X9_found (-1000001) M _ hq2) rfl rfl (by decide) rfl rfl (Nat.le_of_ble_eq_true rfl) ?_
    obtain rfl := Option.some.inj h
    exact Ev.iret (pc := 20) dX9_stand_20 rfl rfl
theorem dX10_stand_0 : decode cX10_stand 0 = .ok (.aload_n 0, 1) := by decide +kernel
theorem dX10_stand_1 : decode cX10_stand 1 = .ok (.iload_n 1, 1) := by decide +kernel
theorem dX10_stand_2 : decode cX10_stand 2 = .ok (.invokevirtual 109, 3) := by decide +kernel
theorem dX10_stand_5 : decode cX10_stand 5 = .ok (.ifCond .ne 9, 3) := by decide +kernel
theorem dX10_stand_8 : decode cX10_stand 8 = .ok (.aload_n 0, 1) := by decide +kernel
theorem dX10_stand_9 : decode cX10_stand 9 = .ok (.iconst 1, 1) := by decide +kernel
theorem dX10_stand_10 : decode cX10_stand 10 = .ok (.invokevirtual 66, 3) := by decide +kernel
theorem dX10_stand_13 : decode cX10_stand 13 = .ok (.ireturn, 1) := by decide +kernel
theorem dX10_stand_14 : decode cX10_stand 14 = .ok (.aload_n 0, 1) := by decide +kernel
theorem dX10_stand_15 : decode cX10_stand 15 = .ok (.iload_n 1, 1) := by decide +kernel
theorem dX10_stand_16 : decode cX10_stand 16 = .ok (.iconst 5, 1) := by decide +kernel
theorem dX10_stand_17 : decode cX10_stand 17 = .ok (.invokevirtual 77, 3) := by decide +kernel
theorem dX10_stand_20 : decode cX10_stand 20 = .ok (.iconst 1, 1) := by decide +kernel
theorem dX10_stand_21 : decode cX10_stand 21 = .ok (.if_icmp .ne 7, 3) := by decide +kernel
theorem dX10_stand_24 : decode cX10_stand 24 = .ok (.iconst 1, 1) := by decide +kernel
theorem dX10_stand_25 : decode cX10_stand 25 = .ok (.goto 4, 3) := by decide +kernel
theorem dX10_stand_28 : decode cX10_stand 28 = .ok (.iconst 0, 1) := by decide +kernel
theorem dX10_stand_29 : decode cX10_stand 29 = .ok (.istore_n 3, 1) := by decide +kernel
theorem dX10_stand_30 : decode cX10_stand 30 = .ok (.iload_n 3, 1) := by decide +kernel
theorem dX10_stand_31 : decode cX10_stand 31 = .ok (.iload_n 2, 1) := by decide +kernel
theorem dX10_stand_32 : decode cX10_stand 32 = .ok (.if_icmp .ne 5, 3) := by decide +kernel
theorem dX10_stand_35 : decode cX10_stand 35 = .ok (.iconst 0, 1) := by decide +kernel
theorem dX10_stand_36 : decode cX10_stand 36 = .ok (.ireturn, 1) := by decide +kernel
theorem dX10_stand_37 : decode cX10_stand 37 = .ok (.aload_n 0, 1) := by decide +kernel
theorem dX10_stand_38 : decode cX10_stand 38 = .ok (.iload_n 1, 1) := by decide +kernel
theorem dX10_stand_39 : decode cX10_stand 39 = .ok (.iconst 5, 1) := by decide +kernel
theorem dX10_stand_40 : decode cX10_stand 40 = .ok (.iload_n 2, 1) := by decide +kernel
theorem dX10_stand_41 : decode cX10_stand 41 = .ok (.ifCond .eq 7, 3) := by decide +kernel
theorem dX10_stand_44 : decode cX10_stand 44 = .ok (.iconst 1, 1) := by decide +kernel
theorem dX10_stand_45 : decode cX10_stand 45 = .ok (.goto 4, 3) := by decide +kernel
theorem dX10_stand_48 : decode cX10_stand 48 = .ok (.iconst 0, 1) := by decide +kernel
theorem dX10_stand_49 : decode cX10_stand 49 = .ok (.invokevirtual 105, 3) := by decide +kernel
theorem dX10_stand_52 : decode cX10_stand 52 = .ok (.aload_n 0, 1) := by decide +kernel
theorem dX10_stand_53 : decode cX10_stand 53 = .ok (.iload_n 1, 1) := by decide +kernel
theorem dX10_stand_54 : decode cX10_stand 54 = .ok (.bipush 6, 2) := by decide +kernel
theorem dX10_stand_56 : decode cX10_stand 56 = .ok (.aload_n 0, 1) := by decide +kernel
theorem dX10_stand_57 : decode cX10_stand 57 = .ok (.getfield 7, 3) := by decide +kernel
theorem dX10_stand_60 : decode cX10_stand 60 = .ok (.iconst 0, 1) := by decide +kernel
theorem dX10_stand_61 : decode cX10_stand 61 = .ok (.iaload, 1) := by decide +kernel
theorem dX10_stand_62 : decode cX10_stand 62 = .ok (.invokevirtual 105, 3) := by decide +kernel
theorem dX10_stand_65 : decode cX10_stand 65 = .ok (.iconst 1, 1) := by decide +kernel
theorem dX10_stand_66 : decode cX10_stand 66 = .ok (.ireturn, 1) := by decide +kernel
def F_X10_stand_49  (v1 : Int32) (s0 : Int32) (s1 : Int32) (s2 : Int32) (M : eMem) : Option (Int32 × eMem) :=
  (F_X10_setShow s2 s1 s0 M).bind fun q3 =>
  (F_X10_setShow v1 6 (q3.1 1 0) q3).bind fun q4 =>
  some (1, q4)
set_option maxRecDepth 100000 in
set_option maxHeartbeats 4000000 in
theorem ev_X10_stand_49  (q : (Int32 × eMem))  (v1 : Int32) (s0 : Int32) (s1 : Int32) (s2 : Int32) (M : eMem) (h : F_X10_stand_49 v1 s0 s1 s2 M = some q) : Ev layR 2 m_X10_stand 49 [some (.ref 0), some (.int v1), none, none] [.int s0, .int s1, .int s2, .ref 0] M (some (.int q.1), q.2) := by
  rw [F_X10_stand_49] at h
  refine eBk h (fun q3 hq3 h => ?_)
  refine Ev.callV (pc := 49) (as := [.int s2, .int s1, .int s0]) (st := []) (z := 0) dX10_stand_49 wc_X10_setShow ml_RX10_105 im_X10_setShow se_X10_setShow lR_0 rfl rfl (ev_X10_setShow s2 s1 s0 M _ hq3) rfl rfl (by decide) rfl rfl (Nat.le_of_ble_eq_true rfl) ?_
  refine Ev.aload_n (pc := 52) dX10_stand_52 rfl ?_
  refine Ev.iload_n (pc := 53) dX10_stand_53 rfl ?_
  refine Ev.bipush (pc := 54) dX10_stand_54 (v := 6) (by decide) ?_
  refine Ev.aload_n (pc := 56) dX10_stand_56 rfl ?_
  refine Ev.getR (pc := 57) dX10_stand_57 fl_RX10_7 lR_0 rfl ?_
  refine Ev.iconst (pc := 60) dX10_stand_60 (v := 0) (by decide) ?_
  refine Ev.ialdj (pc := 61) dX10_stand_61 (j := 0) lR_1 (by decide) (by decide) ?_
  refine eBk h (fun q4 hq4 h => ?_)
  refine Ev.callV (pc := 62) (as := [.int v1, .int 6, .int (q3.1 1 0)]) (st := []) (z := 0) dX10_stand_62 wc_X10_setShow ml_RX10_105 im_X10_setShow se_X10_setShow lR_0 rfl rfl (ev_X10_setShow v1 6 (q3.1 1 0) q3 _ hq4) rfl rfl (by decide) rfl rfl (Nat.le_of_ble_eq_true rfl) ?_
  refine Ev.iconst (pc := 65) dX10_stand_65 (v := 1) (by decide) ?_
  obtain rfl := Option.some.inj h
  exact Ev.iret (pc := 66) dX10_stand_66 rfl rfl
def F_X10_stand_29  (v1 : Int32) (v2 : Int32) (s0 : Int32) (M : eMem) : Option (Int32 × eMem) :=
  if s0 = v2 then
    some (0, M)
  else
    if v2 = 0 then
      F_X10_stand_49 v1 0 5 v1 M
    else
      F_X10_stand_49 v1 1 5 v1 M
set_option maxRecDepth 100000 in
set_option maxHeartbeats 4000000 in
theorem ev_X10_stand_29  (q : (Int32 × eMem))  (v1 : Int32) (v2 : Int32) (s0 : Int32) (M : eMem) (h : F_X10_stand_29 v1 v2 s0 M = some q) : Ev layR 2 m_X10_stand 29 [some (.ref 0), some (.int v1), some (.int v2), none] [.int s0] M (some (.int q.1), q.2) := by
  rw [F_X10_stand_29] at h
  refine Ev.istore_n (pc := 29) dX10_stand_29 (by decide) rfl rfl ?_
  refine Ev.iload_n (pc := 30) dX10_stand_30 rfl ?_
  refine Ev.iload_n (pc := 31) dX10_stand_31 rfl ?_
  refine Ev.icmp_ne (pc := 32) (tgt := 37) dX10_stand_32 (by decide) (fun c9 => ?_) (fun c9 => ?_)
  · have h := eF h c9
    refine Ev.aload_n (pc := 37) dX10_stand_37 rfl ?_
    refine Ev.iload_n (pc := 38) dX10_stand_38 rfl ?_
    refine Ev.iconst (pc := 39) dX10_stand_39 (v := 5) (by decide) ?_
    refine Ev.iload_n (pc := 40) dX10_stand_40 rfl ?_
    refine Ev.if_eq (pc := 41) (tgt := 48) dX10_stand_41 (by decide) (fun c9 => ?_) (fun c9 => ?_)
    · have h := eT h c9
      refine Ev.iconst (pc := 48) dX10_stand_48 (v := 0) (by decide) ?_
      exact Ev.fg (ev_X10_stand_49 _ _ _ _ _ _ h) (And.intro rfl (And.intro rfl trivial))
    · have h := eF h c9
      refine Ev.iconst (pc := 44) dX10_stand_44 (v := 1) (by decide) ?_
      refine Ev.goto (pc := 45) (tgt := 49) dX10_stand_45 (by decide) ?_
      exact Ev.fg (ev_X10_stand_49 _ _ _ _ _ _ h) (And.intro rfl (And.intro rfl trivial))
  · have h := eT h c9
    refine Ev.iconst (pc := 35) dX10_stand_35 (v := 0) (by decide) ?_
    obtain rfl := Option.some.inj h
    exact Ev.iret (pc := 36) dX10_stand_36 rfl rfl
def F_X10_stand (x1 : Int32) (x2 : Int32) (M : eMem) : Option (Int32 × eMem) :=
  (F_X10_isShow x1 M).bind fun q1 =>
  if q1 = 0 then
    (F_X10_finding 1 M).bind fun q5 =>
    some (q5.1, q5.2)
  else
    (F_X10_show x1 5 M).bind fun q2 =>
    if q2 = 1 then
      F_X10_stand_29 x1 x2 1 M
    else
      F_X10_stand_29 x1 x2 0 M
set_option maxRecDepth 100000 in
set_option maxHeartbeats 4000000 in
theorem ev_X10_stand (x1 : Int32) (x2 : Int32) (M : eMem) (q : (Int32 × eMem)) (h : F_X10_stand x1 x2 M = some q) : Ev layR 2 m_X10_stand 0 [some (.ref 0), some (.int x1), some (.int x2), none] [] M (some (.int q.1), q.2) := by
  rw [F_X10_stand] at h
  refine Ev.aload_n (pc := 0) dX10_stand_0 rfl ?_
  refine Ev.iload_n (pc := 1) dX10_stand_1 rfl ?_
  refine eBk h (fun q1 hq1 h => ?_)
  refine Ev.callV (pc := 2) (as := [.int x1]) (st := []) (z := 0) dX10_stand_2 wc_X10_isShow ml_RX10_109 im_X10_isShow se_X10_isShow lR_0 rfl rfl (ev_X10_isShow x1 M _ hq1) rfl rfl (by decide) rfl rfl (Nat.le_of_ble_eq_true rfl) ?_
  refine Ev.if_ne (pc := 5) (tgt := 14) dX10_stand_5 (by decide) (fun c9 => ?_) (fun c9 => ?_)
  · have h := eF h c9
    refine Ev.aload_n (pc := 14) dX10_stand_14 rfl ?_
    refine Ev.iload_n (pc := 15) dX10_stand_15 rfl ?_
    refine Ev.iconst (pc := 16) dX10_stand_16 (v := 5) (by decide) ?_
    refine eBk h (fun q2 hq2 h => ?_)
    refine Ev.callV (pc := 17) (as := [.int x1, .int 5]) (st := []) (z := 0) dX10_stand_17 wc_X10_show ml_RX10_77 im_X10_show se_X10_show lR_0 rfl rfl (ev_X10_show x1 5 M _ hq2) rfl rfl (by decide) rfl rfl (Nat.le_of_ble_eq_true rfl) ?_
    refine Ev.iconst (pc := 20) dX10_stand_20 (v := 1) (by decide) ?_
    refine Ev.icmp_ne (pc := 21) (tgt := 28) dX10_stand_21 (by decide) (fun c9 => ?_) (fun c9 => ?_)
    · have h := eF h c9
      refine Ev.iconst (pc := 28) dX10_stand_28 (v := 0) (by decide) ?_
      exact Ev.fg (ev_X10_stand_29 _ _ _ _ _ h) (And.intro rfl (And.intro rfl (And.intro rfl trivial)))
    · have h := eT h c9
      refine Ev.iconst (pc := 24) dX10_stand_24 (v := 1) (by decide) ?_
      refine Ev.goto (pc := 25) (tgt := 29) dX10_stand_25 (by decide) ?_
      exact Ev.fg (ev_X10_stand_29 _ _ _ _ _ h) (And.intro rfl (And.intro rfl (And.intro rfl trivial)))
  · have h := eT h c9
    refine Ev.aload_n (pc := 8) dX10_stand_8 rfl ?_
    refine Ev.iconst (pc := 9) dX10_stand_9 (v := 1) (by decide) ?_
    refine eBk h (fun q5 hq5 h => ?_)
    refine Ev.callV (pc := 10) (as := [.int 1]) (st := []) (z := 0) dX10_stand_10 wc_X10_finding ml_RX10_66 im_X10_finding se_X10_finding lR_0 rfl rfl (ev_X10_finding 1 M _ hq5) rfl rfl (by decide) rfl rfl (Nat.le_of_ble_eq_true rfl) ?_
    obtain rfl := Option.some.inj h
    exact Ev.iret (pc := 13) dX10_stand_13 rfl rfl
theorem dX9_hands_0 : decode cX9_hands 0 = .ok (.aload_n 0, 1) := by decide +kernel
theorem dX9_hands_1 : decode cX9_hands 1 = .ok (.getfield 12, 3) := by decide +kernel
theorem dX9_hands_4 : decode cX9_hands 4 = .ok (.getfield 130, 3) := by decide +kernel
theorem dX9_hands_7 : decode cX9_hands 7 = .ok (.iload_n 1, 1) := by decide +kernel
theorem dX9_hands_8 : decode cX9_hands 8 = .ok (.invokevirtual 143, 3) := by decide +kernel
theorem dX9_hands_11 : decode cX9_hands 11 = .ok (.ifCond .eq 13, 3) := by decide +kernel
theorem dX9_hands_14 : decode cX9_hands 14 = .ok (.iload_n 2, 1) := by decide +kernel
theorem dX9_hands_15 : decode cX9_hands 15 = .ok (.iconst 0, 1) := by decide +kernel
theorem dX9_hands_16 : decode cX9_hands 16 = .ok (.bipush 90, 2) := by decide +kernel
theorem dX9_hands_18 : decode cX9_hands 18 = .ok (.invokestatic 55, 3) := by decide +kernel
theorem dX9_hands_21 : decode cX9_hands 21 = .ok (.ifCond .ne 10, 3) := by decide +kernel
theorem dX9_hands_24 : decode cX9_hands 24 = .ok (.aload_n 0, 1) := by decide +kernel
theorem dX9_hands_25 : decode cX9_hands 25 = .ok (.ldc 41, 2) := by decide +kernel
theorem dX9_hands_27 : decode cX9_hands 27 = .ok (.invokevirtual 42, 3) := by decide +kernel
theorem dX9_hands_30 : decode cX9_hands 30 = .ok (.ireturn, 1) := by decide +kernel
theorem dX9_hands_31 : decode cX9_hands 31 = .ok (.aload_n 0, 1) := by decide +kernel
theorem dX9_hands_32 : decode cX9_hands 32 = .ok (.getfield 12, 3) := by decide +kernel
theorem dX9_hands_35 : decode cX9_hands 35 = .ok (.getfield 46, 3) := by decide +kernel
theorem dX9_hands_38 : decode cX9_hands 38 = .ok (.getfield 115, 3) := by decide +kernel
theorem dX9_hands_41 : decode cX9_hands 41 = .ok (.aload_n 0, 1) := by decide +kernel
theorem dX9_hands_42 : decode cX9_hands 42 = .ok (.getfield 12, 3) := by decide +kernel
theorem dX9_hands_45 : decode cX9_hands 45 = .ok (.getfield 130, 3) := by decide +kernel
theorem dX9_hands_48 : decode cX9_hands 48 = .ok (.getfield 165, 3) := by decide +kernel
theorem dX9_hands_51 : decode cX9_hands 51 = .ok (.iload_n 1, 1) := by decide +kernel
theorem dX9_hands_52 : decode cX9_hands 52 = .ok (.iaload, 1) := by decide +kernel
theorem dX9_hands_53 : decode cX9_hands 53 = .ok (.iadd, 1) := by decide +kernel
theorem dX9_hands_54 : decode cX9_hands 54 = .ok (.iload_n 2, 1) := by decide +kernel
theorem dX9_hands_55 : decode cX9_hands 55 = .ok (.isub, 1) := by decide +kernel
theorem dX9_hands_56 : decode cX9_hands 56 = .ok (.istore_n 3, 1) := by decide +kernel
theorem dX9_hands_57 : decode cX9_hands 57 = .ok (.iload_n 3, 1) := by decide +kernel
theorem dX9_hands_58 : decode cX9_hands 58 = .ok (.iconst 0, 1) := by decide +kernel
theorem dX9_hands_59 : decode cX9_hands 59 = .ok (.sipush 900, 3) := by decide +kernel
theorem dX9_hands_62 : decode cX9_hands 62 = .ok (.invokestatic 55, 3) := by decide +kernel
theorem dX9_hands_65 : decode cX9_hands 65 = .ok (.ifCond .ne 10, 3) := by decide +kernel
theorem dX9_hands_68 : decode cX9_hands 68 = .ok (.aload_n 0, 1) := by decide +kernel
theorem dX9_hands_69 : decode cX9_hands 69 = .ok (.ldc 192, 2) := by decide +kernel
theorem dX9_hands_71 : decode cX9_hands 71 = .ok (.invokevirtual 42, 3) := by decide +kernel
theorem dX9_hands_74 : decode cX9_hands 74 = .ok (.ireturn, 1) := by decide +kernel
theorem dX9_hands_75 : decode cX9_hands 75 = .ok (.aload_n 0, 1) := by decide +kernel
theorem dX9_hands_76 : decode cX9_hands 76 = .ok (.getfield 12, 3) := by decide +kernel
theorem dX9_hands_79 : decode cX9_hands 79 = .ok (.getfield 130, 3) := by decide +kernel
theorem dX9_hands_82 : decode cX9_hands 82 = .ok (.getfield 165, 3) := by decide +kernel
theorem dX9_hands_85 : decode cX9_hands 85 = .ok (.iload_n 1, 1) := by decide +kernel
theorem dX9_hands_86 : decode cX9_hands 86 = .ok (.iload_n 2, 1) := by decide +kernel
theorem dX9_hands_87 : decode cX9_hands 87 = .ok (.iastore, 1) := by decide +kernel
theorem dX9_hands_88 : decode cX9_hands 88 = .ok (.aload_n 0, 1) := by decide +kernel
theorem dX9_hands_89 : decode cX9_hands 89 = .ok (.getfield 12, 3) := by decide +kernel
theorem dX9_hands_92 : decode cX9_hands 92 = .ok (.getfield 46, 3) := by decide +kernel
theorem dX9_hands_95 : decode cX9_hands 95 = .ok (.iload_n 3, 1) := by decide +kernel
theorem dX9_hands_96 : decode cX9_hands 96 = .ok (.putfield 115, 3) := by decide +kernel
theorem dX9_hands_99 : decode cX9_hands 99 = .ok (.iload_n 3, 1) := by decide +kernel
theorem dX9_hands_100 : decode cX9_hands 100 = .ok (.ireturn, 1) := by decide +kernel
def F_X9_hands (x1 : Int32) (x2 : Int32) (M : eMem) : Option (Int32 × eMem) :=
  (F_X5_has x1 M).bind fun q1 =>
  if q1 = 0 then
    (F_X9_found (-1000001) M).bind fun q2 =>
    some (q2.1, q2.2)
  else
    (F_X9_isBetween x2 0 90).bind fun q3 =>
    if q3 = 0 then
      (F_X9_found (-1000001) M).bind fun q6 =>
      some (q6.1, q6.2)
    else
      eG (eIn x1 20) <|
      (F_X9_isBetween (((M.1 2 14) + (M.1 21 x1.toNatClampNeg)) - x2) 0 900).bind fun q4 =>
      if q4 = 0 then
        (F_X9_found (-1000007) M).bind fun q5 =>
        some (q5.1, q5.2)
      else
        eG (eIn x1 20) <|
        some ((((M.1 2 14) + (M.1 21 x1.toNatClampNeg)) - x2), (eI (eI M 21 x1.toNatClampNeg x2) 2 14 (((M.1 2 14) + (M.1 21 x1.toNatClampNeg)) - x2)))
set_option maxRecDepth 100000 in
set_option maxHeartbeats 4000000 in
theorem ev_X9_hands (x1 : Int32) (x2 : Int32) (M : eMem) (q : (Int32 × eMem)) (h : F_X9_hands x1 x2 M = some q) : Ev layC 2 m_X9_hands 0 [some (.ref 0), some (.int x1), some (.int x2), none] [] M (some (.int q.1), q.2) := by
  rw [F_X9_hands] at h
  refine Ev.aload_n (pc := 0) dX9_hands_0 rfl ?_
  refine Ev.getR (pc := 1) dX9_hands_1 fl_RX9_12 lC_0 rfl ?_
  refine Ev.getR (pc := 4) dX9_hands_4 fl_RX9_130 lC_1 rfl ?_
  refine Ev.iload_n (pc := 7) dX9_hands_7 rfl ?_
  refine eBk h (fun q1 hq1 h => ?_)
  refine Ev.callV (pc := 8) (as := [.int x1]) (st := []) (z := 0) dX9_hands_8 wc_X5_has ml_RX9_143 im_X5_has se_X5_has lC_12 rfl rfl (ev_X5_has x1 M _ hq1) rfl rfl (by decide) rfl rfl (Nat.le_of_ble_eq_true rfl) ?_
  refine Ev.if_eq (pc := 11) (tgt := 24) dX9_hands_11 (by decide) (fun c9 => ?_) (fun c9 => ?_)
  · have h := eT h c9
    refine Ev.aload_n (pc := 24) dX9_hands_24 rfl ?_
    refine Ev.ldc (pc := 25) dX9_hands_25 ld_RX9_41 ?_
    refine eBk h (fun q2 hq2 h => ?_)
    refine Ev.callV (pc := 27) (as := [.int (-1000001)]) (st := []) (z := 1) dX9_hands_27 wc_X9_found ml_RX9_42 im_X9_found se_X9_found lC_0 rfl rfl (ev_X9_found (-1000001) M _ hq2) rfl rfl (by decide) rfl rfl (Nat.le_of_ble_eq_true rfl) ?_
    obtain rfl := Option.some.inj h
    exact Ev.iret (pc := 30) dX9_hands_30 rfl rfl
  · have h := eF h c9
    refine Ev.iload_n (pc := 14) dX9_hands_14 rfl ?_
    refine Ev.iconst (pc := 15) dX9_hands_15 (v := 0) (by decide) ?_
    refine Ev.bipush (pc := 16) dX9_hands_16 (v := 90) (by decide) ?_
    refine eBk h (fun q3 hq3 h => ?_)
    refine Ev.callS (pc := 18) (as := [.int x2, .int 0, .int 90]) (st := []) (z := 0) dX9_hands_18 wc_X9_isBetween ml_RX9_55 sm_X9_isBetween (ev_X9_isBetween x2 0 90 M _ hq3) rfl rfl (by decide) rfl rfl (Nat.le_of_ble_eq_true rfl) ?_
    refine Ev.if_ne (pc := 21) (tgt := 31) dX9_hands_21 (by decide) (fun c9 => ?_) (fun c9 => ?_)
    · have h := eF h c9
      refine Ev.aload_n (pc := 31) dX9_hands_31 rfl ?_
      refine Ev.getR (pc := 32) dX9_hands_32 fl_RX9_12 lC_0 rfl ?_
      refine Ev.getR (pc := 35) dX9_hands_35 fl_RX9_46 lC_1 rfl ?_
      refine Ev.getI (pc := 38) dX9_hands_38 fl_RX9_115 lC_2 rfl ?_
      refine Ev.aload_n (pc := 41) dX9_hands_41 rfl ?_
      refine Ev.getR (pc := 42) dX9_hands_42 fl_RX9_12 lC_0 rfl ?_
      refine Ev.getR (pc := 45) dX9_hands_45 fl_RX9_130 lC_1 rfl ?_
      refine Ev.getR (pc := 48) dX9_hands_48 fl_RX9_165 lC_12 rfl ?_
      refine Ev.iload_n (pc := 51) dX9_hands_51 rfl ?_
      obtain ⟨g9, h⟩ := eGdB h
      refine Ev.ialdj (pc := 52) dX9_hands_52 (j := x1.toNatClampNeg) lC_21 g9 rfl ?_
      refine Ev.iadd (pc := 53) dX9_hands_53 ?_
      refine Ev.iload_n (pc := 54) dX9_hands_54 rfl ?_
      refine Ev.isub (pc := 55) dX9_hands_55 ?_
      refine Ev.istore_n (pc := 56) dX9_hands_56 (by decide) rfl rfl ?_
      refine Ev.iload_n (pc := 57) dX9_hands_57 rfl ?_
      refine Ev.iconst (pc := 58) dX9_hands_58 (v := 0) (by decide) ?_
      refine Ev.sipush (pc := 59) dX9_hands_59 (v := 900) (by decide) ?_
      refine eBk h (fun q4 hq4 h => ?_)
      refine Ev.callS (pc := 62) (as := [.int (((M.1 2 14) + (M.1 21 x1.toNatClampNeg)) - x2), .int 0, .int 900]) (st := []) (z := 0) dX9_hands_62 wc_X9_isBetween ml_RX9_55 sm_X9_isBetween (ev_X9_isBetween (((M.1 2 14) + (M.1 21 x1.toNatClampNeg)) - x2) 0 900 M _ hq4) rfl rfl (by decide) rfl rfl (Nat.le_of_ble_eq_true rfl) ?_
      refine Ev.if_ne (pc := 65) (tgt := 75) dX9_hands_65 (by decide) (fun c9 => ?_) (fun c9 => ?_)
      · have h := eF h c9
        refine Ev.aload_n (pc := 75) dX9_hands_75 rfl ?_
        refine Ev.getR (pc := 76) dX9_hands_76 fl_RX9_12 lC_0 rfl ?_
        refine Ev.getR (pc := 79) dX9_hands_79 fl_RX9_130 lC_1 rfl ?_
        refine Ev.getR (pc := 82) dX9_hands_82 fl_RX9_165 lC_12 rfl ?_
        refine Ev.iload_n (pc := 85) dX9_hands_85 rfl ?_
        refine Ev.iload_n (pc := 86) dX9_hands_86 rfl ?_
        obtain ⟨g9, h⟩ := eGdB h
        refine Ev.iastj (pc := 87) dX9_hands_87 (j := x1.toNatClampNeg) lC_21 g9 rfl ?_
        refine Ev.aload_n (pc := 88) dX9_hands_88 rfl ?_
        refine Ev.getR (pc := 89) dX9_hands_89 fl_RX9_12 lC_0 rfl ?_
        refine Ev.getR (pc := 92) dX9_hands_92 fl_RX9_46 lC_1 rfl ?_
        refine Ev.iload_n (pc := 95) dX9_hands_95 rfl ?_
        refine Ev.putI (pc := 96) dX9_hands_96 fp_RX9_115 lC_2 rfl rfl rfl ?_
        refine Ev.iload_n (pc := 99) dX9_hands_99 rfl ?_
        obtain rfl := Option.some.inj h
        exact Ev.iret (pc := 100) dX9_hands_100 rfl rfl
      · have h := eT h c9
        refine Ev.aload_n (pc := 68) dX9_hands_68 rfl ?_
        refine Ev.ldc (pc := 69) dX9_hands_69 ld_RX9_192 ?_
        refine eBk h (fun q5 hq5 h => ?_)
        refine Ev.callV (pc := 71) (as := [.int (-1000007)]) (st := []) (z := 1) dX9_hands_71 wc_X9_found ml_RX9_42 im_X9_found se_X9_found lC_0 rfl rfl (ev_X9_found (-1000007) M _ hq5) rfl rfl (by decide) rfl rfl (Nat.le_of_ble_eq_true rfl) ?_
        obtain rfl := Option.some.inj h
        exact Ev.iret (pc := 74) dX9_hands_74 rfl rfl
    · have h := eT h c9
      refine Ev.aload_n (pc := 24) dX9_hands_24 rfl ?_
      refine Ev.ldc (pc := 25) dX9_hands_25 ld_RX9_41 ?_
      refine eBk h (fun q6 hq6 h => ?_)
      refine Ev.callV (pc := 27) (as := [.int (-1000001)]) (st := []) (z := 1) dX9_hands_27 wc_X9_found ml_RX9_42 im_X9_found se_X9_found lC_0 rfl rfl (ev_X9_found (-1000001) M _ hq6) rfl rfl (by decide) rfl rfl (Nat.le_of_ble_eq_true rfl) ?_
      obtain rfl := Option.some.inj h
      exact Ev.iret (pc := 30) dX9_hands_30 rfl rfl
theorem dX10_hands_0 : decode cX10_hands 0 = .ok (.aload_n 0, 1) := by decide +kernel
theorem dX10_hands_1 : decode cX10_hands 1 = .ok (.iload_n 1, 1) := by decide +kernel
theorem dX10_hands_2 : decode cX10_hands 2 = .ok (.invokevirtual 109, 3) := by decide +kernel
theorem dX10_hands_5 : decode cX10_hands 5 = .ok (.ifCond .eq 13, 3) := by decide +kernel
theorem dX10_hands_8 : decode cX10_hands 8 = .ok (.iload_n 2, 1) := by decide +kernel
theorem dX10_hands_9 : decode cX10_hands 9 = .ok (.iconst 0, 1) := by decide +kernel
theorem dX10_hands_10 : decode cX10_hands 10 = .ok (.bipush 90, 2) := by decide +kernel
theorem dX10_hands_12 : decode cX10_hands 12 = .ok (.invokestatic 58, 3) := by decide +kernel
theorem dX10_hands_15 : decode cX10_hands 15 = .ok (.ifCond .ne 9, 3) := by decide +kernel
theorem dX10_hands_18 : decode cX10_hands 18 = .ok (.aload_n 0, 1) := by decide +kernel
theorem dX10_hands_19 : decode cX10_hands 19 = .ok (.iconst 1, 1) := by decide +kernel
theorem dX10_hands_20 : decode cX10_hands 20 = .ok (.invokevirtual 66, 3) := by decide +kernel
theorem dX10_hands_23 : decode cX10_hands 23 = .ok (.ireturn, 1) := by decide +kernel
theorem dX10_hands_24 : decode cX10_hands 24 = .ok (.aload_n 0, 1) := by decide +kernel
theorem dX10_hands_25 : decode cX10_hands 25 = .ok (.getfield 7, 3) := by decide +kernel
theorem dX10_hands_28 : decode cX10_hands 28 = .ok (.iconst 3, 1) := by decide +kernel
theorem dX10_hands_29 : decode cX10_hands 29 = .ok (.iaload, 1) := by decide +kernel
theorem dX10_hands_30 : decode cX10_hands 30 = .ok (.aload_n 0, 1) := by decide +kernel
theorem dX10_hands_31 : decode cX10_hands 31 = .ok (.iload_n 1, 1) := by decide +kernel
theorem dX10_hands_32 : decode cX10_hands 32 = .ok (.bipush 8, 2) := by decide +kernel
theorem dX10_hands_34 : decode cX10_hands 34 = .ok (.invokevirtual 77, 3) := by decide +kernel
theorem dX10_hands_37 : decode cX10_hands 37 = .ok (.iadd, 1) := by decide +kernel
theorem dX10_hands_38 : decode cX10_hands 38 = .ok (.iload_n 2, 1) := by decide +kernel
theorem dX10_hands_39 : decode cX10_hands 39 = .ok (.isub, 1) := by decide +kernel
theorem dX10_hands_40 : decode cX10_hands 40 = .ok (.istore_n 3, 1) := by decide +kernel
theorem dX10_hands_41 : decode cX10_hands 41 = .ok (.iload_n 3, 1) := by decide +kernel
theorem dX10_hands_42 : decode cX10_hands 42 = .ok (.iconst 0, 1) := by decide +kernel
theorem dX10_hands_43 : decode cX10_hands 43 = .ok (.sipush 900, 3) := by decide +kernel
theorem dX10_hands_46 : decode cX10_hands 46 = .ok (.invokestatic 58, 3) := by decide +kernel
theorem dX10_hands_49 : decode cX10_hands 49 = .ok (.ifCond .ne 10, 3) := by decide +kernel
theorem dX10_hands_52 : decode cX10_hands 52 = .ok (.aload_n 0, 1) := by decide +kernel
theorem dX10_hands_53 : decode cX10_hands 53 = .ok (.bipush 7, 2) := by decide +kernel
theorem dX10_hands_55 : decode cX10_hands 55 = .ok (.invokevirtual 66, 3) := by decide +kernel
theorem dX10_hands_58 : decode cX10_hands 58 = .ok (.ireturn, 1) := by decide +kernel
theorem dX10_hands_59 : decode cX10_hands 59 = .ok (.aload_n 0, 1) := by decide +kernel
theorem dX10_hands_60 : decode cX10_hands 60 = .ok (.getfield 7, 3) := by decide +kernel
theorem dX10_hands_63 : decode cX10_hands 63 = .ok (.iconst 3, 1) := by decide +kernel
theorem dX10_hands_64 : decode cX10_hands 64 = .ok (.iload_n 3, 1) := by decide +kernel
theorem dX10_hands_65 : decode cX10_hands 65 = .ok (.iastore, 1) := by decide +kernel
theorem dX10_hands_66 : decode cX10_hands 66 = .ok (.aload_n 0, 1) := by decide +kernel
theorem dX10_hands_67 : decode cX10_hands 67 = .ok (.iload_n 1, 1) := by decide +kernel
theorem dX10_hands_68 : decode cX10_hands 68 = .ok (.bipush 8, 2) := by decide +kernel
theorem dX10_hands_70 : decode cX10_hands 70 = .ok (.iload_n 2, 1) := by decide +kernel
theorem dX10_hands_71 : decode cX10_hands 71 = .ok (.invokevirtual 105, 3) := by decide +kernel
theorem dX10_hands_74 : decode cX10_hands 74 = .ok (.iload_n 3, 1) := by decide +kernel
theorem dX10_hands_75 : decode cX10_hands 75 = .ok (.ireturn, 1) := by decide +kernel
def F_X10_hands (x1 : Int32) (x2 : Int32) (M : eMem) : Option (Int32 × eMem) :=
  (F_X10_isShow x1 M).bind fun q1 =>
  if q1 = 0 then
    (F_X10_finding 1 M).bind fun q2 =>
    some (q2.1, q2.2)
  else
    (F_X10_in x2 0 90).bind fun q3 =>
    if q3 = 0 then
      (F_X10_finding 1 M).bind fun q8 =>
      some (q8.1, q8.2)
    else
      (F_X10_show x1 8 M).bind fun q4 =>
      (F_X10_in (((M.1 1 3) + q4) - x2) 0 900).bind fun q5 =>
      if q5 = 0 then
        (F_X10_finding 7 M).bind fun q7 =>
        some (q7.1, q7.2)
      else
        (F_X10_setShow x1 8 x2 (eI M 1 3 (((M.1 1 3) + q4) - x2))).bind fun q6 =>
        some ((((M.1 1 3) + q4) - x2), q6)
set_option maxRecDepth 100000 in
set_option maxHeartbeats 4000000 in
theorem ev_X10_hands (x1 : Int32) (x2 : Int32) (M : eMem) (q : (Int32 × eMem)) (h : F_X10_hands x1 x2 M = some q) : Ev layR 2 m_X10_hands 0 [some (.ref 0), some (.int x1), some (.int x2), none] [] M (some (.int q.1), q.2) := by
  rw [F_X10_hands] at h
  refine Ev.aload_n (pc := 0) dX10_hands_0 rfl ?_
  refine Ev.iload_n (pc := 1) dX10_hands_1 rfl ?_
  refine eBk h (fun q1 hq1 h => ?_)
  refine Ev.callV (pc := 2) (as := [.int x1]) (st := []) (z := 0) dX10_hands_2 wc_X10_isShow ml_RX10_109 im_X10_isShow se_X10_isShow lR_0 rfl rfl (ev_X10_isShow x1 M _ hq1) rfl rfl (by decide) rfl rfl (Nat.le_of_ble_eq_true rfl) ?_
  refine Ev.if_eq (pc := 5) (tgt := 18) dX10_hands_5 (by decide) (fun c9 => ?_) (fun c9 => ?_)
  · have h := eT h c9
    refine Ev.aload_n (pc := 18) dX10_hands_18 rfl ?_
    refine Ev.iconst (pc := 19) dX10_hands_19 (v := 1) (by decide) ?_
    refine eBk h (fun q2 hq2 h => ?_)
    refine Ev.callV (pc := 20) (as := [.int 1]) (st := []) (z := 0) dX10_hands_20 wc_X10_finding ml_RX10_66 im_X10_finding se_X10_finding lR_0 rfl rfl (ev_X10_finding 1 M _ hq2) rfl rfl (by decide) rfl rfl (Nat.le_of_ble_eq_true rfl) ?_
    obtain rfl := Option.some.inj h
    exact Ev.iret (pc := 23) dX10_hands_23 rfl rfl
  · have h := eF h c9
    refine Ev.iload_n (pc := 8) dX10_hands_8 rfl ?_
    refine Ev.iconst (pc := 9) dX10_hands_9 (v := 0) (by decide) ?_
    refine Ev.bipush (pc := 10) dX10_hands_10 (v := 90) (by decide) ?_
    refine eBk h (fun q3 hq3 h => ?_)
    refine Ev.callS (pc := 12) (as := [.int x2, .int 0, .int 90]) (st := []) (z := 0) dX10_hands_12 wc_X10_in ml_RX10_58 sm_X10_in (ev_X10_in x2 0 90 M _ hq3) rfl rfl (by decide) rfl rfl (Nat.le_of_ble_eq_true rfl) ?_
    refine Ev.if_ne (pc := 15) (tgt := 24) dX10_hands_15 (by decide) (fun c9 => ?_) (fun c9 => ?_)
    · have h := eF h c9
      refine Ev.aload_n (pc := 24) dX10_hands_24 rfl ?_
      refine Ev.getR (pc := 25) dX10_hands_25 fl_RX10_7 lR_0 rfl ?_
      refine Ev.iconst (pc := 28) dX10_hands_28 (v := 3) (by decide) ?_
      refine Ev.ialdj (pc := 29) dX10_hands_29 (j := 3) lR_1 (by decide) (by decide) ?_
      refine Ev.aload_n (pc := 30) dX10_hands_30 rfl ?_
      refine Ev.iload_n (pc := 31) dX10_hands_31 rfl ?_
      refine Ev.bipush (pc := 32) dX10_hands_32 (v := 8) (by decide) ?_
      refine eBk h (fun q4 hq4 h => ?_)
      refine Ev.callV (pc := 34) (as := [.int x1, .int 8]) (st := [.int (M.1 1 3)]) (z := 0) dX10_hands_34 wc_X10_show ml_RX10_77 im_X10_show se_X10_show lR_0 rfl rfl (ev_X10_show x1 8 M _ hq4) rfl rfl (by decide) rfl rfl (Nat.le_of_ble_eq_true rfl) ?_
      refine Ev.iadd (pc := 37) dX10_hands_37 ?_
      refine Ev.iload_n (pc := 38) dX10_hands_38 rfl ?_
      refine Ev.isub (pc := 39) dX10_hands_39 ?_
      refine Ev.istore_n (pc := 40) dX10_hands_40 (by decide) rfl rfl ?_
      refine Ev.iload_n (pc := 41) dX10_hands_41 rfl ?_
      refine Ev.iconst (pc := 42) dX10_hands_42 (v := 0) (by decide) ?_
      refine Ev.sipush (pc := 43) dX10_hands_43 (v := 900) (by decide) ?_
      refine eBk h (fun q5 hq5 h => ?_)
      refine Ev.callS (pc := 46) (as := [.int (((M.1 1 3) + q4) - x2), .int 0, .int 900]) (st := []) (z := 0) dX10_hands_46 wc_X10_in ml_RX10_58 sm_X10_in (ev_X10_in (((M.1 1 3) + q4) - x2) 0 900 M _ hq5) rfl rfl (by decide) rfl rfl (Nat.le_of_ble_eq_true rfl) ?_
      refine Ev.if_ne (pc := 49) (tgt := 59) dX10_hands_49 (by decide) (fun c9 => ?_) (fun c9 => ?_)
      · have h := eF h c9
        refine Ev.aload_n (pc := 59) dX10_hands_59 rfl ?_
        refine Ev.getR (pc := 60) dX10_hands_60 fl_RX10_7 lR_0 rfl ?_
        refine Ev.iconst (pc := 63) dX10_hands_63 (v := 3) (by decide) ?_
        refine Ev.iload_n (pc := 64) dX10_hands_64 rfl ?_
        refine Ev.iastj (pc := 65) dX10_hands_65 (j := 3) lR_1 (by decide) (by decide) ?_
        refine Ev.aload_n (pc := 66) dX10_hands_66 rfl ?_
        refine Ev.iload_n (pc := 67) dX10_hands_67 rfl ?_
        refine Ev.bipush (pc := 68) dX10_hands_68 (v := 8) (by decide) ?_
        refine Ev.iload_n (pc := 70) dX10_hands_70 rfl ?_
        refine eBk h (fun q6 hq6 h => ?_)
        refine Ev.callV (pc := 71) (as := [.int x1, .int 8, .int x2]) (st := []) (z := 0) dX10_hands_71 wc_X10_setShow ml_RX10_105 im_X10_setShow se_X10_setShow lR_0 rfl rfl (ev_X10_setShow x1 8 x2 (eI M 1 3 (((M.1 1 3) + q4) - x2)) _ hq6) rfl rfl (by decide) rfl rfl (Nat.le_of_ble_eq_true rfl) ?_
        refine Ev.iload_n (pc := 74) dX10_hands_74 rfl ?_
        obtain rfl := Option.some.inj h
        exact Ev.iret (pc := 75) dX10_hands_75 rfl rfl
      · have h := eT h c9
        refine Ev.aload_n (pc := 52) dX10_hands_52 rfl ?_
        refine Ev.bipush (pc := 53) dX10_hands_53 (v := 7) (by decide) ?_
        refine eBk h (fun q7 hq7 h => ?_)
        refine Ev.callV (pc := 55) (as := [.int 7]) (st := []) (z := 0) dX10_hands_55 wc_X10_finding ml_RX10_66 im_X10_finding se_X10_finding lR_0 rfl rfl (ev_X10_finding 7 M _ hq7) rfl rfl (by decide) rfl rfl (Nat.le_of_ble_eq_true rfl) ?_
        obtain rfl := Option.some.inj h
        exact Ev.iret (pc := 58) dX10_hands_58 rfl rfl
    · have h := eT h c9
      refine Ev.aload_n (pc := 18) dX10_hands_18 rfl ?_
      refine Ev.iconst (pc := 19) dX10_hands_19 (v := 1) (by decide) ?_
      refine eBk h (fun q8 hq8 h => ?_)
      refine Ev.callV (pc := 20) (as := [.int 1]) (st := []) (z := 0) dX10_hands_20 wc_X10_finding ml_RX10_66 im_X10_finding se_X10_finding lR_0 rfl rfl (ev_X10_finding 1 M _ hq8) rfl rfl (by decide) rfl rfl (Nat.le_of_ble_eq_true rfl) ?_
      obtain rfl := Option.some.inj h
      exact Ev.iret (pc := 23) dX10_hands_23 rfl rfl
theorem dX9_mend_0 : decode cX9_mend 0 = .ok (.aload_n 0, 1) := by decide +kernel
theorem dX9_mend_1 : decode cX9_mend 1 = .ok (.getfield 12, 3) := by decide +kernel
theorem dX9_mend_4 : decode cX9_mend 4 = .ok (.getfield 130, 3) := by decide +kernel
theorem dX9_mend_7 : decode cX9_mend 7 = .ok (.astore_n 2, 1) := by decide +kernel
theorem dX9_mend_8 : decode cX9_mend 8 = .ok (.aload_n 2, 1) := by decide +kernel
theorem dX9_mend_9 : decode cX9_mend 9 = .ok (.iload_n 1, 1) := by decide +kernel
theorem dX9_mend_10 : decode cX9_mend 10 = .ok (.invokevirtual 143, 3) := by decide +kernel
theorem dX9_mend_13 : decode cX9_mend 13 = .ok (.ifCond .ne 10, 3) := by decide +kernel
theorem dX9_mend_16 : decode cX9_mend 16 = .ok (.aload_n 0, 1) := by decide +kernel
theorem dX9_mend_17 : decode cX9_mend 17 = .ok (.ldc 41, 2) := by decide +kernel
theorem dX9_mend_19 : decode cX9_mend 19 = .ok (.invokevirtual 42, 3) := by decide +kernel
theorem dX9_mend_22 : decode cX9_mend 22 = .ok (.ireturn, 1) := by decide +kernel
theorem dX9_mend_23 : decode cX9_mend 23 = .ok (.aload_n 2, 1) := by decide +kernel
theorem dX9_mend_24 : decode cX9_mend 24 = .ok (.getfield 162, 3) := by decide +kernel
theorem dX9_mend_27 : decode cX9_mend 27 = .ok (.iload_n 1, 1) := by decide +kernel
theorem dX9_mend_28 : decode cX9_mend 28 = .ok (.baload, 1) := by decide +kernel
theorem dX9_mend_29 : decode cX9_mend 29 = .ok (.ifCond .ne 10, 3) := by decide +kernel
theorem dX9_mend_32 : decode cX9_mend 32 = .ok (.aload_n 0, 1) := by decide +kernel
theorem dX9_mend_33 : decode cX9_mend 33 = .ok (.ldc 82, 2) := by decide +kernel
theorem dX9_mend_35 : decode cX9_mend 35 = .ok (.invokevirtual 42, 3) := by decide +kernel
theorem dX9_mend_38 : decode cX9_mend 38 = .ok (.ireturn, 1) := by decide +kernel
theorem dX9_mend_39 : decode cX9_mend 39 = .ok (.aload_n 2, 1) := by decide +kernel
theorem dX9_mend_40 : decode cX9_mend 40 = .ok (.getfield 165, 3) := by decide +kernel
theorem dX9_mend_43 : decode cX9_mend 43 = .ok (.iload_n 1, 1) := by decide +kernel
theorem dX9_mend_44 : decode cX9_mend 44 = .ok (.iaload, 1) := by decide +kernel
theorem dX9_mend_45 : decode cX9_mend 45 = .ok (.iconst 1, 1) := by decide +kernel
theorem dX9_mend_46 : decode cX9_mend 46 = .ok (.if_icmp .ge 10, 3) := by decide +kernel
theorem dX9_mend_49 : decode cX9_mend 49 = .ok (.aload_n 0, 1) := by decide +kernel
theorem dX9_mend_50 : decode cX9_mend 50 = .ok (.ldc 192, 2) := by decide +kernel
theorem dX9_mend_52 : decode cX9_mend 52 = .ok (.invokevirtual 42, 3) := by decide +kernel
theorem dX9_mend_55 : decode cX9_mend 55 = .ok (.ireturn, 1) := by decide +kernel
theorem dX9_mend_56 : decode cX9_mend 56 = .ok (.aload_n 2, 1) := by decide +kernel
theorem dX9_mend_57 : decode cX9_mend 57 = .ok (.getfield 162, 3) := by decide +kernel
theorem dX9_mend_60 : decode cX9_mend 60 = .ok (.iload_n 1, 1) := by decide +kernel
theorem dX9_mend_61 : decode cX9_mend 61 = .ok (.iconst 0, 1) := by decide +kernel
theorem dX9_mend_62 : decode cX9_mend 62 = .ok (.bastore, 1) := by decide +kernel
theorem dX9_mend_63 : decode cX9_mend 63 = .ok (.aload_n 2, 1) := by decide +kernel
theorem dX9_mend_64 : decode cX9_mend 64 = .ok (.getfield 165, 3) := by decide +kernel
theorem dX9_mend_67 : decode cX9_mend 67 = .ok (.iload_n 1, 1) := by decide +kernel
theorem dX9_mend_68 : decode cX9_mend 68 = .ok (.dup2, 1) := by decide +kernel
theorem dX9_mend_69 : decode cX9_mend 69 = .ok (.iaload, 1) := by decide +kernel
theorem dX9_mend_70 : decode cX9_mend 70 = .ok (.iconst 1, 1) := by decide +kernel
theorem dX9_mend_71 : decode cX9_mend 71 = .ok (.isub, 1) := by decide +kernel
theorem dX9_mend_72 : decode cX9_mend 72 = .ok (.iastore, 1) := by decide +kernel
theorem dX9_mend_73 : decode cX9_mend 73 = .ok (.aload_n 2, 1) := by decide +kernel
theorem dX9_mend_74 : decode cX9_mend 74 = .ok (.getfield 165, 3) := by decide +kernel
theorem dX9_mend_77 : decode cX9_mend 77 = .ok (.iload_n 1, 1) := by decide +kernel
theorem dX9_mend_78 : decode cX9_mend 78 = .ok (.iaload, 1) := by decide +kernel
theorem dX9_mend_79 : decode cX9_mend 79 = .ok (.ireturn, 1) := by decide +kernel
def F_X9_mend (x1 : Int32) (M : eMem) : Option (Int32 × eMem) :=
  (F_X5_has x1 M).bind fun q1 =>
  if q1 = 0 then
    (F_X9_found (-1000001) M).bind fun q4 =>
    some (q4.1, q4.2)
  else
    eG (eIn x1 20) <|
    if (M.1 20 x1.toNatClampNeg) = 0 then
      (F_X9_found (-1000005) M).bind fun q3 =>
      some (q3.1, q3.2)
    else
      eG (eIn x1 20) <|
      if (M.1 21 x1.toNatClampNeg) < 1 then
        (F_X9_found (-1000007) M).bind fun q2 =>
        some (q2.1, q2.2)
      else
        eG (eIn x1 20) <|
        eG (eIn x1 20) <|
        eG (eIn x1 20) <|
        eG (eIn x1 20) <|
        some (((M.1 21 x1.toNatClampNeg) - 1), (eI (eI M 20 x1.toNatClampNeg (vp_nar .boolean 0)) 21 x1.toNatClampNeg ((M.1 21 x1.toNatClampNeg) - 1)))
set_option maxRecDepth 100000 in
set_option maxHeartbeats 4000000 in
theorem ev_X9_mend (x1 : Int32) (M : eMem) (q : (Int32 × eMem)) (h : F_X9_mend x1 M = some q) : Ev layC 2 m_X9_mend 0 [some (.ref 0), some (.int x1), none] [] M (some (.int q.1), q.2) := by
  rw [F_X9_mend] at h
  refine Ev.aload_n (pc := 0) dX9_mend_0 rfl ?_
  refine Ev.getR (pc := 1) dX9_mend_1 fl_RX9_12 lC_0 rfl ?_
  refine Ev.getR (pc := 4) dX9_mend_4 fl_RX9_130 lC_1 rfl ?_
  refine Ev.astore_n (pc := 7) dX9_mend_7 (by decide) rfl rfl ?_
  refine Ev.aload_n (pc := 8) dX9_mend_8 rfl ?_
  refine Ev.iload_n (pc := 9) dX9_mend_9 rfl ?_
  refine eBk h (fun q1 hq1 h => ?_)
  refine Ev.callV (pc := 10) (as := [.int x1]) (st := []) (z := 0) dX9_mend_10 wc_X5_has ml_RX9_143 im_X5_has se_X5_has lC_12 rfl rfl (ev_X5_has x1 M _ hq1) rfl rfl (by decide) rfl rfl (Nat.le_of_ble_eq_true rfl) ?_
  refine Ev.if_ne (pc := 13) (tgt := 23) dX9_mend_13 (by decide) (fun c9 => ?_) (fun c9 => ?_)
  · have h := eF h c9
    refine Ev.aload_n (pc := 23) dX9_mend_23 rfl ?_
    refine Ev.getR (pc := 24) dX9_mend_24 fl_RX9_162 lC_12 rfl ?_
    refine Ev.iload_n (pc := 27) dX9_mend_27 rfl ?_
    obtain ⟨g9, h⟩ := eGdB h
    refine Ev.zaldj (pc := 28) dX9_mend_28 (j := x1.toNatClampNeg) lC_20 g9 rfl ?_
    refine Ev.if_ne (pc := 29) (tgt := 39) dX9_mend_29 (by decide) (fun c9 => ?_) (fun c9 => ?_)
    · have h := eF h c9
      refine Ev.aload_n (pc := 39) dX9_mend_39 rfl ?_
      refine Ev.getR (pc := 40) dX9_mend_40 fl_RX9_165 lC_12 rfl ?_
      refine Ev.iload_n (pc := 43) dX9_mend_43 rfl ?_
      obtain ⟨g9, h⟩ := eGdB h
      refine Ev.ialdj (pc := 44) dX9_mend_44 (j := x1.toNatClampNeg) lC_21 g9 rfl ?_
      refine Ev.iconst (pc := 45) dX9_mend_45 (v := 1) (by decide) ?_
      refine Ev.icmp_ge (pc := 46) (tgt := 56) dX9_mend_46 (by decide) (fun c9 => ?_) (fun c9 => ?_)
      · have h := eF h c9
        refine Ev.aload_n (pc := 56) dX9_mend_56 rfl ?_
        refine Ev.getR (pc := 57) dX9_mend_57 fl_RX9_162 lC_12 rfl ?_
        refine Ev.iload_n (pc := 60) dX9_mend_60 rfl ?_
        refine Ev.iconst (pc := 61) dX9_mend_61 (v := 0) (by decide) ?_
        obtain ⟨g9, h⟩ := eGdB h
        refine Ev.zastj (pc := 62) dX9_mend_62 (j := x1.toNatClampNeg) lC_20 g9 rfl ?_
        refine Ev.aload_n (pc := 63) dX9_mend_63 rfl ?_
        refine Ev.getR (pc := 64) dX9_mend_64 fl_RX9_165 lC_12 rfl ?_
        refine Ev.iload_n (pc := 67) dX9_mend_67 rfl ?_
        refine Ev.dup2 (pc := 68) dX9_mend_68 rfl rfl ?_
        obtain ⟨g9, h⟩ := eGdB h
        refine Ev.ialdv (pc := 69) dX9_mend_69 (v := (M.1 21 x1.toNatClampNeg)) (j := x1.toNatClampNeg) lC_21 g9 rfl (eI_n (by decide)) ?_
        refine Ev.iconst (pc := 70) dX9_mend_70 (v := 1) (by decide) ?_
        refine Ev.isub (pc := 71) dX9_mend_71 ?_
        obtain ⟨g9, h⟩ := eGdB h
        refine Ev.iastj (pc := 72) dX9_mend_72 (j := x1.toNatClampNeg) lC_21 g9 rfl ?_
        refine Ev.aload_n (pc := 73) dX9_mend_73 rfl ?_
        refine Ev.getR (pc := 74) dX9_mend_74 fl_RX9_165 lC_12 rfl ?_
        refine Ev.iload_n (pc := 77) dX9_mend_77 rfl ?_
        obtain ⟨g9, h⟩ := eGdB h
        refine Ev.ialdv (pc := 78) dX9_mend_78 (v := ((M.1 21 x1.toNatClampNeg) - 1)) (j := x1.toNatClampNeg) lC_21 g9 rfl eI_e ?_
        obtain rfl := Option.some.inj h
        exact Ev.iret (pc := 79) dX9_mend_79 rfl rfl
      · have h := eT h c9
        refine Ev.aload_n (pc := 49) dX9_mend_49 rfl ?_
        refine Ev.ldc (pc := 50) dX9_mend_50 ld_RX9_192 ?_
        refine eBk h (fun q2 hq2 h => ?_)
        refine Ev.callV (pc := 52) (as := [.int (-1000007)]) (st := []) (z := 1) dX9_mend_52 wc_X9_found ml_RX9_42 im_X9_found se_X9_found lC_0 rfl rfl (ev_X9_found (-1000007) M _ hq2) rfl rfl (by decide) rfl rfl (Nat.le_of_ble_eq_true rfl) ?_
        obtain rfl := Option.some.inj h
        exact Ev.iret (pc := 55) dX9_mend_55 rfl rfl
    · have h := eT h c9
      refine Ev.aload_n (pc := 32) dX9_mend_32 rfl ?_
      refine Ev.ldc (pc := 33) dX9_mend_33 ld_RX9_82 ?_
      refine eBk h (fun q3 hq3 h => ?_)
      refine Ev.callV (pc := 35) (as := [.int (-1000005)]) (st := []) (z := 1) dX9_mend_35 wc_X9_found ml_RX9_42 im_X9_found se_X9_found lC_0 rfl rfl (ev_X9_found (-1000005) M _ hq3) rfl rfl (by decide) rfl rfl (Nat.le_of_ble_eq_true rfl) ?_
      obtain rfl := Option.some.inj h
      exact Ev.iret (pc := 38) dX9_mend_38 rfl rfl
  · have h := eT h c9
    refine Ev.aload_n (pc := 16) dX9_mend_16 rfl ?_
    refine Ev.ldc (pc := 17) dX9_mend_17 ld_RX9_41 ?_
    refine eBk h (fun q4 hq4 h => ?_)
    refine Ev.callV (pc := 19) (as := [.int (-1000001)]) (st := []) (z := 1) dX9_mend_19 wc_X9_found ml_RX9_42 im_X9_found se_X9_found lC_0 rfl rfl (ev_X9_found (-1000001) M _ hq4) rfl rfl (by decide) rfl rfl (Nat.le_of_ble_eq_true rfl) ?_
    obtain rfl := Option.some.inj h
    exact Ev.iret (pc := 22) dX9_mend_22 rfl rfl
theorem dX10_mend_0 : decode cX10_mend 0 = .ok (.aload_n 0, 1) := by decide +kernel
theorem dX10_mend_1 : decode cX10_mend 1 = .ok (.iload_n 1, 1) := by decide +kernel
theorem dX10_mend_2 : decode cX10_mend 2 = .ok (.invokevirtual 109, 3) := by decide +kernel
theorem dX10_mend_5 : decode cX10_mend 5 = .ok (.ifCond .ne 9, 3) := by decide +kernel
theorem dX10_mend_8 : decode cX10_mend 8 = .ok (.aload_n 0, 1) := by decide +kernel
theorem dX10_mend_9 : decode cX10_mend 9 = .ok (.iconst 1, 1) := by decide +kernel
theorem dX10_mend_10 : decode cX10_mend 10 = .ok (.invokevirtual 66, 3) := by decide +kernel
theorem dX10_mend_13 : decode cX10_mend 13 = .ok (.ireturn, 1) := by decide +kernel
theorem dX10_mend_14 : decode cX10_mend 14 = .ok (.aload_n 0, 1) := by decide +kernel
theorem dX10_mend_15 : decode cX10_mend 15 = .ok (.iload_n 1, 1) := by decide +kernel
theorem dX10_mend_16 : decode cX10_mend 16 = .ok (.bipush 7, 2) := by decide +kernel
theorem dX10_mend_18 : decode cX10_mend 18 = .ok (.invokevirtual 77, 3) := by decide +kernel
theorem dX10_mend_21 : decode cX10_mend 21 = .ok (.ifCond .ne 9, 3) := by decide +kernel
theorem dX10_mend_24 : decode cX10_mend 24 = .ok (.aload_n 0, 1) := by decide +kernel
theorem dX10_mend_25 : decode cX10_mend 25 = .ok (.iconst 5, 1) := by decide +kernel
theorem dX10_mend_26 : decode cX10_mend 26 = .ok (.invokevirtual 66, 3) := by decide +kernel
theorem dX10_mend_29 : decode cX10_mend 29 = .ok (.ireturn, 1) := by decide +kernel
theorem dX10_mend_30 : decode cX10_mend 30 = .ok (.aload_n 0, 1) := by decide +kernel
theorem dX10_mend_31 : decode cX10_mend 31 = .ok (.iload_n 1, 1) := by decide +kernel
theorem dX10_mend_32 : decode cX10_mend 32 = .ok (.bipush 8, 2) := by decide +kernel
theorem dX10_mend_34 : decode cX10_mend 34 = .ok (.invokevirtual 77, 3) := by decide +kernel
theorem dX10_mend_37 : decode cX10_mend 37 = .ok (.ifCond .ne 10, 3) := by decide +kernel
theorem dX10_mend_40 : decode cX10_mend 40 = .ok (.aload_n 0, 1) := by decide +kernel
theorem dX10_mend_41 : decode cX10_mend 41 = .ok (.bipush 7, 2) := by decide +kernel
theorem dX10_mend_43 : decode cX10_mend 43 = .ok (.invokevirtual 66, 3) := by decide +kernel
theorem dX10_mend_46 : decode cX10_mend 46 = .ok (.ireturn, 1) := by decide +kernel
theorem dX10_mend_47 : decode cX10_mend 47 = .ok (.aload_n 0, 1) := by decide +kernel
theorem dX10_mend_48 : decode cX10_mend 48 = .ok (.iload_n 1, 1) := by decide +kernel
theorem dX10_mend_49 : decode cX10_mend 49 = .ok (.bipush 7, 2) := by decide +kernel
theorem dX10_mend_51 : decode cX10_mend 51 = .ok (.iconst 0, 1) := by decide +kernel
theorem dX10_mend_52 : decode cX10_mend 52 = .ok (.invokevirtual 105, 3) := by decide +kernel
theorem dX10_mend_55 : decode cX10_mend 55 = .ok (.aload_n 0, 1) := by decide +kernel
theorem dX10_mend_56 : decode cX10_mend 56 = .ok (.iload_n 1, 1) := by decide +kernel
theorem dX10_mend_57 : decode cX10_mend 57 = .ok (.bipush 8, 2) := by decide +kernel
theorem dX10_mend_59 : decode cX10_mend 59 = .ok (.aload_n 0, 1) := by decide +kernel
theorem dX10_mend_60 : decode cX10_mend 60 = .ok (.iload_n 1, 1) := by decide +kernel
theorem dX10_mend_61 : decode cX10_mend 61 = .ok (.bipush 8, 2) := by decide +kernel
theorem dX10_mend_63 : decode cX10_mend 63 = .ok (.invokevirtual 77, 3) := by decide +kernel
theorem dX10_mend_66 : decode cX10_mend 66 = .ok (.iconst 1, 1) := by decide +kernel
theorem dX10_mend_67 : decode cX10_mend 67 = .ok (.isub, 1) := by decide +kernel
theorem dX10_mend_68 : decode cX10_mend 68 = .ok (.invokevirtual 105, 3) := by decide +kernel
theorem dX10_mend_71 : decode cX10_mend 71 = .ok (.aload_n 0, 1) := by decide +kernel
theorem dX10_mend_72 : decode cX10_mend 72 = .ok (.iload_n 1, 1) := by decide +kernel
theorem dX10_mend_73 : decode cX10_mend 73 = .ok (.bipush 8, 2) := by decide +kernel
theorem dX10_mend_75 : decode cX10_mend 75 = .ok (.invokevirtual 77, 3) := by decide +kernel
theorem dX10_mend_78 : decode cX10_mend 78 = .ok (.ireturn, 1) := by decide +kernel
def F_X10_mend (x1 : Int32) (M : eMem) : Option (Int32 × eMem) :=
  (F_X10_isShow x1 M).bind fun q1 =>
  if q1 = 0 then
    (F_X10_finding 1 M).bind fun q10 =>
    some (q10.1, q10.2)
  else
    (F_X10_show x1 7 M).bind fun q2 =>
    if q2 = 0 then
      (F_X10_finding 5 M).bind fun q9 =>
      some (q9.1, q9.2)
    else
      (F_X10_show x1 8 M).bind fun q3 =>
      if q3 = 0 then
        (F_X10_finding 7 M).bind fun q8 =>
        some (q8.1, q8.2)
      else
        (F_X10_setShow x1 7 0 M).bind fun q4 =>
        (F_X10_show x1 8 q4).bind fun q5 =>
        (F_X10_setShow x1 8 (q5 - 1) q4).bind fun q6 =>
        (F_X10_show x1 8 q6).bind fun q7 =>
        some (q7, q6)
set_option maxRecDepth 100000 in
set_option maxHeartbeats 4000000 in
theorem ev_X10_mend (x1 : Int32) (M : eMem) (q : (Int32 × eMem)) (h : F_X10_mend x1 M = some q) : Ev layR 2 m_X10_mend 0 [some (.ref 0), some (.int x1)] [] M (some (.int q.1), q.2) := by
  rw [F_X10_mend] at h
  refine Ev.aload_n (pc := 0) dX10_mend_0 rfl ?_
  refine Ev.iload_n (pc := 1) dX10_mend_1 rfl ?_
  refine eBk h (fun q1 hq1 h => ?_)
  refine Ev.callV (pc := 2) (as := [.int x1]) (st := []) (z := 0) dX10_mend_2 wc_X10_isShow ml_RX10_109 im_X10_isShow se_X10_isShow lR_0 rfl rfl (ev_X10_isShow x1 M _ hq1) rfl rfl (by decide) rfl rfl (Nat.le_of_ble_eq_true rfl) ?_
  refine Ev.if_ne (pc := 5) (tgt := 14) dX10_mend_5 (by decide) (fun c9 => ?_) (fun c9 => ?_)
  · have h := eF h c9
    refine Ev.aload_n (pc := 14) dX10_mend_14 rfl ?_
    refine Ev.iload_n (pc := 15) dX10_mend_15 rfl ?_
    refine Ev.bipush (pc := 16) dX10_mend_16 (v := 7) (by decide) ?_
    refine eBk h (fun q2 hq2 h => ?_)
    refine Ev.callV (pc := 18) (as := [.int x1, .int 7]) (st := []) (z := 0) dX10_mend_18 wc_X10_show ml_RX10_77 im_X10_show se_X10_show lR_0 rfl rfl (ev_X10_show x1 7 M _ hq2) rfl rfl (by decide) rfl rfl (Nat.le_of_ble_eq_true rfl) ?_
    refine Ev.if_ne (pc := 21) (tgt := 30) dX10_mend_21 (by decide) (fun c9 => ?_) (fun c9 => ?_)
    · have h := eF h c9
      refine Ev.aload_n (pc := 30) dX10_mend_30 rfl ?_
      refine Ev.iload_n (pc := 31) dX10_mend_31 rfl ?_
      refine Ev.bipush (pc := 32) dX10_mend_32 (v := 8) (by decide) ?_
      refine eBk h (fun q3 hq3 h => ?_)
      refine Ev.callV (pc := 34) (as := [.int x1, .int 8]) (st := []) (z := 0) dX10_mend_34 wc_X10_show ml_RX10_77 im_X10_show se_X10_show lR_0 rfl rfl (ev_X10_show x1 8 M _ hq3) rfl rfl (by decide) rfl rfl (Nat.le_of_ble_eq_true rfl) ?_
      refine Ev.if_ne (pc := 37) (tgt := 47) dX10_mend_37 (by decide) (fun c9 => ?_) (fun c9 => ?_)
      · have h := eF h c9
        refine Ev.aload_n (pc := 47) dX10_mend_47 rfl ?_
        refine Ev.iload_n (pc := 48) dX10_mend_48 rfl ?_
        refine Ev.bipush (pc := 49) dX10_mend_49 (v := 7) (by decide) ?_
        refine Ev.iconst (pc := 51) dX10_mend_51 (v := 0) (by decide) ?_
        refine eBk h (fun q4 hq4 h => ?_)
        refine Ev.callV (pc := 52) (as := [.int x1, .int 7, .int 0]) (st := []) (z := 0) dX10_mend_52 wc_X10_setShow ml_RX10_105 im_X10_setShow se_X10_setShow lR_0 rfl rfl (ev_X10_setShow x1 7 0 M _ hq4) rfl rfl (by decide) rfl rfl (Nat.le_of_ble_eq_true rfl) ?_
        refine Ev.aload_n (pc := 55) dX10_mend_55 rfl ?_
        refine Ev.iload_n (pc := 56) dX10_mend_56 rfl ?_
        refine Ev.bipush (pc := 57) dX10_mend_57 (v := 8) (by decide) ?_
        refine Ev.aload_n (pc := 59) dX10_mend_59 rfl ?_
        refine Ev.iload_n (pc := 60) dX10_mend_60 rfl ?_
        refine Ev.bipush (pc := 61) dX10_mend_61 (v := 8) (by decide) ?_
        refine eBk h (fun q5 hq5 h => ?_)
        refine Ev.callV (pc := 63) (as := [.int x1, .int 8]) (st := [.int 8, .int x1, .ref 0]) (z := 0) dX10_mend_63 wc_X10_show ml_RX10_77 im_X10_show se_X10_show lR_0 rfl rfl (ev_X10_show x1 8 q4 _ hq5) rfl rfl (by decide) rfl rfl (Nat.le_of_ble_eq_true rfl) ?_
        refine Ev.iconst (pc := 66) dX10_mend_66 (v := 1) (by decide) ?_
        refine Ev.isub (pc := 67) dX10_mend_67 ?_
        refine eBk h (fun q6 hq6 h => ?_)
        refine Ev.callV (pc := 68) (as := [.int x1, .int 8, .int (q5 - 1)]) (st := []) (z := 0) dX10_mend_68 wc_X10_setShow ml_RX10_105 im_X10_setShow se_X10_setShow lR_0 rfl rfl (ev_X10_setShow x1 8 (q5 - 1) q4 _ hq6) rfl rfl (by decide) rfl rfl (Nat.le_of_ble_eq_true rfl) ?_
        refine Ev.aload_n (pc := 71) dX10_mend_71 rfl ?_
        refine Ev.iload_n (pc := 72) dX10_mend_72 rfl ?_
        refine Ev.bipush (pc := 73) dX10_mend_73 (v := 8) (by decide) ?_
        refine eBk h (fun q7 hq7 h => ?_)
        refine Ev.callV (pc := 75) (as := [.int x1, .int 8]) (st := []) (z := 0) dX10_mend_75 wc_X10_show ml_RX10_77 im_X10_show se_X10_show lR_0 rfl rfl (ev_X10_show x1 8 q6 _ hq7) rfl rfl (by decide) rfl rfl (Nat.le_of_ble_eq_true rfl) ?_
        obtain rfl := Option.some.inj h
        exact Ev.iret (pc := 78) dX10_mend_78 rfl rfl
      · have h := eT h c9
        refine Ev.aload_n (pc := 40) dX10_mend_40 rfl ?_
        refine Ev.bipush (pc := 41) dX10_mend_41 (v := 7) (by decide) ?_
        refine eBk h (fun q8 hq8 h => ?_)
        refine Ev.callV (pc := 43) (as := [.int 7]) (st := []) (z := 0) dX10_mend_43 wc_X10_finding ml_RX10_66 im_X10_finding se_X10_finding lR_0 rfl rfl (ev_X10_finding 7 M _ hq8) rfl rfl (by decide) rfl rfl (Nat.le_of_ble_eq_true rfl) ?_
        obtain rfl := Option.some.inj h
        exact Ev.iret (pc := 46) dX10_mend_46 rfl rfl
    · have h := eT h c9
      refine Ev.aload_n (pc := 24) dX10_mend_24 rfl ?_
      refine Ev.iconst (pc := 25) dX10_mend_25 (v := 5) (by decide) ?_
      refine eBk h (fun q9 hq9 h => ?_)
      refine Ev.callV (pc := 26) (as := [.int 5]) (st := []) (z := 0) dX10_mend_26 wc_X10_finding ml_RX10_66 im_X10_finding se_X10_finding lR_0 rfl rfl (ev_X10_finding 5 M _ hq9) rfl rfl (by decide) rfl rfl (Nat.le_of_ble_eq_true rfl) ?_
      obtain rfl := Option.some.inj h
      exact Ev.iret (pc := 29) dX10_mend_29 rfl rfl
  · have h := eT h c9
    refine Ev.aload_n (pc := 8) dX10_mend_8 rfl ?_
    refine Ev.iconst (pc := 9) dX10_mend_9 (v := 1) (by decide) ?_
    refine eBk h (fun q10 hq10 h => ?_)
    refine Ev.callV (pc := 10) (as := [.int 1]) (st := []) (z := 0) dX10_mend_10 wc_X10_finding ml_RX10_66 im_X10_finding se_X10_finding lR_0 rfl rfl (ev_X10_finding 1 M _ hq10) rfl rfl (by decide) rfl rfl (Nat.le_of_ble_eq_true rfl) ?_
    obtain rfl := Option.some.inj h
    exact Ev.iret (pc := 13) dX10_mend_13 rfl rfl
theorem dX2_addFlight_0 : decode cX2_addFlight 0 = .ok (.aload_n 0, 1) := by decide +kernel
theorem dX2_addFlight_1 : decode cX2_addFlight 1 = .ok (.getfield 27, 3) := by decide +kernel
theorem dX2_addFlight_4 : decode cX2_addFlight 4 = .ok (.bipush 30, 2) := by decide +kernel
theorem dX2_addFlight_6 : decode cX2_addFlight 6 = .ok (.invokestatic 31, 3) := by decide +kernel
theorem dX2_addFlight_9 : decode cX2_addFlight 9 = .ok (.ifCond .ne 5, 3) := by decide +kernel
theorem dX2_addFlight_12 : decode cX2_addFlight 12 = .ok (.iconst (-1), 1) := by decide +kernel
theorem dX2_addFlight_13 : decode cX2_addFlight 13 = .ok (.ireturn, 1) := by decide +kernel
theorem dX2_addFlight_14 : decode cX2_addFlight 14 = .ok (.aload_n 0, 1) := by decide +kernel
theorem dX2_addFlight_15 : decode cX2_addFlight 15 = .ok (.getfield 9, 3) := by decide +kernel
theorem dX2_addFlight_18 : decode cX2_addFlight 18 = .ok (.aload_n 0, 1) := by decide +kernel
theorem dX2_addFlight_19 : decode cX2_addFlight 19 = .ok (.getfield 27, 3) := by decide +kernel
theorem dX2_addFlight_22 : decode cX2_addFlight 22 = .ok (.iload_n 1, 1) := by decide +kernel
theorem dX2_addFlight_23 : decode cX2_addFlight 23 = .ok (.iastore, 1) := by decide +kernel
theorem dX2_addFlight_24 : decode cX2_addFlight 24 = .ok (.aload_n 0, 1) := by decide +kernel
theorem dX2_addFlight_25 : decode cX2_addFlight 25 = .ok (.getfield 15, 3) := by decide +kernel
theorem dX2_addFlight_28 : decode cX2_addFlight 28 = .ok (.aload_n 0, 1) := by decide +kernel
theorem dX2_addFlight_29 : decode cX2_addFlight 29 = .ok (.getfield 27, 3) := by decide +kernel
theorem dX2_addFlight_32 : decode cX2_addFlight 32 = .ok (.iload_n 2, 1) := by decide +kernel
theorem dX2_addFlight_33 : decode cX2_addFlight 33 = .ok (.iastore, 1) := by decide +kernel
theorem dX2_addFlight_34 : decode cX2_addFlight 34 = .ok (.aload_n 0, 1) := by decide +kernel
theorem dX2_addFlight_35 : decode cX2_addFlight 35 = .ok (.getfield 18, 3) := by decide +kernel
theorem dX2_addFlight_38 : decode cX2_addFlight 38 = .ok (.aload_n 0, 1) := by decide +kernel
theorem dX2_addFlight_39 : decode cX2_addFlight 39 = .ok (.getfield 27, 3) := by decide +kernel
theorem dX2_addFlight_42 : decode cX2_addFlight 42 = .ok (.iload_n 3, 1) := by decide +kernel
theorem dX2_addFlight_43 : decode cX2_addFlight 43 = .ok (.iastore, 1) := by decide +kernel
theorem dX2_addFlight_44 : decode cX2_addFlight 44 = .ok (.aload_n 0, 1) := by decide +kernel
theorem dX2_addFlight_45 : decode cX2_addFlight 45 = .ok (.getfield 21, 3) := by decide +kernel
theorem dX2_addFlight_48 : decode cX2_addFlight 48 = .ok (.aload_n 0, 1) := by decide +kernel
theorem dX2_addFlight_49 : decode cX2_addFlight 49 = .ok (.getfield 27, 3) := by decide +kernel
theorem dX2_addFlight_52 : decode cX2_addFlight 52 = .ok (.iload 4, 2) := by decide +kernel
theorem dX2_addFlight_54 : decode cX2_addFlight 54 = .ok (.iastore, 1) := by decide +kernel
theorem dX2_addFlight_55 : decode cX2_addFlight 55 = .ok (.aload_n 0, 1) := by decide +kernel
theorem dX2_addFlight_56 : decode cX2_addFlight 56 = .ok (.dup, 1) := by decide +kernel
theorem dX2_addFlight_57 : decode cX2_addFlight 57 = .ok (.getfield 27, 3) := by decide +kernel
theorem dX2_addFlight_60 : decode cX2_addFlight 60 = .ok (.dup_x1, 1) := by decide +kernel
theorem dX2_addFlight_61 : decode cX2_addFlight 61 = .ok (.iconst 1, 1) := by decide +kernel
theorem dX2_addFlight_62 : decode cX2_addFlight 62 = .ok (.iadd, 1) := by decide +kernel
theorem dX2_addFlight_63 : decode cX2_addFlight 63 = .ok (.putfield 27, 3) := by decide +kernel
theorem dX2_addFlight_66 : decode cX2_addFlight 66 = .ok (.ireturn, 1) := by decide +kernel
def F_X2_addFlight (x1 : Int32) (x2 : Int32) (x3 : Int32) (x4 : Int32) (M : eMem) : Option (Int32 × eMem) :=
  (F_X9_isIn (M.1 23 4) 30).bind fun q1 =>
  if q1 = 0 then
    some ((-1), M)
  else
    eG (eIn (M.1 23 4) 30) <|
    eG (eIn (M.1 23 4) 30) <|
    eG (eIn (M.1 23 4) 30) <|
    eG (eIn (M.1 23 4) 30) <|
    some ((M.1 23 4), (eI (eI (eI (eI (eI M 24 (M.1 23 4).toNatClampNeg x1) 25 (M.1 23 4).toNatClampNeg x2) 26 (M.1 23 4).toNatClampNeg x3) 27 (M.1 23 4).toNatClampNeg x4) 23 4 ((M.1 23 4) + 1)))
set_option maxRecDepth 100000 in
set_option maxHeartbeats 4000000 in
theorem ev_X2_addFlight (x1 : Int32) (x2 : Int32) (x3 : Int32) (x4 : Int32) (M : eMem) (q : (Int32 × eMem)) (h : F_X2_addFlight x1 x2 x3 x4 M = some q) : Ev layC 1 m_X2_addFlight 0 [some (.ref 23), some (.int x1), some (.int x2), some (.int x3), some (.int x4)] [] M (some (.int q.1), q.2) := by
  rw [F_X2_addFlight] at h
  refine Ev.aload_n (pc := 0) dX2_addFlight_0 rfl ?_
  refine Ev.getI (pc := 1) dX2_addFlight_1 fl_RX2_27 lC_23 rfl ?_
  refine Ev.bipush (pc := 4) dX2_addFlight_4 (v := 30) (by decide) ?_
  refine eBk h (fun q1 hq1 h => ?_)
  refine Ev.callSN (host := "GhostCoast") (pc := 6) (as := [.int (M.1 23 4), .int 30]) (st := []) (z := 0) dX2_addFlight_6 wc_X9_isIn mn_RX2_31 sm_X9_isIn (ev_X9_isIn (M.1 23 4) 30 M _ hq1) rfl rfl (by decide) rfl rfl (Nat.le_of_ble_eq_true rfl) ?_
  refine Ev.if_ne (pc := 9) (tgt := 14) dX2_addFlight_9 (by decide) (fun c9 => ?_) (fun c9 => ?_)
  · have h := eF h c9
    refine Ev.aload_n (pc := 14) dX2_addFlight_14 rfl ?_
    refine Ev.getR (pc := 15) dX2_addFlight_15 fl_RX2_9 lC_23 rfl ?_
    refine Ev.aload_n (pc := 18) dX2_addFlight_18 rfl ?_
    refine Ev.getI (pc := 19) dX2_addFlight_19 fl_RX2_27 lC_23 rfl ?_
    refine Ev.iload_n (pc := 22) dX2_addFlight_22 rfl ?_
    obtain ⟨g9, h⟩ := eGdB h
    refine Ev.iastj (pc := 23) dX2_addFlight_23 (j := (M.1 23 4).toNatClampNeg) lC_24 g9 rfl ?_
    refine Ev.aload_n (pc := 24) dX2_addFlight_24 rfl ?_
    refine Ev.getR (pc := 25) dX2_addFlight_25 fl_RX2_15 lC_23 rfl ?_
    refine Ev.aload_n (pc := 28) dX2_addFlight_28 rfl ?_
    refine Ev.getIv (pc := 29) dX2_addFlight_29 (v := (M.1 23 4)) fl_RX2_27 lC_23 rfl (eI_n (by decide)) ?_
    refine Ev.iload_n (pc := 32) dX2_addFlight_32 rfl ?_
    obtain ⟨g9, h⟩ := eGdB h
    refine Ev.iastj (pc := 33) dX2_addFlight_33 (j := (M.1 23 4).toNatClampNeg) lC_25 g9 rfl ?_
    refine Ev.aload_n (pc := 34) dX2_addFlight_34 rfl ?_
    refine Ev.getR (pc := 35) dX2_addFlight_35 fl_RX2_18 lC_23 rfl ?_
    refine Ev.aload_n (pc := 38) dX2_addFlight_38 rfl ?_
    refine Ev.getIv (pc := 39) dX2_addFlight_39 (v := (M.1 23 4)) fl_RX2_27 lC_23 rfl ((eI_n (by decide)).trans (eI_n (by decide))) ?_
    refine Ev.iload_n (pc := 42) dX2_addFlight_42 rfl ?_
    obtain ⟨g9, h⟩ := eGdB h
    refine Ev.iastj (pc := 43) dX2_addFlight_43 (j := (M.1 23 4).toNatClampNeg) lC_26 g9 rfl ?_
    refine Ev.aload_n (pc := 44) dX2_addFlight_44 rfl ?_
    refine Ev.getR (pc := 45) dX2_addFlight_45 fl_RX2_21 lC_23 rfl ?_
    refine Ev.aload_n (pc := 48) dX2_addFlight_48 rfl ?_
    refine Ev.getIv (pc := 49) dX2_addFlight_49 (v := (M.1 23 4)) fl_RX2_27 lC_23 rfl ((eI_n (by decide)).trans ((eI_n (by decide)).trans (eI_n (by decide)))) ?_
    refine Ev.iload (pc := 52) dX2_addFlight_52 rfl ?_
    obtain ⟨g9, h⟩ := eGdB h
    refine Ev.iastj (pc := 54) dX2_addFlight_54 (j := (M.1 23 4).toNatClampNeg) lC_27 g9 rfl ?_
    refine Ev.aload_n (pc := 55) dX2_addFlight_55 rfl ?_
    refine Ev.dup (pc := 56) dX2_addFlight_56 rfl ?_
    refine Ev.getIv (pc := 57) dX2_addFlight_57 (v := (M.1 23 4)) fl_RX2_27 lC_23 rfl ((eI_n (by decide)).trans ((eI_n (by decide)).trans ((eI_n (by decide)).trans (eI_n (by decide))))) ?_
    refine Ev.dup_x1 (pc := 60) dX2_addFlight_60 rfl rfl ?_
    refine Ev.iconst (pc := 61) dX2_addFlight_61 (v := 1) (by decide) ?_
    refine Ev.iadd (pc := 62) dX2_addFlight_62 ?_
    refine Ev.putI (pc := 63) dX2_addFlight_63 fp_RX2_27 lC_23 rfl rfl rfl ?_
    obtain rfl := Option.some.inj h
    exact Ev.iret (pc := 66) dX2_addFlight_66 rfl rfl
  · have h := eT h c9
    refine Ev.iconst (pc := 12) dX2_addFlight_12 (v := (-1)) (by decide) ?_
    obtain rfl := Option.some.inj h
    exact Ev.iret (pc := 13) dX2_addFlight_13 rfl rfl
