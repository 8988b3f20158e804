theorem dX9_slip_0 : decode cX9_slip 0 = .ok (.aload_n 0, 1) := by decide +kernel
theorem dX9_slip_1 : decode cX9_slip 1 = .ok (.getfield 12, 3) := by decide +kernel
theorem dX9_slip_4 : decode cX9_slip 4 = .ok (.getfield 130, 3) := by decide +kernel
theorem dX9_slip_7 : decode cX9_slip 7 = .ok (.iload_n 1, 1) := by decide +kernel
theorem dX9_slip_8 : decode cX9_slip 8 = .ok (.invokevirtual 143, 3) := by decide +kernel
theorem dX9_slip_11 : decode cX9_slip 11 = .ok (.ifCond .ne 10, 3) := by decide +kernel
theorem dX9_slip_14 : decode cX9_slip 14 = .ok (.aload_n 0, 1) := by decide +kernel
theorem dX9_slip_15 : decode cX9_slip 15 = .ok (.ldc 41, 2) := by decide +kernel
theorem dX9_slip_17 : decode cX9_slip 17 = .ok (.invokevirtual 42, 3) := by decide +kernel
theorem dX9_slip_20 : decode cX9_slip 20 = .ok (.ireturn, 1) := by decide +kernel
theorem dX9_slip_21 : decode cX9_slip 21 = .ok (.aload_n 0, 1) := by decide +kernel
theorem dX9_slip_22 : decode cX9_slip 22 = .ok (.getfield 12, 3) := by decide +kernel
theorem dX9_slip_25 : decode cX9_slip 25 = .ok (.aload_n 0, 1) := by decide +kernel
theorem dX9_slip_26 : decode cX9_slip 26 = .ok (.getfield 12, 3) := by decide +kernel
theorem dX9_slip_29 : decode cX9_slip 29 = .ok (.getfield 46, 3) := by decide +kernel
theorem dX9_slip_32 : decode cX9_slip 32 = .ok (.getfield 99, 3) := by decide +kernel
theorem dX9_slip_35 : decode cX9_slip 35 = .ok (.invokevirtual 271, 3) := by decide +kernel
theorem dX9_slip_38 : decode cX9_slip 38 = .ok (.astore_n 2, 1) := by decide +kernel
theorem dX9_slip_39 : decode cX9_slip 39 = .ok (.aload_n 2, 1) := by decide +kernel
theorem dX9_slip_40 : decode cX9_slip 40 = .ok (.iconst 1, 1) := by decide +kernel
theorem dX9_slip_41 : decode cX9_slip 41 = .ok (.invokevirtual 341, 3) := by decide +kernel
theorem dX9_slip_44 : decode cX9_slip 44 = .ok (.aload_n 2, 1) := by decide +kernel
theorem dX9_slip_45 : decode cX9_slip 45 = .ok (.aload_n 0, 1) := by decide +kernel
theorem dX9_slip_46 : decode cX9_slip 46 = .ok (.getfield 12, 3) := by decide +kernel
theorem dX9_slip_49 : decode cX9_slip 49 = .ok (.getfield 130, 3) := by decide +kernel
theorem dX9_slip_52 : decode cX9_slip 52 = .ok (.getfield 152, 3) := by decide +kernel
theorem dX9_slip_55 : decode cX9_slip 55 = .ok (.iload_n 1, 1) := by decide +kernel
theorem dX9_slip_56 : decode cX9_slip 56 = .ok (.iaload, 1) := by decide +kernel
theorem dX9_slip_57 : decode cX9_slip 57 = .ok (.iconst 0, 1) := by decide +kernel
theorem dX9_slip_58 : decode cX9_slip 58 = .ok (.iconst 4, 1) := by decide +kernel
theorem dX9_slip_59 : decode cX9_slip 59 = .ok (.invokevirtual 344, 3) := by decide +kernel
theorem dX9_slip_62 : decode cX9_slip 62 = .ok (.aload_n 2, 1) := by decide +kernel
theorem dX9_slip_63 : decode cX9_slip 63 = .ok (.invokevirtual 285, 3) := by decide +kernel
theorem dX9_slip_66 : decode cX9_slip 66 = .ok (.ireturn, 1) := by decide +kernel
def F_X9_slip (x1 : Int32) (M : eMem) : Option (Int32 × eMem) :=
  (F_X5_has x1 M).bind fun q1 =>
  if q1 = 0 then
    (F_X9_found (-1000001) M).bind fun q6 =>
    some (q6.1, q6.2)
  else
    (F_X8_scalesAt (M.1 2 11) M).bind fun q2 =>
    (F_X3_leaveRoomFor 1 q2).bind fun q3 =>
    eG (eIn x1 20) <|
    (F_X3_put (q3.1 14 x1.toNatClampNeg) 0 4 q3).bind fun q4 =>
    (F_X3_heaviest q4).bind fun q5 =>
    some (q5, q4)
set_option maxRecDepth 100000 in
set_option maxHeartbeats 4000000 in
theorem ev_X9_slip (x1 : Int32) (M : eMem) (q : (Int32 × eMem)) (h : F_X9_slip x1 M = some q) : Ev layC 5 m_X9_slip 0 [some (.ref 0), some (.int x1), none] [] M (some (.int q.1), q.2) := by
  rw [F_X9_slip] at h
  refine Ev.aload_n (pc := 0) dX9_slip_0 rfl ?_
  refine Ev.getR (pc := 1) dX9_slip_1 fl_RX9_12 lC_0 rfl ?_
  refine Ev.getR (pc := 4) dX9_slip_4 fl_RX9_130 lC_1 rfl ?_
  refine Ev.iload_n (pc := 7) dX9_slip_7 rfl ?_
  refine eBk h (fun q1 hq1 h => ?_)
  refine Ev.callV (pc := 8) (as := [.int x1]) (st := []) (z := 0) dX9_slip_8 wc_X5_has ml_RX9_143 im_X5_has se_X5_has lC_12 rfl rfl (ev_X5_has x1 M _ hq1) rfl rfl (by decide) rfl rfl (Nat.le_of_ble_eq_true rfl) ?_
  refine Ev.if_ne (pc := 11) (tgt := 21) dX9_slip_11 (by decide) (fun c9 => ?_) (fun c9 => ?_)
  · have h := eF h c9
    refine Ev.aload_n (pc := 21) dX9_slip_21 rfl ?_
    refine Ev.getR (pc := 22) dX9_slip_22 fl_RX9_12 lC_0 rfl ?_
    refine Ev.aload_n (pc := 25) dX9_slip_25 rfl ?_
    refine Ev.getR (pc := 26) dX9_slip_26 fl_RX9_12 lC_0 rfl ?_
    refine Ev.getR (pc := 29) dX9_slip_29 fl_RX9_46 lC_1 rfl ?_
    refine Ev.getI (pc := 32) dX9_slip_32 fl_RX9_99 lC_2 rfl ?_
    refine eBk h (fun q2 hq2 h => ?_)
    refine Ev.callV (pc := 35) (as := [.int (M.1 2 11)]) (st := []) (z := 0) dX9_slip_35 wc_X8_scalesAt ml_RX9_271 im_X8_scalesAt se_X8_scalesAt lC_1 rfl rfl (ev_X8_scalesAt (M.1 2 11) M _ hq2) rfl rfl (by decide) rfl rfl (Nat.le_of_ble_eq_true rfl) ?_
    refine Ev.astore_n (pc := 38) dX9_slip_38 (by decide) rfl rfl ?_
    refine Ev.aload_n (pc := 39) dX9_slip_39 rfl ?_
    refine Ev.iconst (pc := 40) dX9_slip_40 (v := 1) (by decide) ?_
    refine eBk h (fun q3 hq3 h => ?_)
    refine Ev.callV (pc := 41) (as := [.int 1]) (st := []) (z := 1) dX9_slip_41 wc_X3_leaveRoomFor ml_RX9_341 im_X3_leaveRoomFor se_X3_leaveRoomFor lC_55 rfl rfl (ev_X3_leaveRoomFor 1 q2 _ hq3) rfl rfl (by decide) rfl rfl (Nat.le_of_ble_eq_true rfl) ?_
    refine Ev.aload_n (pc := 44) dX9_slip_44 rfl ?_
    refine Ev.aload_n (pc := 45) dX9_slip_45 rfl ?_
    refine Ev.getR (pc := 46) dX9_slip_46 fl_RX9_12 lC_0 rfl ?_
    refine Ev.getR (pc := 49) dX9_slip_49 fl_RX9_130 lC_1 rfl ?_
    refine Ev.getR (pc := 52) dX9_slip_52 fl_RX9_152 lC_12 rfl ?_
    refine Ev.iload_n (pc := 55) dX9_slip_55 rfl ?_
    obtain ⟨g9, h⟩ := eGdB h
    refine Ev.ialdj (pc := 56) dX9_slip_56 (j := x1.toNatClampNeg) lC_14 g9 rfl ?_
    refine Ev.iconst (pc := 57) dX9_slip_57 (v := 0) (by decide) ?_
    refine Ev.iconst (pc := 58) dX9_slip_58 (v := 4) (by decide) ?_
    refine eBk h (fun q4 hq4 h => ?_)
    refine Ev.callV (pc := 59) (as := [.int (q3.1 14 x1.toNatClampNeg), .int 0, .int 4]) (st := []) (z := 1) dX9_slip_59 wc_X3_put ml_RX9_344 im_X3_put se_X3_put lC_55 rfl rfl (ev_X3_put (q3.1 14 x1.toNatClampNeg) 0 4 q3 _ hq4) rfl rfl (by decide) rfl rfl (Nat.le_of_ble_eq_true rfl) ?_
    refine Ev.aload_n (pc := 62) dX9_slip_62 rfl ?_
    refine eBk h (fun q5 hq5 h => ?_)
    refine Ev.callV (pc := 63) (as := []) (st := []) (z := 2) dX9_slip_63 wc_X3_heaviest ml_RX9_285 im_X3_heaviest se_X3_heaviest lC_55 rfl rfl (ev_X3_heaviest  q4 _ hq5) rfl rfl (by decide) rfl rfl (Nat.le_of_ble_eq_true rfl) ?_
    obtain rfl := Option.some.inj h
    exact Ev.iret (pc := 66) dX9_slip_66 rfl rfl
  · have h := eT h c9
    refine Ev.aload_n (pc := 14) dX9_slip_14 rfl ?_
    refine Ev.ldc (pc := 15) dX9_slip_15 ld_RX9_41 ?_
    refine eBk h (fun q6 hq6 h => ?_)
    refine Ev.callV (pc := 17) (as := [.int (-1000001)]) (st := []) (z := 1) dX9_slip_17 wc_X9_found ml_RX9_42 im_X9_found se_X9_found lC_0 rfl rfl (ev_X9_found (-1000001) M _ hq6) rfl rfl (by decide) rfl rfl (Nat.le_of_ble_eq_true rfl) ?_
    obtain rfl := Option.some.inj h
    exact Ev.iret (pc := 20) dX9_slip_20 rfl rfl
theorem dX10_slip_0 : decode cX10_slip 0 = .ok (.aload_n 0, 1) := by decide +kernel
theorem dX10_slip_1 : decode cX10_slip 1 = .ok (.iload_n 1, 1) := by decide +kernel
theorem dX10_slip_2 : decode cX10_slip 2 = .ok (.invokevirtual 109, 3) := by decide +kernel
theorem dX10_slip_5 : decode cX10_slip 5 = .ok (.ifCond .ne 9, 3) := by decide +kernel
theorem dX10_slip_8 : decode cX10_slip 8 = .ok (.aload_n 0, 1) := by decide +kernel
theorem dX10_slip_9 : decode cX10_slip 9 = .ok (.iconst 1, 1) := by decide +kernel
theorem dX10_slip_10 : decode cX10_slip 10 = .ok (.invokevirtual 66, 3) := by decide +kernel
theorem dX10_slip_13 : decode cX10_slip 13 = .ok (.ireturn, 1) := by decide +kernel
theorem dX10_slip_14 : decode cX10_slip 14 = .ok (.aload_n 0, 1) := by decide +kernel
theorem dX10_slip_15 : decode cX10_slip 15 = .ok (.aload_n 0, 1) := by decide +kernel
theorem dX10_slip_16 : decode cX10_slip 16 = .ok (.getfield 7, 3) := by decide +kernel
theorem dX10_slip_19 : decode cX10_slip 19 = .ok (.iconst 0, 1) := by decide +kernel
theorem dX10_slip_20 : decode cX10_slip 20 = .ok (.iaload, 1) := by decide +kernel
theorem dX10_slip_21 : decode cX10_slip 21 = .ok (.invokevirtual 154, 3) := by decide +kernel
theorem dX10_slip_24 : decode cX10_slip 24 = .ok (.aload_n 0, 1) := by decide +kernel
theorem dX10_slip_25 : decode cX10_slip 25 = .ok (.aload_n 0, 1) := by decide +kernel
theorem dX10_slip_26 : decode cX10_slip 26 = .ok (.getfield 7, 3) := by decide +kernel
theorem dX10_slip_29 : decode cX10_slip 29 = .ok (.iconst 0, 1) := by decide +kernel
theorem dX10_slip_30 : decode cX10_slip 30 = .ok (.iaload, 1) := by decide +kernel
theorem dX10_slip_31 : decode cX10_slip 31 = .ok (.aload_n 0, 1) := by decide +kernel
theorem dX10_slip_32 : decode cX10_slip 32 = .ok (.iload_n 1, 1) := by decide +kernel
theorem dX10_slip_33 : decode cX10_slip 33 = .ok (.iconst 1, 1) := by decide +kernel
theorem dX10_slip_34 : decode cX10_slip 34 = .ok (.invokevirtual 77, 3) := by decide +kernel
theorem dX10_slip_37 : decode cX10_slip 37 = .ok (.iconst 0, 1) := by decide +kernel
theorem dX10_slip_38 : decode cX10_slip 38 = .ok (.iconst 4, 1) := by decide +kernel
theorem dX10_slip_39 : decode cX10_slip 39 = .ok (.invokevirtual 150, 3) := by decide +kernel
theorem dX10_slip_42 : decode cX10_slip 42 = .ok (.aload_n 0, 1) := by decide +kernel
theorem dX10_slip_43 : decode cX10_slip 43 = .ok (.invokevirtual 158, 3) := by decide +kernel
theorem dX10_slip_46 : decode cX10_slip 46 = .ok (.aload_n 0, 1) := by decide +kernel
theorem dX10_slip_47 : decode cX10_slip 47 = .ok (.invokevirtual 173, 3) := by decide +kernel
theorem dX10_slip_50 : decode cX10_slip 50 = .ok (.ireturn, 1) := by decide +kernel
def F_X10_slip (x1 : Int32) (M : eMem) : Option (Int32 × eMem) :=
  (F_X10_isShow x1 M).bind fun q1 =>
  if q1 = 0 then
    (F_X10_finding 1 M).bind fun q7 =>
    some (q7.1, q7.2)
  else
    (F_X10_gather (M.1 1 0) M).bind fun q2 =>
    (F_X10_show x1 1 q2).bind fun q3 =>
    (F_X10_more (q2.1 1 0) q3 0 4 q2).bind fun q4 =>
    (F_X10_weigh q4).bind fun q5 =>
    (F_X10_greatest q5).bind fun q6 =>
    some (q6, q5)
set_option maxRecDepth 100000 in
set_option maxHeartbeats 4000000 in
theorem ev_X10_slip (x1 : Int32) (M : eMem) (q : (Int32 × eMem)) (h : F_X10_slip x1 M = some q) : Ev layR 3 m_X10_slip 0 [some (.ref 0), some (.int x1)] [] M (some (.int q.1), q.2) := by
  rw [F_X10_slip] at h
  refine Ev.aload_n (pc := 0) dX10_slip_0 rfl ?_
  refine Ev.iload_n (pc := 1) dX10_slip_1 rfl ?_
  refine eBk h (fun q1 hq1 h => ?_)
  refine Ev.callV (pc := 2) (as := [.int x1]) (st := []) (z := 0) dX10_slip_2 wc_X10_isShow ml_RX10_109 im_X10_isShow se_X10_isShow lR_0 rfl rfl (ev_X10_isShow x1 M _ hq1) rfl rfl (by decide) rfl rfl (Nat.le_of_ble_eq_true rfl) ?_
  refine Ev.if_ne (pc := 5) (tgt := 14) dX10_slip_5 (by decide) (fun c9 => ?_) (fun c9 => ?_)
  · have h := eF h c9
    refine Ev.aload_n (pc := 14) dX10_slip_14 rfl ?_
    refine Ev.aload_n (pc := 15) dX10_slip_15 rfl ?_
    refine Ev.getR (pc := 16) dX10_slip_16 fl_RX10_7 lR_0 rfl ?_
    refine Ev.iconst (pc := 19) dX10_slip_19 (v := 0) (by decide) ?_
    refine Ev.ialdj (pc := 20) dX10_slip_20 (j := 0) lR_1 (by decide) (by decide) ?_
    refine eBk h (fun q2 hq2 h => ?_)
    refine Ev.callV (pc := 21) (as := [.int (M.1 1 0)]) (st := []) (z := 1) dX10_slip_21 wc_X10_gather ml_RX10_154 im_X10_gather se_X10_gather lR_0 rfl rfl (ev_X10_gather (M.1 1 0) M _ hq2) rfl rfl (by decide) rfl rfl (Nat.le_of_ble_eq_true rfl) ?_
    refine Ev.aload_n (pc := 24) dX10_slip_24 rfl ?_
    refine Ev.aload_n (pc := 25) dX10_slip_25 rfl ?_
    refine Ev.getR (pc := 26) dX10_slip_26 fl_RX10_7 lR_0 rfl ?_
    refine Ev.iconst (pc := 29) dX10_slip_29 (v := 0) (by decide) ?_
    refine Ev.ialdj (pc := 30) dX10_slip_30 (j := 0) lR_1 (by decide) (by decide) ?_
    refine Ev.aload_n (pc := 31) dX10_slip_31 rfl ?_
    refine Ev.iload_n (pc := 32) dX10_slip_32 rfl ?_
    refine Ev.iconst (pc := 33) dX10_slip_33 (v := 1) (by decide) ?_
    refine eBk h (fun q3 hq3 h => ?_)
    refine Ev.callV (pc := 34) (as := [.int x1, .int 1]) (st := [.int (q2.1 1 0), .ref 0]) (z := 0) dX10_slip_34 wc_X10_show ml_RX10_77 im_X10_show se_X10_show lR_0 rfl rfl (ev_X10_show x1 1 q2 _ hq3) rfl rfl (by decide) rfl rfl (Nat.le_of_ble_eq_true rfl) ?_
    refine Ev.iconst (pc := 37) dX10_slip_37 (v := 0) (by decide) ?_
    refine Ev.iconst (pc := 38) dX10_slip_38 (v := 4) (by decide) ?_
    refine eBk h (fun q4 hq4 h => ?_)
    refine Ev.callV (pc := 39) (as := [.int (q2.1 1 0), .int q3, .int 0, .int 4]) (st := []) (z := 1) dX10_slip_39 wc_X10_more ml_RX10_150 im_X10_more se_X10_more lR_0 rfl rfl (ev_X10_more (q2.1 1 0) q3 0 4 q2 _ hq4) rfl rfl (by decide) rfl rfl (Nat.le_of_ble_eq_true rfl) ?_
    refine Ev.aload_n (pc := 42) dX10_slip_42 rfl ?_
    refine eBk h (fun q5 hq5 h => ?_)
    refine Ev.callV (pc := 43) (as := []) (st := []) (z := 4) dX10_slip_43 wc_X10_weigh ml_RX10_158 im_X10_weigh se_X10_weigh lR_0 rfl rfl (ev_X10_weigh  q4 _ hq5) rfl rfl (by decide) rfl rfl (Nat.le_of_ble_eq_true rfl) ?_
    refine Ev.aload_n (pc := 46) dX10_slip_46 rfl ?_
    refine eBk h (fun q6 hq6 h => ?_)
    refine Ev.callV (pc := 47) (as := []) (st := []) (z := 2) dX10_slip_47 wc_X10_greatest ml_RX10_173 im_X10_greatest se_X10_greatest lR_0 rfl rfl (ev_X10_greatest  q5 _ hq6) rfl rfl (by decide) rfl rfl (Nat.le_of_ble_eq_true rfl) ?_
    obtain rfl := Option.some.inj h
    exact Ev.iret (pc := 50) dX10_slip_50 rfl rfl
  · have h := eT h c9
    refine Ev.aload_n (pc := 8) dX10_slip_8 rfl ?_
    refine Ev.iconst (pc := 9) dX10_slip_9 (v := 1) (by decide) ?_
    refine eBk h (fun q7 hq7 h => ?_)
    refine Ev.callV (pc := 10) (as := [.int 1]) (st := []) (z := 0) dX10_slip_10 wc_X10_finding ml_RX10_66 im_X10_finding se_X10_finding lR_0 rfl rfl (ev_X10_finding 1 M _ hq7) rfl rfl (by decide) rfl rfl (Nat.le_of_ble_eq_true rfl) ?_
    obtain rfl := Option.some.inj h
    exact Ev.iret (pc := 13) dX10_slip_13 rfl rfl
theorem dX8_carriersOf_0 : decode cX8_carriersOf 0 = .ok (.iconst 0, 1) := by decide +kernel
theorem dX8_carriersOf_1 : decode cX8_carriersOf 1 = .ok (.istore_n 2, 1) := by decide +kernel
theorem dX8_carriersOf_2 : decode cX8_carriersOf 2 = .ok (.iconst 0, 1) := by decide +kernel
theorem dX8_carriersOf_3 : decode cX8_carriersOf 3 = .ok (.istore_n 3, 1) := by decide +kernel
theorem dX8_carriersOf_4 : decode cX8_carriersOf 4 = .ok (.iload_n 3, 1) := by decide +kernel
theorem dX8_carriersOf_5 : decode cX8_carriersOf 5 = .ok (.aload_n 0, 1) := by decide +kernel
theorem dX8_carriersOf_6 : decode cX8_carriersOf 6 = .ok (.getfield 21, 3) := by decide +kernel
theorem dX8_carriersOf_9 : decode cX8_carriersOf 9 = .ok (.getfield 123, 3) := by decide +kernel
theorem dX8_carriersOf_12 : decode cX8_carriersOf 12 = .ok (.if_icmp .ge 49, 3) := by decide +kernel
theorem dX8_carriersOf_15 : decode cX8_carriersOf 15 = .ok (.iload_n 3, 1) := by decide +kernel
theorem dX8_carriersOf_16 : decode cX8_carriersOf 16 = .ok (.iload_n 1, 1) := by decide +kernel
theorem dX8_carriersOf_17 : decode cX8_carriersOf 17 = .ok (.if_icmp .eq 38, 3) := by decide +kernel
theorem dX8_carriersOf_20 : decode cX8_carriersOf 20 = .ok (.aload_n 0, 1) := by decide +kernel
theorem dX8_carriersOf_21 : decode cX8_carriersOf 21 = .ok (.getfield 21, 3) := by decide +kernel
theorem dX8_carriersOf_24 : decode cX8_carriersOf 24 = .ok (.getfield 92, 3) := by decide +kernel
theorem dX8_carriersOf_27 : decode cX8_carriersOf 27 = .ok (.iload_n 3, 1) := by decide +kernel
theorem dX8_carriersOf_28 : decode cX8_carriersOf 28 = .ok (.iaload, 1) := by decide +kernel
theorem dX8_carriersOf_29 : decode cX8_carriersOf 29 = .ok (.aload_n 0, 1) := by decide +kernel
theorem dX8_carriersOf_30 : decode cX8_carriersOf 30 = .ok (.getfield 21, 3) := by decide +kernel
theorem dX8_carriersOf_33 : decode cX8_carriersOf 33 = .ok (.getfield 92, 3) := by decide +kernel
theorem dX8_carriersOf_36 : decode cX8_carriersOf 36 = .ok (.iload_n 1, 1) := by decide +kernel
theorem dX8_carriersOf_37 : decode cX8_carriersOf 37 = .ok (.iaload, 1) := by decide +kernel
theorem dX8_carriersOf_38 : decode cX8_carriersOf 38 = .ok (.if_icmp .ne 17, 3) := by decide +kernel
theorem dX8_carriersOf_41 : decode cX8_carriersOf 41 = .ok (.aload_n 0, 1) := by decide +kernel
theorem dX8_carriersOf_42 : decode cX8_carriersOf 42 = .ok (.iload_n 3, 1) := by decide +kernel
theorem dX8_carriersOf_43 : decode cX8_carriersOf 43 = .ok (.invokevirtual 126, 3) := by decide +kernel
theorem dX8_carriersOf_46 : decode cX8_carriersOf 46 = .ok (.ifCond .eq 9, 3) := by decide +kernel
theorem dX8_carriersOf_49 : decode cX8_carriersOf 49 = .ok (.iload_n 2, 1) := by decide +kernel
theorem dX8_carriersOf_50 : decode cX8_carriersOf 50 = .ok (.iconst 1, 1) := by decide +kernel
theorem dX8_carriersOf_51 : decode cX8_carriersOf 51 = .ok (.iload_n 3, 1) := by decide +kernel
theorem dX8_carriersOf_52 : decode cX8_carriersOf 52 = .ok (.ishl, 1) := by decide +kernel
theorem dX8_carriersOf_53 : decode cX8_carriersOf 53 = .ok (.ior, 1) := by decide +kernel
theorem dX8_carriersOf_54 : decode cX8_carriersOf 54 = .ok (.istore_n 2, 1) := by decide +kernel
theorem dX8_carriersOf_55 : decode cX8_carriersOf 55 = .ok (.iinc 3 1, 3) := by decide +kernel
theorem dX8_carriersOf_58 : decode cX8_carriersOf 58 = .ok (.goto (-54), 3) := by decide +kernel
theorem dX8_carriersOf_61 : decode cX8_carriersOf 61 = .ok (.iload_n 2, 1) := by decide +kernel
theorem dX8_carriersOf_62 : decode cX8_carriersOf 62 = .ok (.ireturn, 1) := by decide +kernel
def F_X8_carriersOf_4  : Nat → Int32 → Int32 → Int32 → eMem → Option (Int32 × eMem)
  | 0, _, _, _, _ => none
  | n + 1, v1, v2, v3, M =>
    if v3 < (M.1 12 10) then
      if v3 = v1 then
        F_X8_carriersOf_4 n v1 v2 (v3 + 1) M
      else
        eG (eIn v3 20) <|
        eG (eIn v1 20) <|
        if (M.1 14 v3.toNatClampNeg) = (M.1 14 v1.toNatClampNeg) then
          (F_X8_isShown v3 M).bind fun q1 =>
          if q1.1 = 0 then
            F_X8_carriersOf_4 n v1 v2 (v3 + 1) q1.2
          else
            F_X8_carriersOf_4 n v1 (v2 ||| (1 <<< (v3 &&& 31))) (v3 + 1) q1.2
        else
          F_X8_carriersOf_4 n v1 v2 (v3 + 1) M
    else
      some (v2, M)
set_option maxRecDepth 100000 in
set_option maxHeartbeats 4000000 in
theorem ev_X8_carriersOf_4  (q : (Int32 × eMem))  : ∀ (fuel : Nat) (v1 : Int32) (v2 : Int32) (v3 : Int32) (M : eMem), F_X8_carriersOf_4 fuel v1 v2 v3 M = some q → Ev layC 4 m_X8_carriersOf 4 [some (.ref 1), some (.int v1), some (.int v2), some (.int v3)] [] M (some (.int q.1), q.2) := by
  intro fuel
  induction fuel with
  | zero => intro v1 v2 v3 M h; rw [F_X8_carriersOf_4] at h; cases h
  | succ n ih =>
    intro v1 v2 v3 M h
    rw [F_X8_carriersOf_4] at h
    refine Ev.iload_n (pc := 4) dX8_carriersOf_4 rfl ?_
    refine Ev.aload_n (pc := 5) dX8_carriersOf_5 rfl ?_
    refine Ev.getR (pc := 6) dX8_carriersOf_6 fl_RX8_21 lC_1 rfl ?_
    refine Ev.getI (pc := 9) dX8_carriersOf_9 fl_RX8_123 lC_12 rfl ?_
    refine Ev.icmp_ge (pc := 12) (tgt := 61) dX8_carriersOf_12 (by decide) (fun c9 => ?_) (fun c9 => ?_)
    · have h := eF h c9
      refine Ev.iload_n (pc := 61) dX8_carriersOf_61 rfl ?_
      obtain rfl := Option.some.inj h
      exact Ev.iret (pc := 62) dX8_carriersOf_62 rfl rfl
    · have h := eT h c9
      refine Ev.iload_n (pc := 15) dX8_carriersOf_15 rfl ?_
      refine Ev.iload_n (pc := 16) dX8_carriersOf_16 rfl ?_
      refine Ev.icmp_eq (pc := 17) (tgt := 55) dX8_carriersOf_17 (by decide) (fun c9 => ?_) (fun c9 => ?_)
      · have h := eT h c9
        refine Ev.iincv (pc := 55) dX8_carriersOf_55 (v := 1) (by decide) rfl (by decide) rfl rfl ?_
        refine Ev.goto (pc := 58) (tgt := 4) dX8_carriersOf_58 (by decide) ?_
        exact Ev.fg (ih _ _ _ _ h) (And.intro rfl (And.intro rfl (And.intro rfl (And.intro rfl trivial))))
      · have h := eF h c9
        refine Ev.aload_n (pc := 20) dX8_carriersOf_20 rfl ?_
        refine Ev.getR (pc := 21) dX8_carriersOf_21 fl_RX8_21 lC_1 rfl ?_
        refine Ev.getR (pc := 24) dX8_carriersOf_24 fl_RX8_92 lC_12 rfl ?_
        refine Ev.iload_n (pc := 27) dX8_carriersOf_27 rfl ?_
        obtain ⟨g9, h⟩ := eGdB h
        refine Ev.ialdj (pc := 28) dX8_carriersOf_28 (j := v3.toNatClampNeg) lC_14 g9 rfl ?_
        refine Ev.aload_n (pc := 29) dX8_carriersOf_29 rfl ?_
        refine Ev.getR (pc := 30) dX8_carriersOf_30 fl_RX8_21 lC_1 rfl ?_
        refine Ev.getR (pc := 33) dX8_carriersOf_33 fl_RX8_92 lC_12 rfl ?_
        refine Ev.iload_n (pc := 36) dX8_carriersOf_36 rfl ?_
        obtain ⟨g9, h⟩ := eGdB h
        refine Ev.ialdj (pc := 37) dX8_carriersOf_37 (j := v1.toNatClampNeg) lC_14 g9 rfl ?_
        refine Ev.icmp_ne (pc := 38) (tgt := 55) dX8_carriersOf_38 (by decide) (fun c9 => ?_) (fun c9 => ?_)
        · have h := eF h c9
          refine Ev.iincv (pc := 55) dX8_carriersOf_55 (v := 1) (by decide) rfl (by decide) rfl rfl ?_
          refine Ev.goto (pc := 58) (tgt := 4) dX8_carriersOf_58 (by decide) ?_
          exact Ev.fg (ih _ _ _ _ h) (And.intro rfl (And.intro rfl (And.intro rfl (And.intro rfl trivial))))
        · have h := eT h c9
          refine Ev.aload_n (pc := 41) dX8_carriersOf_41 rfl ?_
          refine Ev.iload_n (pc := 42) dX8_carriersOf_42 rfl ?_
          refine eBk h (fun q1 hq1 h => ?_)
          refine Ev.callV (pc := 43) (as := [.int v3]) (st := []) (z := 0) dX8_carriersOf_43 wc_X8_isShown ml_RX8_126 im_X8_isShown se_X8_isShown lC_1 rfl rfl (ev_X8_isShown v3 M _ hq1) rfl rfl (by decide) rfl rfl (Nat.le_of_ble_eq_true rfl) ?_
          refine Ev.if_eq (pc := 46) (tgt := 55) dX8_carriersOf_46 (by decide) (fun c9 => ?_) (fun c9 => ?_)
          · have h := eT h c9
            refine Ev.iincv (pc := 55) dX8_carriersOf_55 (v := 1) (by decide) rfl (by decide) rfl rfl ?_
            refine Ev.goto (pc := 58) (tgt := 4) dX8_carriersOf_58 (by decide) ?_
            exact Ev.fg (ih _ _ _ _ h) (And.intro rfl (And.intro rfl (And.intro rfl (And.intro rfl trivial))))
          · have h := eF h c9
            refine Ev.iload_n (pc := 49) dX8_carriersOf_49 rfl ?_
            refine Ev.iconst (pc := 50) dX8_carriersOf_50 (v := 1) (by decide) ?_
            refine Ev.iload_n (pc := 51) dX8_carriersOf_51 rfl ?_
            refine Ev.ishl (pc := 52) dX8_carriersOf_52 ?_
            refine Ev.ior (pc := 53) dX8_carriersOf_53 ?_
            refine Ev.istore_n (pc := 54) dX8_carriersOf_54 (by decide) rfl rfl ?_
            refine Ev.iincv (pc := 55) dX8_carriersOf_55 (v := 1) (by decide) rfl (by decide) rfl rfl ?_
            refine Ev.goto (pc := 58) (tgt := 4) dX8_carriersOf_58 (by decide) ?_
            exact Ev.fg (ih _ _ _ _ h) (And.intro rfl (And.intro rfl (And.intro rfl (And.intro rfl trivial))))
def F_X8_carriersOf (x1 : Int32) (M : eMem) : Option (Int32 × eMem) :=
  F_X8_carriersOf_4 eFuel x1 0 0 M
set_option maxRecDepth 100000 in
set_option maxHeartbeats 4000000 in
theorem ev_X8_carriersOf (x1 : Int32) (M : eMem) (q : (Int32 × eMem)) (h : F_X8_carriersOf x1 M = some q) : Ev layC 4 m_X8_carriersOf 0 [some (.ref 1), some (.int x1), none, none] [] M (some (.int q.1), q.2) := by
  rw [F_X8_carriersOf] at h
  refine Ev.iconst (pc := 0) dX8_carriersOf_0 (v := 0) (by decide) ?_
  refine Ev.istore_n (pc := 1) dX8_carriersOf_1 (by decide) rfl rfl ?_
  refine Ev.iconst (pc := 2) dX8_carriersOf_2 (v := 0) (by decide) ?_
  refine Ev.istore_n (pc := 3) dX8_carriersOf_3 (by decide) rfl rfl ?_
  exact Ev.fg (ev_X8_carriersOf_4 _ _ _ _ _ _ h) (And.intro rfl (And.intro rfl (And.intro rfl (And.intro rfl trivial))))
theorem dX9_carry_0 : decode cX9_carry 0 = .ok (.aload_n 0, 1) := by decide +kernel
theorem dX9_carry_1 : decode cX9_carry 1 = .ok (.getfield 12, 3) := by decide +kernel
theorem dX9_carry_4 : decode cX9_carry 4 = .ok (.getfield 130, 3) := by decide +kernel
theorem dX9_carry_7 : decode cX9_carry 7 = .ok (.iload_n 1, 1) := by decide +kernel
theorem dX9_carry_8 : decode cX9_carry 8 = .ok (.invokevirtual 143, 3) := by decide +kernel
theorem dX9_carry_11 : decode cX9_carry 11 = .ok (.ifCond .ne 10, 3) := by decide +kernel
theorem dX9_carry_14 : decode cX9_carry 14 = .ok (.aload_n 0, 1) := by decide +kernel
theorem dX9_carry_15 : decode cX9_carry 15 = .ok (.ldc 41, 2) := by decide +kernel
theorem dX9_carry_17 : decode cX9_carry 17 = .ok (.invokevirtual 42, 3) := by decide +kernel
theorem dX9_carry_20 : decode cX9_carry 20 = .ok (.ireturn, 1) := by decide +kernel
theorem dX9_carry_21 : decode cX9_carry 21 = .ok (.aload_n 0, 1) := by decide +kernel
theorem dX9_carry_22 : decode cX9_carry 22 = .ok (.getfield 12, 3) := by decide +kernel
theorem dX9_carry_25 : decode cX9_carry 25 = .ok (.iload_n 1, 1) := by decide +kernel
theorem dX9_carry_26 : decode cX9_carry 26 = .ok (.invokevirtual 347, 3) := by decide +kernel
theorem dX9_carry_29 : decode cX9_carry 29 = .ok (.ireturn, 1) := by decide +kernel
def F_X9_carry (x1 : Int32) (M : eMem) : Option (Int32 × eMem) :=
  (F_X5_has x1 M).bind fun q1 =>
  if q1 = 0 then
    (F_X9_found (-1000001) M).bind fun q3 =>
    some (q3.1, q3.2)
  else
    (F_X8_carriersOf x1 M).bind fun q2 =>
    some (q2.1, q2.2)
set_option maxRecDepth 100000 in
set_option maxHeartbeats 4000000 in
theorem ev_X9_carry (x1 : Int32) (M : eMem) (q : (Int32 × eMem)) (h : F_X9_carry x1 M = some q) : Ev layC 5 m_X9_carry 0 [some (.ref 0), some (.int x1)] [] M (some (.int q.1), q.2) := by
  rw [F_X9_carry] at h
  refine Ev.aload_n (pc := 0) dX9_carry_0 rfl ?_
  refine Ev.getR (pc := 1) dX9_carry_1 fl_RX9_12 lC_0 rfl ?_
  refine Ev.getR (pc := 4) dX9_carry_4 fl_RX9_130 lC_1 rfl ?_
  refine Ev.iload_n (pc := 7) dX9_carry_7 rfl ?_
  refine eBk h (fun q1 hq1 h => ?_)
  refine Ev.callV (pc := 8) (as := [.int x1]) (st := []) (z := 0) dX9_carry_8 wc_X5_has ml_RX9_143 im_X5_has se_X5_has lC_12 rfl rfl (ev_X5_has x1 M _ hq1) rfl rfl (by decide) rfl rfl (Nat.le_of_ble_eq_true rfl) ?_
  refine Ev.if_ne (pc := 11) (tgt := 21) dX9_carry_11 (by decide) (fun c9 => ?_) (fun c9 => ?_)
  · have h := eF h c9
    refine Ev.aload_n (pc := 21) dX9_carry_21 rfl ?_
    refine Ev.getR (pc := 22) dX9_carry_22 fl_RX9_12 lC_0 rfl ?_
    refine Ev.iload_n (pc := 25) dX9_carry_25 rfl ?_
    refine eBk h (fun q2 hq2 h => ?_)
    refine Ev.callV (pc := 26) (as := [.int x1]) (st := []) (z := 2) dX9_carry_26 wc_X8_carriersOf ml_RX9_347 im_X8_carriersOf se_X8_carriersOf lC_1 rfl rfl (ev_X8_carriersOf x1 M _ hq2) rfl rfl (by decide) rfl rfl (Nat.le_of_ble_eq_true rfl) ?_
    obtain rfl := Option.some.inj h
    exact Ev.iret (pc := 29) dX9_carry_29 rfl rfl
  · have h := eT h c9
    refine Ev.aload_n (pc := 14) dX9_carry_14 rfl ?_
    refine Ev.ldc (pc := 15) dX9_carry_15 ld_RX9_41 ?_
    refine eBk h (fun q3 hq3 h => ?_)
    refine Ev.callV (pc := 17) (as := [.int (-1000001)]) (st := []) (z := 1) dX9_carry_17 wc_X9_found ml_RX9_42 im_X9_found se_X9_found lC_0 rfl rfl (ev_X9_found (-1000001) M _ hq3) rfl rfl (by decide) rfl rfl (Nat.le_of_ble_eq_true rfl) ?_
    obtain rfl := Option.some.inj h
    exact Ev.iret (pc := 20) dX9_carry_20 rfl rfl
theorem dX10_carry_0 : decode cX10_carry 0 = .ok (.aload_n 0, 1) := by decide +kernel
theorem dX10_carry_1 : decode cX10_carry 1 = .ok (.iload_n 1, 1) := by decide +kernel
theorem dX10_carry_2 : decode cX10_carry 2 = .ok (.invokevirtual 109, 3) := by decide +kernel
theorem dX10_carry_5 : decode cX10_carry 5 = .ok (.ifCond .ne 9, 3) := by decide +kernel
theorem dX10_carry_8 : decode cX10_carry 8 = .ok (.aload_n 0, 1) := by decide +kernel
theorem dX10_carry_9 : decode cX10_carry 9 = .ok (.iconst 1, 1) := by decide +kernel
theorem dX10_carry_10 : decode cX10_carry 10 = .ok (.invokevirtual 66, 3) := by decide +kernel
theorem dX10_carry_13 : decode cX10_carry 13 = .ok (.ireturn, 1) := by decide +kernel
theorem dX10_carry_14 : decode cX10_carry 14 = .ok (.iconst 0, 1) := by decide +kernel
theorem dX10_carry_15 : decode cX10_carry 15 = .ok (.istore_n 2, 1) := by decide +kernel
theorem dX10_carry_16 : decode cX10_carry 16 = .ok (.iconst 0, 1) := by decide +kernel
theorem dX10_carry_17 : decode cX10_carry 17 = .ok (.istore_n 3, 1) := by decide +kernel
theorem dX10_carry_18 : decode cX10_carry 18 = .ok (.iload_n 3, 1) := by decide +kernel
theorem dX10_carry_19 : decode cX10_carry 19 = .ok (.aload_n 0, 1) := by decide +kernel
theorem dX10_carry_20 : decode cX10_carry 20 = .ok (.getfield 7, 3) := by decide +kernel
theorem dX10_carry_23 : decode cX10_carry 23 = .ok (.bipush 9, 2) := by decide +kernel
theorem dX10_carry_25 : decode cX10_carry 25 = .ok (.iaload, 1) := by decide +kernel
theorem dX10_carry_26 : decode cX10_carry 26 = .ok (.if_icmp .ge 47, 3) := by decide +kernel
theorem dX10_carry_29 : decode cX10_carry 29 = .ok (.iload_n 2, 1) := by decide +kernel
theorem dX10_carry_30 : decode cX10_carry 30 = .ok (.iload_n 3, 1) := by decide +kernel
theorem dX10_carry_31 : decode cX10_carry 31 = .ok (.iload_n 1, 1) := by decide +kernel
theorem dX10_carry_32 : decode cX10_carry 32 = .ok (.if_icmp .eq 32, 3) := by decide +kernel
theorem dX10_carry_35 : decode cX10_carry 35 = .ok (.aload_n 0, 1) := by decide +kernel
theorem dX10_carry_36 : decode cX10_carry 36 = .ok (.iload_n 3, 1) := by decide +kernel
theorem dX10_carry_37 : decode cX10_carry 37 = .ok (.iconst 1, 1) := by decide +kernel
theorem dX10_carry_38 : decode cX10_carry 38 = .ok (.invokevirtual 77, 3) := by decide +kernel
theorem dX10_carry_41 : decode cX10_carry 41 = .ok (.aload_n 0, 1) := by decide +kernel
theorem dX10_carry_42 : decode cX10_carry 42 = .ok (.iload_n 1, 1) := by decide +kernel
theorem dX10_carry_43 : decode cX10_carry 43 = .ok (.iconst 1, 1) := by decide +kernel
theorem dX10_carry_44 : decode cX10_carry 44 = .ok (.invokevirtual 77, 3) := by decide +kernel
theorem dX10_carry_47 : decode cX10_carry 47 = .ok (.if_icmp .ne 17, 3) := by decide +kernel
theorem dX10_carry_50 : decode cX10_carry 50 = .ok (.aload_n 0, 1) := by decide +kernel
theorem dX10_carry_51 : decode cX10_carry 51 = .ok (.iload_n 3, 1) := by decide +kernel
theorem dX10_carry_52 : decode cX10_carry 52 = .ok (.invokevirtual 80, 3) := by decide +kernel
theorem dX10_carry_55 : decode cX10_carry 55 = .ok (.ifCond .eq 9, 3) := by decide +kernel
theorem dX10_carry_58 : decode cX10_carry 58 = .ok (.iconst 1, 1) := by decide +kernel
theorem dX10_carry_59 : decode cX10_carry 59 = .ok (.iload_n 3, 1) := by decide +kernel
theorem dX10_carry_60 : decode cX10_carry 60 = .ok (.ishl, 1) := by decide +kernel
theorem dX10_carry_61 : decode cX10_carry 61 = .ok (.goto 4, 3) := by decide +kernel
theorem dX10_carry_64 : decode cX10_carry 64 = .ok (.iconst 0, 1) := by decide +kernel
theorem dX10_carry_65 : decode cX10_carry 65 = .ok (.ior, 1) := by decide +kernel
theorem dX10_carry_66 : decode cX10_carry 66 = .ok (.istore_n 2, 1) := by decide +kernel
theorem dX10_carry_67 : decode cX10_carry 67 = .ok (.iinc 3 1, 3) := by decide +kernel
theorem dX10_carry_70 : decode cX10_carry 70 = .ok (.goto (-52), 3) := by decide +kernel
theorem dX10_carry_73 : decode cX10_carry 73 = .ok (.iload_n 2, 1) := by decide +kernel
theorem dX10_carry_74 : decode cX10_carry 74 = .ok (.ireturn, 1) := by decide +kernel
def F_X10_carry_18  : Nat → Int32 → Int32 → Int32 → eMem → Option (Int32 × eMem)
  | 0, _, _, _, _ => none
  | n + 1, v1, v2, v3, M =>
    if v3 < (M.1 1 9) then
      if v3 = v1 then
        F_X10_carry_18 n v1 (v2 ||| 0) (v3 + 1) M
      else
        (F_X10_show v3 1 M).bind fun q2 =>
        (F_X10_show v1 1 M).bind fun q3 =>
        if q2 = q3 then
          (F_X10_isShown v3 M).bind fun q4 =>
          if q4 = 0 then
            F_X10_carry_18 n v1 (v2 ||| 0) (v3 + 1) M
          else
            F_X10_carry_18 n v1 (v2 ||| (1 <<< (v3 &&& 31))) (v3 + 1) M
        else
          F_X10_carry_18 n v1 (v2 ||| 0) (v3 + 1) M
    else
      some (v2, M)
set_option maxRecDepth 100000 in
set_option maxHeartbeats 4000000 in
theorem ev_X10_carry_18  (q : (Int32 × eMem))  : ∀ (fuel : Nat) (v1 : Int32) (v2 : Int32) (v3 : Int32) (M : eMem), F_X10_carry_18 fuel v1 v2 v3 M = some q → Ev layR 7 m_X10_carry 18 [some (.ref 0), some (.int v1), some (.int v2), some (.int v3)] [] M (some (.int q.1), q.2) := by
  intro fuel
  induction fuel with
  | zero => intro v1 v2 v3 M h; rw [F_X10_carry_18] at h; cases h
  | succ n ih =>
    intro v1 v2 v3 M h
    rw [F_X10_carry_18] at h
    refine Ev.iload_n (pc := 18) dX10_carry_18 rfl ?_
    refine Ev.aload_n (pc := 19) dX10_carry_19 rfl ?_
    refine Ev.getR (pc := 20) dX10_carry_20 fl_RX10_7 lR_0 rfl ?_
    refine Ev.bipush (pc := 23) dX10_carry_23 (v := 9) (by decide) ?_
    refine Ev.ialdj (pc := 25) dX10_carry_25 (j := 9) lR_1 (by decide) (by decide) ?_
    refine Ev.icmp_ge (pc := 26) (tgt := 73) dX10_carry_26 (by decide) (fun c9 => ?_) (fun c9 => ?_)
    · have h := eF h c9
      refine Ev.iload_n (pc := 73) dX10_carry_73 rfl ?_
      obtain rfl := Option.some.inj h
      exact Ev.iret (pc := 74) dX10_carry_74 rfl rfl
    · have h := eT h c9
      refine Ev.iload_n (pc := 29) dX10_carry_29 rfl ?_
      refine Ev.iload_n (pc := 30) dX10_carry_30 rfl ?_
      refine Ev.iload_n (pc := 31) dX10_carry_31 rfl ?_
      refine Ev.icmp_eq (pc := 32) (tgt := 64) dX10_carry_32 (by decide) (fun c9 => ?_) (fun c9 => ?_)
      · have h := eT h c9
        refine Ev.iconst (pc := 64) dX10_carry_64 (v := 0) (by decide) ?_
        refine Ev.ior (pc := 65) dX10_carry_65 ?_
        refine Ev.istore_n (pc := 66) dX10_carry_66 (by decide) rfl rfl ?_
        refine Ev.iincv (pc := 67) dX10_carry_67 (v := 1) (by decide) rfl (by decide) rfl rfl ?_
        refine Ev.goto (pc := 70) (tgt := 18) dX10_carry_70 (by decide) ?_
        exact Ev.fg (ih _ _ _ _ h) (And.intro rfl (And.intro rfl (And.intro rfl (And.intro rfl trivial))))
      · have h := eF h c9
        refine Ev.aload_n (pc := 35) dX10_carry_35 rfl ?_
        refine Ev.iload_n (pc := 36) dX10_carry_36 rfl ?_
        refine Ev.iconst (pc := 37) dX10_carry_37 (v := 1) (by decide) ?_
        refine eBk h (fun q2 hq2 h => ?_)
        refine Ev.callV (pc := 38) (as := [.int v3, .int 1]) (st := [.int v2]) (z := 0) dX10_carry_38 wc_X10_show ml_RX10_77 im_X10_show se_X10_show lR_0 rfl rfl (ev_X10_show v3 1 M _ hq2) rfl rfl (by decide) rfl rfl (Nat.le_of_ble_eq_true rfl) ?_
        refine Ev.aload_n (pc := 41) dX10_carry_41 rfl ?_
        refine Ev.iload_n (pc := 42) dX10_carry_42 rfl ?_
        refine Ev.iconst (pc := 43) dX10_carry_43 (v := 1) (by decide) ?_
        refine eBk h (fun q3 hq3 h => ?_)
        refine Ev.callV (pc := 44) (as := [.int v1, .int 1]) (st := [.int q2, .int v2]) (z := 0) dX10_carry_44 wc_X10_show ml_RX10_77 im_X10_show se_X10_show lR_0 rfl rfl (ev_X10_show v1 1 M _ hq3) rfl rfl (by decide) rfl rfl (Nat.le_of_ble_eq_true rfl) ?_
        refine Ev.icmp_ne (pc := 47) (tgt := 64) dX10_carry_47 (by decide) (fun c9 => ?_) (fun c9 => ?_)
        · have h := eF h c9
          refine Ev.iconst (pc := 64) dX10_carry_64 (v := 0) (by decide) ?_
          refine Ev.ior (pc := 65) dX10_carry_65 ?_
          refine Ev.istore_n (pc := 66) dX10_carry_66 (by decide) rfl rfl ?_
          refine Ev.iincv (pc := 67) dX10_carry_67 (v := 1) (by decide) rfl (by decide) rfl rfl ?_
          refine Ev.goto (pc := 70) (tgt := 18) dX10_carry_70 (by decide) ?_
          exact Ev.fg (ih _ _ _ _ h) (And.intro rfl (And.intro rfl (And.intro rfl (And.intro rfl trivial))))
        · have h := eT h c9
          refine Ev.aload_n (pc := 50) dX10_carry_50 rfl ?_
          refine Ev.iload_n (pc := 51) dX10_carry_51 rfl ?_
          refine eBk h (fun q4 hq4 h => ?_)
          refine Ev.callV (pc := 52) (as := [.int v3]) (st := [.int v2]) (z := 0) dX10_carry_52 wc_X10_isShown ml_RX10_80 im_X10_isShown se_X10_isShown lR_0 rfl rfl (ev_X10_isShown v3 M _ hq4) rfl rfl (by decide) rfl rfl (Nat.le_of_ble_eq_true rfl) ?_
          refine Ev.if_eq (pc := 55) (tgt := 64) dX10_carry_55 (by decide) (fun c9 => ?_) (fun c9 => ?_)
          · have h := eT h c9
            refine Ev.iconst (pc := 64) dX10_carry_64 (v := 0) (by decide) ?_
            refine Ev.ior (pc := 65) dX10_carry_65 ?_
            refine Ev.istore_n (pc := 66) dX10_carry_66 (by decide) rfl rfl ?_
            refine Ev.iincv (pc := 67) dX10_carry_67 (v := 1) (by decide) rfl (by decide) rfl rfl ?_
            refine Ev.goto (pc := 70) (tgt := 18) dX10_carry_70 (by decide) ?_
            exact Ev.fg (ih _ _ _ _ h) (And.intro rfl (And.intro rfl (And.intro rfl (And.intro rfl trivial))))
          · have h := eF h c9
            refine Ev.iconst (pc := 58) dX10_carry_58 (v := 1) (by decide) ?_
            refine Ev.iload_n (pc := 59) dX10_carry_59 rfl ?_
            refine Ev.ishl (pc := 60) dX10_carry_60 ?_
            refine Ev.goto (pc := 61) (tgt := 65) dX10_carry_61 (by decide) ?_
            refine Ev.ior (pc := 65) dX10_carry_65 ?_
            refine Ev.istore_n (pc := 66) dX10_carry_66 (by decide) rfl rfl ?_
            refine Ev.iincv (pc := 67) dX10_carry_67 (v := 1) (by decide) rfl (by decide) rfl rfl ?_
            refine Ev.goto (pc := 70) (tgt := 18) dX10_carry_70 (by decide) ?_
            exact Ev.fg (ih _ _ _ _ h) (And.intro rfl (And.intro rfl (And.intro rfl (And.intro rfl trivial))))
def F_X10_carry (x1 : Int32) (M : eMem) : Option (Int32 × eMem) :=
  (F_X10_isShow x1 M).bind fun q1 =>
  if q1 = 0 then
    (F_X10_finding 1 M).bind fun q5 =>
    some (q5.1, q5.2)
  else
    F_X10_carry_18 eFuel x1 0 0 M
set_option maxRecDepth 100000 in
set_option maxHeartbeats 4000000 in
theorem ev_X10_carry (x1 : Int32) (M : eMem) (q : (Int32 × eMem)) (h : F_X10_carry x1 M = some q) : Ev layR 7 m_X10_carry 0 [some (.ref 0), some (.int x1), none, none] [] M (some (.int q.1), q.2) := by
  rw [F_X10_carry] at h
  refine Ev.aload_n (pc := 0) dX10_carry_0 rfl ?_
  refine Ev.iload_n (pc := 1) dX10_carry_1 rfl ?_
  refine eBk h (fun q1 hq1 h => ?_)
  refine Ev.callV (pc := 2) (as := [.int x1]) (st := []) (z := 0) dX10_carry_2 wc_X10_isShow ml_RX10_109 im_X10_isShow se_X10_isShow lR_0 rfl rfl (ev_X10_isShow x1 M _ hq1) rfl rfl (by decide) rfl rfl (Nat.le_of_ble_eq_true rfl) ?_
  refine Ev.if_ne (pc := 5) (tgt := 14) dX10_carry_5 (by decide) (fun c9 => ?_) (fun c9 => ?_)
  · have h := eF h c9
    refine Ev.iconst (pc := 14) dX10_carry_14 (v := 0) (by decide) ?_
    refine Ev.istore_n (pc := 15) dX10_carry_15 (by decide) rfl rfl ?_
    refine Ev.iconst (pc := 16) dX10_carry_16 (v := 0) (by decide) ?_
    refine Ev.istore_n (pc := 17) dX10_carry_17 (by decide) rfl rfl ?_
    exact Ev.fg (ev_X10_carry_18 _ _ _ _ _ _ h) (And.intro rfl (And.intro rfl (And.intro rfl (And.intro rfl trivial))))
  · have h := eT h c9
    refine Ev.aload_n (pc := 8) dX10_carry_8 rfl ?_
    refine Ev.iconst (pc := 9) dX10_carry_9 (v := 1) (by decide) ?_
    refine eBk h (fun q5 hq5 h => ?_)
    refine Ev.callV (pc := 10) (as := [.int 1]) (st := []) (z := 0) dX10_carry_10 wc_X10_finding ml_RX10_66 im_X10_finding se_X10_finding lR_0 rfl rfl (ev_X10_finding 1 M _ hq5) rfl rfl (by decide) rfl rfl (Nat.le_of_ble_eq_true rfl) ?_
    obtain rfl := Option.some.inj h
    exact Ev.iret (pc := 13) dX10_carry_13 rfl rfl
theorem dX5_hasAll_0 : decode cX5_hasAll 0 = .ok (.iload_n 1, 1) := by decide +kernel
theorem dX5_hasAll_1 : decode cX5_hasAll 1 = .ok (.ifCond .lt 16, 3) := by decide +kernel
theorem dX5_hasAll_4 : decode cX5_hasAll 4 = .ok (.iload_n 1, 1) := by decide +kernel
theorem dX5_hasAll_5 : decode cX5_hasAll 5 = .ok (.aload_n 0, 1) := by decide +kernel
theorem dX5_hasAll_6 : decode cX5_hasAll 6 = .ok (.getfield 43, 3) := by decide +kernel
theorem dX5_hasAll_9 : decode cX5_hasAll 9 = .ok (.ishr, 1) := by decide +kernel
theorem dX5_hasAll_10 : decode cX5_hasAll 10 = .ok (.ifCond .ne 7, 3) := by decide +kernel
theorem dX5_hasAll_13 : decode cX5_hasAll 13 = .ok (.iconst 1, 1) := by decide +kernel
theorem dX5_hasAll_14 : decode cX5_hasAll 14 = .ok (.goto 4, 3) := by decide +kernel
theorem dX5_hasAll_17 : decode cX5_hasAll 17 = .ok (.iconst 0, 1) := by decide +kernel
theorem dX5_hasAll_18 : decode cX5_hasAll 18 = .ok (.ireturn, 1) := by decide +kernel
def F_X5_hasAll (x1 : Int32) (M : eMem) : Option Int32 :=
  if x1 < 0 then
    some 0
  else
    if (x1 >>> ((M.1 12 10) &&& 31)) = 0 then
      some 1
    else
      some 0
set_option maxRecDepth 100000 in
set_option maxHeartbeats 4000000 in
theorem ev_X5_hasAll (x1 : Int32) (M : eMem) (q : Int32) (h : F_X5_hasAll x1 M = some q) : Ev layC 0 m_X5_hasAll 0 [some (.ref 12), some (.int x1)] [] M (some (.int q), M) := by
  rw [F_X5_hasAll] at h
  refine Ev.iload_n (pc := 0) dX5_hasAll_0 rfl ?_
  refine Ev.if_lt (pc := 1) (tgt := 17) dX5_hasAll_1 (by decide) (fun c9 => ?_) (fun c9 => ?_)
  · have h := eT h c9
    refine Ev.iconst (pc := 17) dX5_hasAll_17 (v := 0) (by decide) ?_
    obtain rfl := Option.some.inj h
    exact Ev.iret (pc := 18) dX5_hasAll_18 rfl rfl
  · have h := eF h c9
    refine Ev.iload_n (pc := 4) dX5_hasAll_4 rfl ?_
    refine Ev.aload_n (pc := 5) dX5_hasAll_5 rfl ?_
    refine Ev.getI (pc := 6) dX5_hasAll_6 fl_RX5_43 lC_12 rfl ?_
    refine Ev.ishr (pc := 9) dX5_hasAll_9 ?_
    refine Ev.if_ne (pc := 10) (tgt := 17) dX5_hasAll_10 (by decide) (fun c9 => ?_) (fun c9 => ?_)
    · have h := eF h c9
      refine Ev.iconst (pc := 17) dX5_hasAll_17 (v := 0) (by decide) ?_
      obtain rfl := Option.some.inj h
      exact Ev.iret (pc := 18) dX5_hasAll_18 rfl rfl
    · have h := eT h c9
      refine Ev.iconst (pc := 13) dX5_hasAll_13 (v := 1) (by decide) ?_
      refine Ev.goto (pc := 14) (tgt := 18) dX5_hasAll_14 (by decide) ?_
      obtain rfl := Option.some.inj h
      exact Ev.iret (pc := 18) dX5_hasAll_18 rfl rfl
theorem dJ6_bitCount_0f7a4_0 : decode cJ6_bitCount_0f7a4 0 = .ok (.iload_n 0, 1) := by decide +kernel
theorem dJ6_bitCount_0f7a4_1 : decode cJ6_bitCount_0f7a4 1 = .ok (.iload_n 0, 1) := by decide +kernel
theorem dJ6_bitCount_0f7a4_2 : decode cJ6_bitCount_0f7a4 2 = .ok (.iconst 1, 1) := by decide +kernel
theorem dJ6_bitCount_0f7a4_3 : decode cJ6_bitCount_0f7a4 3 = .ok (.iushr, 1) := by decide +kernel
theorem dJ6_bitCount_0f7a4_4 : decode cJ6_bitCount_0f7a4 4 = .ok (.ldc_w 265, 3) := by decide +kernel
theorem dJ6_bitCount_0f7a4_7 : decode cJ6_bitCount_0f7a4 7 = .ok (.iand, 1) := by decide +kernel
theorem dJ6_bitCount_0f7a4_8 : decode cJ6_bitCount_0f7a4 8 = .ok (.isub, 1) := by decide +kernel
theorem dJ6_bitCount_0f7a4_9 : decode cJ6_bitCount_0f7a4 9 = .ok (.istore_n 0, 1) := by decide +kernel
theorem dJ6_bitCount_0f7a4_10 : decode cJ6_bitCount_0f7a4 10 = .ok (.iload_n 0, 1) := by decide +kernel
theorem dJ6_bitCount_0f7a4_11 : decode cJ6_bitCount_0f7a4 11 = .ok (.ldc_w 266, 3) := by decide +kernel
theorem dJ6_bitCount_0f7a4_14 : decode cJ6_bitCount_0f7a4 14 = .ok (.iand, 1) := by decide +kernel
theorem dJ6_bitCount_0f7a4_15 : decode cJ6_bitCount_0f7a4 15 = .ok (.iload_n 0, 1) := by decide +kernel
theorem dJ6_bitCount_0f7a4_16 : decode cJ6_bitCount_0f7a4 16 = .ok (.iconst 2, 1) := by decide +kernel
theorem dJ6_bitCount_0f7a4_17 : decode cJ6_bitCount_0f7a4 17 = .ok (.iushr, 1) := by decide +kernel
theorem dJ6_bitCount_0f7a4_18 : decode cJ6_bitCount_0f7a4 18 = .ok (.ldc_w 266, 3) := by decide +kernel
theorem dJ6_bitCount_0f7a4_21 : decode cJ6_bitCount_0f7a4 21 = .ok (.iand, 1) := by decide +kernel
theorem dJ6_bitCount_0f7a4_22 : decode cJ6_bitCount_0f7a4 22 = .ok (.iadd, 1) := by decide +kernel
theorem dJ6_bitCount_0f7a4_23 : decode cJ6_bitCount_0f7a4 23 = .ok (.istore_n 0, 1) := by decide +kernel
theorem dJ6_bitCount_0f7a4_24 : decode cJ6_bitCount_0f7a4 24 = .ok (.iload_n 0, 1) := by decide +kernel
theorem dJ6_bitCount_0f7a4_25 : decode cJ6_bitCount_0f7a4 25 = .ok (.iload_n 0, 1) := by decide +kernel
theorem dJ6_bitCount_0f7a4_26 : decode cJ6_bitCount_0f7a4 26 = .ok (.iconst 4, 1) := by decide +kernel
theorem dJ6_bitCount_0f7a4_27 : decode cJ6_bitCount_0f7a4 27 = .ok (.iushr, 1) := by decide +kernel
theorem dJ6_bitCount_0f7a4_28 : decode cJ6_bitCount_0f7a4 28 = .ok (.iadd, 1) := by decide +kernel
theorem dJ6_bitCount_0f7a4_29 : decode cJ6_bitCount_0f7a4 29 = .ok (.ldc_w 267, 3) := by decide +kernel
theorem dJ6_bitCount_0f7a4_32 : decode cJ6_bitCount_0f7a4 32 = .ok (.iand, 1) := by decide +kernel
theorem dJ6_bitCount_0f7a4_33 : decode cJ6_bitCount_0f7a4 33 = .ok (.istore_n 0, 1) := by decide +kernel
theorem dJ6_bitCount_0f7a4_34 : decode cJ6_bitCount_0f7a4 34 = .ok (.iload_n 0, 1) := by decide +kernel
theorem dJ6_bitCount_0f7a4_35 : decode cJ6_bitCount_0f7a4 35 = .ok (.iload_n 0, 1) := by decide +kernel
theorem dJ6_bitCount_0f7a4_36 : decode cJ6_bitCount_0f7a4 36 = .ok (.bipush 8, 2) := by decide +kernel
theorem dJ6_bitCount_0f7a4_38 : decode cJ6_bitCount_0f7a4 38 = .ok (.iushr, 1) := by decide +kernel
theorem dJ6_bitCount_0f7a4_39 : decode cJ6_bitCount_0f7a4 39 = .ok (.iadd, 1) := by decide +kernel
theorem dJ6_bitCount_0f7a4_40 : decode cJ6_bitCount_0f7a4 40 = .ok (.istore_n 0, 1) := by decide +kernel
theorem dJ6_bitCount_0f7a4_41 : decode cJ6_bitCount_0f7a4 41 = .ok (.iload_n 0, 1) := by decide +kernel
theorem dJ6_bitCount_0f7a4_42 : decode cJ6_bitCount_0f7a4 42 = .ok (.iload_n 0, 1) := by decide +kernel
theorem dJ6_bitCount_0f7a4_43 : decode cJ6_bitCount_0f7a4 43 = .ok (.bipush 16, 2) := by decide +kernel
theorem dJ6_bitCount_0f7a4_45 : decode cJ6_bitCount_0f7a4 45 = .ok (.iushr, 1) := by decide +kernel
theorem dJ6_bitCount_0f7a4_46 : decode cJ6_bitCount_0f7a4 46 = .ok (.iadd, 1) := by decide +kernel
theorem dJ6_bitCount_0f7a4_47 : decode cJ6_bitCount_0f7a4 47 = .ok (.istore_n 0, 1) := by decide +kernel
theorem dJ6_bitCount_0f7a4_48 : decode cJ6_bitCount_0f7a4 48 = .ok (.iload_n 0, 1) := by decide +kernel
theorem dJ6_bitCount_0f7a4_49 : decode cJ6_bitCount_0f7a4 49 = .ok (.bipush 63, 2) := by decide +kernel
theorem dJ6_bitCount_0f7a4_51 : decode cJ6_bitCount_0f7a4 51 = .ok (.iand, 1) := by decide +kernel
theorem dJ6_bitCount_0f7a4_52 : decode cJ6_bitCount_0f7a4 52 = .ok (.ireturn, 1) := by decide +kernel
def F_J6_bitCount_0f7a4 (x0 : Int32) : Option Int32 :=
  some ((((((((x0 - (((x0.toUInt32 >>> ((1 : Int32).toUInt32 &&& Int32.toUInt32 31)).toInt32) &&& 1431655765)) &&& 858993459) + ((((x0 - (((x0.toUInt32 >>> ((1 : Int32).toUInt32 &&& Int32.toUInt32 31)).toInt32) &&& 1431655765)).toUInt32 >>> ((2 : Int32).toUInt32 &&& Int32.toUInt32 31)).toInt32) &&& 858993459)) + (((((x0 - (((x0.toUInt32 >>> ((1 : Int32).toUInt32 &&& Int32.toUInt32 31)).toInt32) &&& 1431655765)) &&& 858993459) + ((((x0 - (((x0.toUInt32 >>> ((1 : Int32).toUInt32 &&& Int32.toUInt32 31)).toInt32) &&& 1431655765)).toUInt32 >>> ((2 : Int32).toUInt32 &&& Int32.toUInt32 31)).toInt32) &&& 858993459)).toUInt32 >>> ((4 : Int32).toUInt32 &&& Int32.toUInt32 31)).toInt32)) &&& 252645135) + (((((((x0 - (((x0.toUInt32 >>> ((1 : Int32).toUInt32 &&& Int32.toUInt32 31)).toInt32) &&& 1431655765)) &&& 858993459) + ((((x0 - (((x0.toUInt32 >>> ((1 : Int32).toUInt32 &&& Int32.toUInt32 31)).toInt32) &&& 1431655765)).toUInt32 >>> ((2 : Int32).toUInt32 &&& Int32.toUInt32 31)).toInt32) &&& 858993459)) + (((((x0 - (((x0.toUInt32 >>> ((1 : Int32).toUInt32 &&& Int32.toUInt32 31)).toInt32) &&& 1431655765)) &&& 858993459) + ((((x0 - (((x0.toUInt32 >>> ((1 : Int32).toUInt32 &&& Int32.toUInt32 31)).toInt32) &&& 1431655765)).toUInt32 >>> ((2 : Int32).toUInt32 &&& Int32.toUInt32 31)).toInt32) &&& 858993459)).toUInt32 >>> ((4 : Int32).toUInt32 &&& Int32.toUInt32 31)).toInt32)) &&& 252645135).toUInt32 >>> ((8 : Int32).toUInt32 &&& Int32.toUInt32 31)).toInt32)) + ((((((((x0 - (((x0.toUInt32 >>> ((1 : Int32).toUInt32 &&& Int32.toUInt32 31)).toInt32) &&& 1431655765)) &&& 858993459) + ((((x0 - (((x0.toUInt32 >>> ((1 : Int32).toUInt32 &&& Int32.toUInt32 31)).toInt32) &&& 1431655765)).toUInt32 >>> ((2 : Int32).toUInt32 &&& Int32.toUInt32 31)).toInt32) &&& 858993459)) + (((((x0 - (((x0.toUInt32 >>> ((1 : Int32).toUInt32 &&& Int32.toUInt32 31)).toInt32) &&& 1431655765)) &&& 858993459) + ((((x0 - (((x0.toUInt32 >>> ((1 : Int32).toUInt32 &&& Int32.toUInt32 31)).toInt32) &&& 1431655765)).toUInt32 >>> ((2 : Int32).toUInt32 &&& Int32.toUInt32 31)).toInt32) &&& 858993459)).toUInt32 >>> ((4 : Int32).toUInt32 &&& Int32.toUInt32 31)).toInt32)) &&& 252645135) + (((((((x0 - (((x0.toUInt32 >>> ((1 : Int32).toUInt32 &&& Int32.toUInt32 31)).toInt32) &&& 1431655765)) &&& 858993459) + ((((x0 - (((x0.toUInt32 >>> ((1 : Int32).toUInt32 &&& Int32.toUInt32 31)).toInt32) &&& 1431655765)).toUInt32 >>> ((2 : Int32).toUInt32 &&& Int32.toUInt32 31)).toInt32) &&& 858993459)) + (((((x0 - (((x0.toUInt32 >>> ((1 : Int32).toUInt32 &&& Int32.toUInt32 31)).toInt32) &&& 1431655765)) &&& 858993459) + ((((x0 - (((x0.toUInt32 >>> ((1 : Int32).toUInt32 &&& Int32.toUInt32 31)).toInt32) &&& 1431655765)).toUInt32 >>> ((2 : Int32).toUInt32 &&& Int32.toUInt32 31)).toInt32) &&& 858993459)).toUInt32 >>> ((4 : Int32).toUInt32 &&& Int32.toUInt32 31)).toInt32)) &&& 252645135).toUInt32 >>> ((8 : Int32).toUInt32 &&& Int32.toUInt32 31)).toInt32)).toUInt32 >>> ((16 : Int32).toUInt32 &&& Int32.toUInt32 31)).toInt32)) &&& 63)
set_option maxRecDepth 100000 in
set_option maxHeartbeats 4000000 in
theorem ev_J6_bitCount_0f7a4 {lay : List eLC} (x0 : Int32) (M : eMem) (q : Int32) (h : F_J6_bitCount_0f7a4 x0 = some q) : Ev lay 0 m_J6_bitCount_0f7a4 0 [some (.int x0)] [] M (some (.int q), M) := by
  rw [F_J6_bitCount_0f7a4] at h
  refine Ev.iload_n (pc := 0) dJ6_bitCount_0f7a4_0 rfl ?_
  refine Ev.iload_n (pc := 1) dJ6_bitCount_0f7a4_1 rfl ?_
  refine Ev.iconst (pc := 2) dJ6_bitCount_0f7a4_2 (v := 1) (by decide) ?_
  refine Ev.iushr (pc := 3) dJ6_bitCount_0f7a4_3 ?_
  refine Ev.ldcw (pc := 4) dJ6_bitCount_0f7a4_4 ld_RJ6_265 ?_
  refine Ev.iand (pc := 7) dJ6_bitCount_0f7a4_7 ?_
  refine Ev.isub (pc := 8) dJ6_bitCount_0f7a4_8 ?_
  refine Ev.istore_n (pc := 9) dJ6_bitCount_0f7a4_9 (by decide) rfl rfl ?_
  refine Ev.iload_n (pc := 10) dJ6_bitCount_0f7a4_10 rfl ?_
  refine Ev.ldcw (pc := 11) dJ6_bitCount_0f7a4_11 ld_RJ6_266 ?_
  refine Ev.iand (pc := 14) dJ6_bitCount_0f7a4_14 ?_
  refine Ev.iload_n (pc := 15) dJ6_bitCount_0f7a4_15 rfl ?_
  refine Ev.iconst (pc := 16) dJ6_bitCount_0f7a4_16 (v := 2) (by decide) ?_
  refine Ev.iushr (pc := 17) dJ6_bitCount_0f7a4_17 ?_
  refine Ev.ldcw (pc := 18) dJ6_bitCount_0f7a4_18 ld_RJ6_266 ?_
  refine Ev.iand (pc := 21) dJ6_bitCount_0f7a4_21 ?_
  refine Ev.iadd (pc := 22) dJ6_bitCount_0f7a4_22 ?_
  refine Ev.istore_n (pc := 23) dJ6_bitCount_0f7a4_23 (by decide) rfl rfl ?_
  refine Ev.iload_n (pc := 24) dJ6_bitCount_0f7a4_24 rfl ?_
  refine Ev.iload_n (pc := 25) dJ6_bitCount_0f7a4_25 rfl ?_
  refine Ev.iconst (pc := 26) dJ6_bitCount_0f7a4_26 (v := 4) (by decide) ?_
  refine Ev.iushr (pc := 27) dJ6_bitCount_0f7a4_27 ?_
  refine Ev.iadd (pc := 28) dJ6_bitCount_0f7a4_28 ?_
  refine Ev.ldcw (pc := 29) dJ6_bitCount_0f7a4_29 ld_RJ6_267 ?_
  refine Ev.iand (pc := 32) dJ6_bitCount_0f7a4_32 ?_
  refine Ev.istore_n (pc := 33) dJ6_bitCount_0f7a4_33 (by decide) rfl rfl ?_
  refine Ev.iload_n (pc := 34) dJ6_bitCount_0f7a4_34 rfl ?_
  refine Ev.iload_n (pc := 35) dJ6_bitCount_0f7a4_35 rfl ?_
  refine Ev.bipush (pc := 36) dJ6_bitCount_0f7a4_36 (v := 8) (by decide) ?_
  refine Ev.iushr (pc := 38) dJ6_bitCount_0f7a4_38 ?_
  refine Ev.iadd (pc := 39) dJ6_bitCount_0f7a4_39 ?_
  refine Ev.istore_n (pc := 40) dJ6_bitCount_0f7a4_40 (by decide) rfl rfl ?_
  refine Ev.iload_n (pc := 41) dJ6_bitCount_0f7a4_41 rfl ?_
  refine Ev.iload_n (pc := 42) dJ6_bitCount_0f7a4_42 rfl ?_
  refine Ev.bipush (pc := 43) dJ6_bitCount_0f7a4_43 (v := 16) (by decide) ?_
  refine Ev.iushr (pc := 45) dJ6_bitCount_0f7a4_45 ?_
  refine Ev.iadd (pc := 46) dJ6_bitCount_0f7a4_46 ?_
  refine Ev.istore_n (pc := 47) dJ6_bitCount_0f7a4_47 (by decide) rfl rfl ?_
  refine Ev.iload_n (pc := 48) dJ6_bitCount_0f7a4_48 rfl ?_
  refine Ev.bipush (pc := 49) dJ6_bitCount_0f7a4_49 (v := 63) (by decide) ?_
  refine Ev.iand (pc := 51) dJ6_bitCount_0f7a4_51 ?_
  obtain rfl := Option.some.inj h
  exact Ev.iret (pc := 52) dJ6_bitCount_0f7a4_52 rfl rfl
theorem dX5_needsOf_0 : decode cX5_needsOf 0 = .ok (.iconst 0, 1) := by decide +kernel
theorem dX5_needsOf_1 : decode cX5_needsOf 1 = .ok (.istore_n 2, 1) := by decide +kernel
theorem dX5_needsOf_2 : decode cX5_needsOf 2 = .ok (.iconst 0, 1) := by decide +kernel
theorem dX5_needsOf_3 : decode cX5_needsOf 3 = .ok (.istore_n 3, 1) := by decide +kernel
theorem dX5_needsOf_4 : decode cX5_needsOf 4 = .ok (.iload_n 3, 1) := by decide +kernel
theorem dX5_needsOf_5 : decode cX5_needsOf 5 = .ok (.aload_n 0, 1) := by decide +kernel
theorem dX5_needsOf_6 : decode cX5_needsOf 6 = .ok (.getfield 43, 3) := by decide +kernel
theorem dX5_needsOf_9 : decode cX5_needsOf 9 = .ok (.if_icmp .ge 25, 3) := by decide +kernel
theorem dX5_needsOf_12 : decode cX5_needsOf 12 = .ok (.iload_n 1, 1) := by decide +kernel
theorem dX5_needsOf_13 : decode cX5_needsOf 13 = .ok (.iload_n 3, 1) := by decide +kernel
theorem dX5_needsOf_14 : decode cX5_needsOf 14 = .ok (.ishr, 1) := by decide +kernel
theorem dX5_needsOf_15 : decode cX5_needsOf 15 = .ok (.iconst 1, 1) := by decide +kernel
theorem dX5_needsOf_16 : decode cX5_needsOf 16 = .ok (.iand, 1) := by decide +kernel
theorem dX5_needsOf_17 : decode cX5_needsOf 17 = .ok (.ifCond .eq 11, 3) := by decide +kernel
theorem dX5_needsOf_20 : decode cX5_needsOf 20 = .ok (.iload_n 2, 1) := by decide +kernel
theorem dX5_needsOf_21 : decode cX5_needsOf 21 = .ok (.aload_n 0, 1) := by decide +kernel
theorem dX5_needsOf_22 : decode cX5_needsOf 22 = .ok (.iload_n 3, 1) := by decide +kernel
theorem dX5_needsOf_23 : decode cX5_needsOf 23 = .ok (.invokevirtual 57, 3) := by decide +kernel
theorem dX5_needsOf_26 : decode cX5_needsOf 26 = .ok (.iadd, 1) := by decide +kernel
theorem dX5_needsOf_27 : decode cX5_needsOf 27 = .ok (.istore_n 2, 1) := by decide +kernel
theorem dX5_needsOf_28 : decode cX5_needsOf 28 = .ok (.iinc 3 1, 3) := by decide +kernel
theorem dX5_needsOf_31 : decode cX5_needsOf 31 = .ok (.goto (-27), 3) := by decide +kernel
theorem dX5_needsOf_34 : decode cX5_needsOf 34 = .ok (.iload_n 2, 1) := by decide +kernel
theorem dX5_needsOf_35 : decode cX5_needsOf 35 = .ok (.ireturn, 1) := by decide +kernel
def F_X5_needsOf_4  : Nat → eMem → Int32 → Int32 → Int32 → Option Int32
  | 0, _, _, _, _ => none
  | n + 1, M, v1, v2, v3 =>
    if v3 < (M.1 12 10) then
      if ((v1 >>> (v3 &&& 31)) &&& 1) = 0 then
        F_X5_needsOf_4 n M v1 v2 (v3 + 1)
      else
        (F_X5_need v3 M).bind fun q1 =>
        F_X5_needsOf_4 n M v1 (v2 + q1) (v3 + 1)
    else
      some v2
set_option maxRecDepth 100000 in
set_option maxHeartbeats 4000000 in
theorem ev_X5_needsOf_4  (q : Int32) (M : eMem)  : ∀ (fuel : Nat) (v1 : Int32) (v2 : Int32) (v3 : Int32), F_X5_needsOf_4 fuel M v1 v2 v3 = some q → Ev layC 1 m_X5_needsOf 4 [some (.ref 12), some (.int v1), some (.int v2), some (.int v3)] [] M (some (.int q), M) := by
  intro fuel
  induction fuel with
  | zero => intro v1 v2 v3 h; rw [F_X5_needsOf_4] at h; cases h
  | succ n ih =>
    intro v1 v2 v3 h
    rw [F_X5_needsOf_4] at h
    refine Ev.iload_n (pc := 4) dX5_needsOf_4 rfl ?_
    refine Ev.aload_n (pc := 5) dX5_needsOf_5 rfl ?_
    refine Ev.getI (pc := 6) dX5_needsOf_6 fl_RX5_43 lC_12 rfl ?_
    refine Ev.icmp_ge (pc := 9) (tgt := 34) dX5_needsOf_9 (by decide) (fun c9 => ?_) (fun c9 => ?_)
    · have h := eF h c9
      refine Ev.iload_n (pc := 34) dX5_needsOf_34 rfl ?_
      obtain rfl := Option.some.inj h
      exact Ev.iret (pc := 35) dX5_needsOf_35 rfl rfl
    · have h := eT h c9
      refine Ev.iload_n (pc := 12) dX5_needsOf_12 rfl ?_
      refine Ev.iload_n (pc := 13) dX5_needsOf_13 rfl ?_
      refine Ev.ishr (pc := 14) dX5_needsOf_14 ?_
      refine Ev.iconst (pc := 15) dX5_needsOf_15 (v := 1) (by decide) ?_
      refine Ev.iand (pc := 16) dX5_needsOf_16 ?_
      refine Ev.if_eq (pc := 17) (tgt := 28) dX5_needsOf_17 (by decide) (fun c9 => ?_) (fun c9 => ?_)
      · have h := eT h c9
        refine Ev.iincv (pc := 28) dX5_needsOf_28 (v := 1) (by decide) rfl (by decide) rfl rfl ?_
        refine Ev.goto (pc := 31) (tgt := 4) dX5_needsOf_31 (by decide) ?_
        exact Ev.fg (ih _ _ _ h) (And.intro rfl (And.intro rfl (And.intro rfl (And.intro rfl trivial))))
      · have h := eF h c9
        refine Ev.iload_n (pc := 20) dX5_needsOf_20 rfl ?_
        refine Ev.aload_n (pc := 21) dX5_needsOf_21 rfl ?_
        refine Ev.iload_n (pc := 22) dX5_needsOf_22 rfl ?_
        refine eBk h (fun q1 hq1 h => ?_)
        refine Ev.callV (pc := 23) (as := [.int v3]) (st := [.int v2]) (z := 0) dX5_needsOf_23 wc_X5_need ml_RX5_57 im_X5_need se_X5_need lC_12 rfl rfl (ev_X5_need v3 M _ hq1) rfl rfl (by decide) rfl rfl (Nat.le_of_ble_eq_true rfl) ?_
        refine Ev.iadd (pc := 26) dX5_needsOf_26 ?_
        refine Ev.istore_n (pc := 27) dX5_needsOf_27 (by decide) rfl rfl ?_
        refine Ev.iincv (pc := 28) dX5_needsOf_28 (v := 1) (by decide) rfl (by decide) rfl rfl ?_
        refine Ev.goto (pc := 31) (tgt := 4) dX5_needsOf_31 (by decide) ?_
        exact Ev.fg (ih _ _ _ h) (And.intro rfl (And.intro rfl (And.intro rfl (And.intro rfl trivial))))
def F_X5_needsOf (x1 : Int32) (M : eMem) : Option Int32 :=
  F_X5_needsOf_4 eFuel M x1 0 0
set_option maxRecDepth 100000 in
set_option maxHeartbeats 4000000 in
theorem ev_X5_needsOf (x1 : Int32) (M : eMem) (q : Int32) (h : F_X5_needsOf x1 M = some q) : Ev layC 1 m_X5_needsOf 0 [some (.ref 12), some (.int x1), none, none] [] M (some (.int q), M) := by
  rw [F_X5_needsOf] at h
  refine Ev.iconst (pc := 0) dX5_needsOf_0 (v := 0) (by decide) ?_
  refine Ev.istore_n (pc := 1) dX5_needsOf_1 (by decide) rfl rfl ?_
  refine Ev.iconst (pc := 2) dX5_needsOf_2 (v := 0) (by decide) ?_
  refine Ev.istore_n (pc := 3) dX5_needsOf_3 (by decide) rfl rfl ?_
  exact Ev.fg (ev_X5_needsOf_4 _ _ _ _ _ _ h) (And.intro rfl (And.intro rfl (And.intro rfl (And.intro rfl trivial))))
theorem dX5_pricesOf_0 : decode cX5_pricesOf 0 = .ok (.iconst 0, 1) := by decide +kernel
theorem dX5_pricesOf_1 : decode cX5_pricesOf 1 = .ok (.istore_n 2, 1) := by decide +kernel
theorem dX5_pricesOf_2 : decode cX5_pricesOf 2 = .ok (.iconst 0, 1) := by decide +kernel
theorem dX5_pricesOf_3 : decode cX5_pricesOf 3 = .ok (.istore_n 3, 1) := by decide +kernel
theorem dX5_pricesOf_4 : decode cX5_pricesOf 4 = .ok (.iload_n 3, 1) := by decide +kernel
theorem dX5_pricesOf_5 : decode cX5_pricesOf 5 = .ok (.aload_n 0, 1) := by decide +kernel
theorem dX5_pricesOf_6 : decode cX5_pricesOf 6 = .ok (.getfield 43, 3) := by decide +kernel
theorem dX5_pricesOf_9 : decode cX5_pricesOf 9 = .ok (.if_icmp .ge 25, 3) := by decide +kernel
theorem dX5_pricesOf_12 : decode cX5_pricesOf 12 = .ok (.iload_n 1, 1) := by decide +kernel
theorem dX5_pricesOf_13 : decode cX5_pricesOf 13 = .ok (.iload_n 3, 1) := by decide +kernel
theorem dX5_pricesOf_14 : decode cX5_pricesOf 14 = .ok (.ishr, 1) := by decide +kernel
theorem dX5_pricesOf_15 : decode cX5_pricesOf 15 = .ok (.iconst 1, 1) := by decide +kernel
theorem dX5_pricesOf_16 : decode cX5_pricesOf 16 = .ok (.iand, 1) := by decide +kernel
theorem dX5_pricesOf_17 : decode cX5_pricesOf 17 = .ok (.ifCond .eq 11, 3) := by decide +kernel
theorem dX5_pricesOf_20 : decode cX5_pricesOf 20 = .ok (.iload_n 2, 1) := by decide +kernel
theorem dX5_pricesOf_21 : decode cX5_pricesOf 21 = .ok (.aload_n 0, 1) := by decide +kernel
theorem dX5_pricesOf_22 : decode cX5_pricesOf 22 = .ok (.iload_n 3, 1) := by decide +kernel
theorem dX5_pricesOf_23 : decode cX5_pricesOf 23 = .ok (.invokevirtual 61, 3) := by decide +kernel
theorem dX5_pricesOf_26 : decode cX5_pricesOf 26 = .ok (.iadd, 1) := by decide +kernel
theorem dX5_pricesOf_27 : decode cX5_pricesOf 27 = .ok (.istore_n 2, 1) := by decide +kernel
theorem dX5_pricesOf_28 : decode cX5_pricesOf 28 = .ok (.iinc 3 1, 3) := by decide +kernel
theorem dX5_pricesOf_31 : decode cX5_pricesOf 31 = .ok (.goto (-27), 3) := by decide +kernel
theorem dX5_pricesOf_34 : decode cX5_pricesOf 34 = .ok (.iload_n 2, 1) := by decide +kernel
theorem dX5_pricesOf_35 : decode cX5_pricesOf 35 = .ok (.ireturn, 1) := by decide +kernel
def F_X5_pricesOf_4  : Nat → eMem → Int32 → Int32 → Int32 → Option Int32
  | 0, _, _, _, _ => none
  | n + 1, M, v1, v2, v3 =>
    if v3 < (M.1 12 10) then
      if ((v1 >>> (v3 &&& 31)) &&& 1) = 0 then
        F_X5_pricesOf_4 n M v1 v2 (v3 + 1)
      else
        (F_X5_price v3 M).bind fun q1 =>
        F_X5_pricesOf_4 n M v1 (v2 + q1) (v3 + 1)
    else
      some v2
set_option maxRecDepth 100000 in
set_option maxHeartbeats 4000000 in
theorem ev_X5_pricesOf_4  (q : Int32) (M : eMem)  : ∀ (fuel : Nat) (v1 : Int32) (v2 : Int32) (v3 : Int32), F_X5_pricesOf_4 fuel M v1 v2 v3 = some q → Ev layC 1 m_X5_pricesOf 4 [some (.ref 12), some (.int v1), some (.int v2), some (.int v3)] [] M (some (.int q), M) := by
  intro fuel
  induction fuel with
  | zero => intro v1 v2 v3 h; rw [F_X5_pricesOf_4] at h; cases h
  | succ n ih =>
    intro v1 v2 v3 h
    rw [F_X5_pricesOf_4] at h
    refine Ev.iload_n (pc := 4) dX5_pricesOf_4 rfl ?_
    refine Ev.aload_n (pc := 5) dX5_pricesOf_5 rfl ?_
    refine Ev.getI (pc := 6) dX5_pricesOf_6 fl_RX5_43 lC_12 rfl ?_
    refine Ev.icmp_ge (pc := 9) (tgt := 34) dX5_pricesOf_9 (by decide) (fun c9 => ?_) (fun c9 => ?_)
    · have h := eF h c9
      refine Ev.iload_n (pc := 34) dX5_pricesOf_34 rfl ?_
      obtain rfl := Option.some.inj h
      exact Ev.iret (pc := 35) dX5_pricesOf_35 rfl rfl
    · have h := eT h c9
      refine Ev.iload_n (pc := 12) dX5_pricesOf_12 rfl ?_
      refine Ev.iload_n (pc := 13) dX5_pricesOf_13 rfl ?_
      refine Ev.ishr (pc := 14) dX5_pricesOf_14 ?_
      refine Ev.iconst (pc := 15) dX5_pricesOf_15 (v := 1) (by decide) ?_
      refine Ev.iand (pc := 16) dX5_pricesOf_16 ?_
      refine Ev.if_eq (pc := 17) (tgt := 28) dX5_pricesOf_17 (by decide) (fun c9 => ?_) (fun c9 => ?_)
      · have h := eT h c9
        refine Ev.iincv (pc := 28) dX5_pricesOf_28 (v := 1) (by decide) rfl (by decide) rfl rfl ?_
        refine Ev.goto (pc := 31) (tgt := 4) dX5_pricesOf_31 (by decide) ?_
        exact Ev.fg (ih _ _ _ h) (And.intro rfl (And.intro rfl (And.intro rfl (And.intro rfl trivial))))
      · have h := eF h c9
        refine Ev.iload_n (pc := 20) dX5_pricesOf_20 rfl ?_
        refine Ev.aload_n (pc := 21) dX5_pricesOf_21 rfl ?_
        refine Ev.iload_n (pc := 22) dX5_pricesOf_22 rfl ?_
        refine eBk h (fun q1 hq1 h => ?_)
        refine Ev.callV (pc := 23) (as := [.int v3]) (st := [.int v2]) (z := 0) dX5_pricesOf_23 wc_X5_price ml_RX5_61 im_X5_price se_X5_price lC_12 rfl rfl (ev_X5_price v3 M _ hq1) rfl rfl (by decide) rfl rfl (Nat.le_of_ble_eq_true rfl) ?_
        refine Ev.iadd (pc := 26) dX5_pricesOf_26 ?_
        refine Ev.istore_n (pc := 27) dX5_pricesOf_27 (by decide) rfl rfl ?_
        refine Ev.iincv (pc := 28) dX5_pricesOf_28 (v := 1) (by decide) rfl (by decide) rfl rfl ?_
        refine Ev.goto (pc := 31) (tgt := 4) dX5_pricesOf_31 (by decide) ?_
        exact Ev.fg (ih _ _ _ h) (And.intro rfl (And.intro rfl (And.intro rfl (And.intro rfl trivial))))
def F_X5_pricesOf (x1 : Int32) (M : eMem) : Option Int32 :=
  F_X5_pricesOf_4 eFuel M x1 0 0
set_option maxRecDepth 100000 in
set_option maxHeartbeats 4000000 in
theorem ev_X5_pricesOf (x1 : Int32) (M : eMem) (q : Int32) (h : F_X5_pricesOf x1 M = some q) : Ev layC 1 m_X5_pricesOf 0 [some (.ref 12), some (.int x1), none, none] [] M (some (.int q), M) := by
  rw [F_X5_pricesOf] at h
  refine Ev.iconst (pc := 0) dX5_pricesOf_0 (v := 0) (by decide) ?_
  refine Ev.istore_n (pc := 1) dX5_pricesOf_1 (by decide) rfl rfl ?_
  refine Ev.iconst (pc := 2) dX5_pricesOf_2 (v := 0) (by decide) ?_
  refine Ev.istore_n (pc := 3) dX5_pricesOf_3 (by decide) rfl rfl ?_
  exact Ev.fg (ev_X5_pricesOf_4 _ _ _ _ _ _ h) (And.intro rfl (And.intro rfl (And.intro rfl (And.intro rfl trivial))))
theorem dX5_credit_0 : decode cX5_credit 0 = .ok (.aload_n 0, 1) := by decide +kernel
theorem dX5_credit_1 : decode cX5_credit 1 = .ok (.getfield 9, 3) := by decide +kernel
theorem dX5_credit_4 : decode cX5_credit 4 = .ok (.iload_n 1, 1) := by decide +kernel
theorem dX5_credit_5 : decode cX5_credit 5 = .ok (.iaload, 1) := by decide +kernel
theorem dX5_credit_6 : decode cX5_credit 6 = .ok (.tableswitch 41 3 6 #[30, 32, 32, 39], 30) := by decide +kernel
theorem dX5_credit_36 : decode cX5_credit 36 = .ok (.iconst 1, 1) := by decide +kernel
theorem dX5_credit_37 : decode cX5_credit 37 = .ok (.ireturn, 1) := by decide +kernel
theorem dX5_credit_38 : decode cX5_credit 38 = .ok (.aload_n 0, 1) := by decide +kernel
theorem dX5_credit_39 : decode cX5_credit 39 = .ok (.getfield 21, 3) := by decide +kernel
theorem dX5_credit_42 : decode cX5_credit 42 = .ok (.iload_n 1, 1) := by decide +kernel
theorem dX5_credit_43 : decode cX5_credit 43 = .ok (.iaload, 1) := by decide +kernel
theorem dX5_credit_44 : decode cX5_credit 44 = .ok (.ireturn, 1) := by decide +kernel
theorem dX5_credit_45 : decode cX5_credit 45 = .ok (.iconst 0, 1) := by decide +kernel
theorem dX5_credit_46 : decode cX5_credit 46 = .ok (.ireturn, 1) := by decide +kernel
theorem dX5_credit_47 : decode cX5_credit 47 = .ok (.iconst 2, 1) := by decide +kernel
theorem dX5_credit_48 : decode cX5_credit 48 = .ok (.ireturn, 1) := by decide +kernel
def F_X5_credit (x1 : Int32) (M : eMem) : Option Int32 :=
  eG (eIn x1 20) <|
  if (M.1 13 x1.toNatClampNeg) = 3 then
    some 1
  else
  if (M.1 13 x1.toNatClampNeg) = 4 then
    eG (eIn x1 20) <|
    some (M.1 16 x1.toNatClampNeg)
  else
  if (M.1 13 x1.toNatClampNeg) = 5 then
    eG (eIn x1 20) <|
    some (M.1 16 x1.toNatClampNeg)
  else
  if (M.1 13 x1.toNatClampNeg) = 6 then
    some 0
  else
  some 2
set_option maxRecDepth 100000 in
set_option maxHeartbeats 4000000 in
theorem ev_X5_credit (x1 : Int32) (M : eMem) (q : Int32) (h : F_X5_credit x1 M = some q) : Ev layC 0 m_X5_credit 0 [some (.ref 12), some (.int x1)] [] M (some (.int q), M) := by
  rw [F_X5_credit] at h
  refine Ev.aload_n (pc := 0) dX5_credit_0 rfl ?_
  refine Ev.getR (pc := 1) dX5_credit_1 fl_RX5_9 lC_12 rfl ?_
  refine Ev.iload_n (pc := 4) dX5_credit_4 rfl ?_
  obtain ⟨g9, h⟩ := eGdB h
  refine Ev.ialdj (pc := 5) dX5_credit_5 (j := x1.toNatClampNeg) lC_13 g9 rfl ?_
  by_cases cs1 : (M.1 13 x1.toNatClampNeg) = 3
  · have h := eT h cs1
    refine Ev.tsIn (pc := 6) (tgt := 36) (off := 30) dX5_credit_6 (by rw [cs1]; decide) (by rw [cs1]; decide) (by rw [cs1]; rfl) (by decide) ?_
    refine Ev.iconst (pc := 36) dX5_credit_36 (v := 1) (by decide) ?_
    obtain rfl := Option.some.inj h
    exact Ev.iret (pc := 37) dX5_credit_37 rfl rfl
  have h := eF h cs1
  by_cases cs2 : (M.1 13 x1.toNatClampNeg) = 4
  · have h := eT h cs2
    refine Ev.tsIn (pc := 6) (tgt := 38) (off := 32) dX5_credit_6 (by rw [cs2]; decide) (by rw [cs2]; decide) (by rw [cs2]; rfl) (by decide) ?_
    refine Ev.aload_n (pc := 38) dX5_credit_38 rfl ?_
    refine Ev.getR (pc := 39) dX5_credit_39 fl_RX5_21 lC_12 rfl ?_
    refine Ev.iload_n (pc := 42) dX5_credit_42 rfl ?_
    obtain ⟨g9, h⟩ := eGdB h
    refine Ev.ialdj (pc := 43) dX5_credit_43 (j := x1.toNatClampNeg) lC_16 g9 rfl ?_
    obtain rfl := Option.some.inj h
    exact Ev.iret (pc := 44) dX5_credit_44 rfl rfl
  have h := eF h cs2
  by_cases cs3 : (M.1 13 x1.toNatClampNeg) = 5
  · have h := eT h cs3
    refine Ev.tsIn (pc := 6) (tgt := 38) (off := 32) dX5_credit_6 (by rw [cs3]; decide) (by rw [cs3]; decide) (by rw [cs3]; rfl) (by decide) ?_
    refine Ev.aload_n (pc := 38) dX5_credit_38 rfl ?_
    refine Ev.getR (pc := 39) dX5_credit_39 fl_RX5_21 lC_12 rfl ?_
    refine Ev.iload_n (pc := 42) dX5_credit_42 rfl ?_
    obtain ⟨g9, h⟩ := eGdB h
    refine Ev.ialdj (pc := 43) dX5_credit_43 (j := x1.toNatClampNeg) lC_16 g9 rfl ?_
    obtain rfl := Option.some.inj h
    exact Ev.iret (pc := 44) dX5_credit_44 rfl rfl
  have h := eF h cs3
  by_cases cs4 : (M.1 13 x1.toNatClampNeg) = 6
  · have h := eT h cs4
    refine Ev.tsIn (pc := 6) (tgt := 45) (off := 39) dX5_credit_6 (by rw [cs4]; decide) (by rw [cs4]; decide) (by rw [cs4]; rfl) (by decide) ?_
    refine Ev.iconst (pc := 45) dX5_credit_45 (v := 0) (by decide) ?_
    obtain rfl := Option.some.inj h
    exact Ev.iret (pc := 46) dX5_credit_46 rfl rfl
  have h := eF h cs4
  refine Ev.tsOut (pc := 6) (tgt := 47) dX5_credit_6 (eTsO 4 (by decide) (by decide) (by decide) (by
    intro k hk
    rcases (show k = 0 ∨ k = 1 ∨ k = 2 ∨ k = 3 by omega) with rfl | rfl | rfl | rfl
    · exact cs1
    · exact cs2
    · exact cs3
    · exact cs4
    )) (by decide) ?_
  refine Ev.iconst (pc := 47) dX5_credit_47 (v := 2) (by decide) ?_
  obtain rfl := Option.some.inj h
  exact Ev.iret (pc := 48) dX5_credit_48 rfl rfl
theorem dX3_putGiven_0 : decode cX3_putGiven 0 = .ok (.aload_n 0, 1) := by decide +kernel
theorem dX3_putGiven_1 : decode cX3_putGiven 1 = .ok (.iload_n 1, 1) := by decide +kernel
theorem dX3_putGiven_2 : decode cX3_putGiven 2 = .ok (.invokestatic 78, 3) := by decide +kernel
theorem dX3_putGiven_5 : decode cX3_putGiven 5 = .ok (.invokevirtual 84, 3) := by decide +kernel
theorem dX3_putGiven_8 : decode cX3_putGiven 8 = .ok (.iconst 0, 1) := by decide +kernel
theorem dX3_putGiven_9 : decode cX3_putGiven 9 = .ok (.istore_n 3, 1) := by decide +kernel
theorem dX3_putGiven_10 : decode cX3_putGiven 10 = .ok (.iload_n 3, 1) := by decide +kernel
theorem dX3_putGiven_11 : decode cX3_putGiven 11 = .ok (.aload_n 2, 1) := by decide +kernel
theorem dX3_putGiven_12 : decode cX3_putGiven 12 = .ok (.getfield 88, 3) := by decide +kernel
theorem dX3_putGiven_15 : decode cX3_putGiven 15 = .ok (.if_icmp .ge 33, 3) := by decide +kernel
theorem dX3_putGiven_18 : decode cX3_putGiven 18 = .ok (.iload_n 1, 1) := by decide +kernel
theorem dX3_putGiven_19 : decode cX3_putGiven 19 = .ok (.iload_n 3, 1) := by decide +kernel
theorem dX3_putGiven_20 : decode cX3_putGiven 20 = .ok (.ishr, 1) := by decide +kernel
theorem dX3_putGiven_21 : decode cX3_putGiven 21 = .ok (.iconst 1, 1) := by decide +kernel
theorem dX3_putGiven_22 : decode cX3_putGiven 22 = .ok (.iand, 1) := by decide +kernel
theorem dX3_putGiven_23 : decode cX3_putGiven 23 = .ok (.ifCond .eq 19, 3) := by decide +kernel
theorem dX3_putGiven_26 : decode cX3_putGiven 26 = .ok (.aload_n 0, 1) := by decide +kernel
theorem dX3_putGiven_27 : decode cX3_putGiven 27 = .ok (.aload_n 2, 1) := by decide +kernel
theorem dX3_putGiven_28 : decode cX3_putGiven 28 = .ok (.getfield 91, 3) := by decide +kernel
theorem dX3_putGiven_31 : decode cX3_putGiven 31 = .ok (.iload_n 3, 1) := by decide +kernel
theorem dX3_putGiven_32 : decode cX3_putGiven 32 = .ok (.iaload, 1) := by decide +kernel
theorem dX3_putGiven_33 : decode cX3_putGiven 33 = .ok (.iconst 1, 1) := by decide +kernel
theorem dX3_putGiven_34 : decode cX3_putGiven 34 = .ok (.aload_n 2, 1) := by decide +kernel
theorem dX3_putGiven_35 : decode cX3_putGiven 35 = .ok (.iload_n 3, 1) := by decide +kernel
theorem dX3_putGiven_36 : decode cX3_putGiven 36 = .ok (.invokevirtual 92, 3) := by decide +kernel
theorem dX3_putGiven_39 : decode cX3_putGiven 39 = .ok (.invokevirtual 62, 3) := by decide +kernel
theorem dX3_putGiven_42 : decode cX3_putGiven 42 = .ok (.iinc 3 1, 3) := by decide +kernel
theorem dX3_putGiven_45 : decode cX3_putGiven 45 = .ok (.goto (-35), 3) := by decide +kernel
theorem dX3_putGiven_48 : decode cX3_putGiven 48 = .ok (.return_, 1) := by decide +kernel
def F_X3_putGiven_10  : Nat → Int32 → Int32 → eMem → Option eMem
  | 0, _, _, _ => none
  | n + 1, v1, v3, M =>
    if v3 < (M.1 12 10) then
      if ((v1 >>> (v3 &&& 31)) &&& 1) = 0 then
        F_X3_putGiven_10 n v1 (v3 + 1) M
      else
        eG (eIn v3 20) <|
        (F_X5_credit v3 M).bind fun q3 =>
        (F_X3_put (M.1 14 v3.toNatClampNeg) 1 q3 M).bind fun q4 =>
        F_X3_putGiven_10 n v1 (v3 + 1) q4
    else
      some M
set_option maxRecDepth 100000 in
set_option maxHeartbeats 4000000 in
theorem ev_X3_putGiven_10  (q : eMem)  : ∀ (fuel : Nat) (v1 : Int32) (v3 : Int32) (M : eMem), F_X3_putGiven_10 fuel v1 v3 M = some q → Ev layC 2 m_X3_putGiven 10 [some (.ref 55), some (.int v1), some (.ref 12), some (.int v3)] [] M (none, q) := by
  intro fuel
  induction fuel with
  | zero => intro v1 v3 M h; rw [F_X3_putGiven_10] at h; cases h
  | succ n ih =>
    intro v1 v3 M h
    rw [F_X3_putGiven_10] at h
    refine Ev.iload_n (pc := 10) dX3_putGiven_10 rfl ?_
    refine Ev.aload_n (pc := 11) dX3_putGiven_11 rfl ?_
    refine Ev.getI (pc := 12) dX3_putGiven_12 fl_RX3_88 lC_12 rfl ?_
    refine Ev.icmp_ge (pc := 15) (tgt := 48) dX3_putGiven_15 (by decide) (fun c9 => ?_) (fun c9 => ?_)
    · have h := eF h c9
      obtain rfl := Option.some.inj h
      exact Ev.vret (pc := 48) dX3_putGiven_48 rfl
    · have h := eT h c9
      refine Ev.iload_n (pc := 18) dX3_putGiven_18 rfl ?_
      refine Ev.iload_n (pc := 19) dX3_putGiven_19 rfl ?_
      refine Ev.ishr (pc := 20) dX3_putGiven_20 ?_
      refine Ev.iconst (pc := 21) dX3_putGiven_21 (v := 1) (by decide) ?_
      refine Ev.iand (pc := 22) dX3_putGiven_22 ?_
      refine Ev.if_eq (pc := 23) (tgt := 42) dX3_putGiven_23 (by decide) (fun c9 => ?_) (fun c9 => ?_)
      · have h := eT h c9
        refine Ev.iincv (pc := 42) dX3_putGiven_42 (v := 1) (by decide) rfl (by decide) rfl rfl ?_
        refine Ev.goto (pc := 45) (tgt := 10) dX3_putGiven_45 (by decide) ?_
        exact Ev.fg (ih _ _ _ h) (And.intro rfl (And.intro rfl (And.intro rfl (And.intro rfl trivial))))
      · have h := eF h c9
        refine Ev.aload_n (pc := 26) dX3_putGiven_26 rfl ?_
        refine Ev.aload_n (pc := 27) dX3_putGiven_27 rfl ?_
        refine Ev.getR (pc := 28) dX3_putGiven_28 fl_RX3_91 lC_12 rfl ?_
        refine Ev.iload_n (pc := 31) dX3_putGiven_31 rfl ?_
        obtain ⟨g9, h⟩ := eGdB h
        refine Ev.ialdj (pc := 32) dX3_putGiven_32 (j := v3.toNatClampNeg) lC_14 g9 rfl ?_
        refine Ev.iconst (pc := 33) dX3_putGiven_33 (v := 1) (by decide) ?_
        refine Ev.aload_n (pc := 34) dX3_putGiven_34 rfl ?_
        refine Ev.iload_n (pc := 35) dX3_putGiven_35 rfl ?_
        refine eBk h (fun q3 hq3 h => ?_)
        refine Ev.callV (pc := 36) (as := [.int v3]) (st := [.int 1, .int (M.1 14 v3.toNatClampNeg), .ref 55]) (z := 0) dX3_putGiven_36 wc_X5_credit ml_RX3_92 im_X5_credit se_X5_credit lC_12 rfl rfl (ev_X5_credit v3 M _ hq3) rfl rfl (by decide) rfl rfl (Nat.le_of_ble_eq_true rfl) ?_
        refine eBk h (fun q4 hq4 h => ?_)
        refine Ev.callV (pc := 39) (as := [.int (M.1 14 v3.toNatClampNeg), .int 1, .int q3]) (st := []) (z := 1) dX3_putGiven_39 wc_X3_put ml_RX3_62 im_X3_put se_X3_put lC_55 rfl rfl (ev_X3_put (M.1 14 v3.toNatClampNeg) 1 q3 M _ hq4) rfl rfl (by decide) rfl rfl (Nat.le_of_ble_eq_true rfl) ?_
        refine Ev.iincv (pc := 42) dX3_putGiven_42 (v := 1) (by decide) rfl (by decide) rfl rfl ?_
        refine Ev.goto (pc := 45) (tgt := 10) dX3_putGiven_45 (by decide) ?_
        exact Ev.fg (ih _ _ _ h) (And.intro rfl (And.intro rfl (And.intro rfl (And.intro rfl trivial))))
def F_X3_putGiven (x1 : Int32) (M : eMem) : Option eMem :=
  (F_J6_bitCount_0f7a4 x1).bind fun q1 =>
  (F_X3_leaveRoomFor q1 M).bind fun q2 =>
  F_X3_putGiven_10 eFuel x1 0 q2
set_option maxRecDepth 100000 in
set_option maxHeartbeats 4000000 in
theorem ev_X3_putGiven (x1 : Int32) (M : eMem) (q : eMem) (h : F_X3_putGiven x1 M = some q) : Ev layC 2 m_X3_putGiven 0 [some (.ref 55), some (.int x1), some (.ref 12), none] [] M (none, q) := by
  rw [F_X3_putGiven] at h
  refine Ev.aload_n (pc := 0) dX3_putGiven_0 rfl ?_
  refine Ev.iload_n (pc := 1) dX3_putGiven_1 rfl ?_
  refine eBk h (fun q1 hq1 h => ?_)
  refine Ev.callS (pc := 2) (as := [.int x1]) (st := [.ref 55]) (z := 0) dX3_putGiven_2 wc_J6_bitCount_0f7a4 ml_RX3_78 sm_J6_bitCount_0f7a4 (ev_J6_bitCount_0f7a4 x1 M _ hq1) rfl rfl (by decide) rfl rfl (Nat.le_of_ble_eq_true rfl) ?_
  refine eBk h (fun q2 hq2 h => ?_)
  refine Ev.callV (pc := 5) (as := [.int q1]) (st := []) (z := 1) dX3_putGiven_5 wc_X3_leaveRoomFor ml_RX3_84 im_X3_leaveRoomFor se_X3_leaveRoomFor lC_55 rfl rfl (ev_X3_leaveRoomFor q1 M _ hq2) rfl rfl (by decide) rfl rfl (Nat.le_of_ble_eq_true rfl) ?_
  refine Ev.iconst (pc := 8) dX3_putGiven_8 (v := 0) (by decide) ?_
  refine Ev.istore_n (pc := 9) dX3_putGiven_9 (by decide) rfl rfl ?_
  exact Ev.fg (ev_X3_putGiven_10 _ _ _ _ _ h) (And.intro rfl (And.intro rfl (And.intro rfl (And.intro rfl trivial))))
theorem dX8_planFor_0 : decode cX8_planFor 0 = .ok (.aload_n 0, 1) := by decide +kernel
theorem dX8_planFor_1 : decode cX8_planFor 1 = .ok (.getfield 56, 3) := by decide +kernel
theorem dX8_planFor_4 : decode cX8_planFor 4 = .ok (.aload_n 0, 1) := by decide +kernel
theorem dX8_planFor_5 : decode cX8_planFor 5 = .ok (.getfield 35, 3) := by decide +kernel
theorem dX8_planFor_8 : decode cX8_planFor 8 = .ok (.aload_n 0, 1) := by decide +kernel
theorem dX8_planFor_9 : decode cX8_planFor 9 = .ok (.getfield 21, 3) := by decide +kernel
theorem dX8_planFor_12 : decode cX8_planFor 12 = .ok (.aload_n 0, 1) := by decide +kernel
theorem dX8_planFor_13 : decode cX8_planFor 13 = .ok (.getfield 12, 3) := by decide +kernel
theorem dX8_planFor_16 : decode cX8_planFor 16 = .ok (.getfield 85, 3) := by decide +kernel
theorem dX8_planFor_19 : decode cX8_planFor 19 = .ok (.invokevirtual 150, 3) := by decide +kernel
theorem dX8_planFor_22 : decode cX8_planFor 22 = .ok (.iconst 0, 1) := by decide +kernel
theorem dX8_planFor_23 : decode cX8_planFor 23 = .ok (.istore 5, 2) := by decide +kernel
theorem dX8_planFor_25 : decode cX8_planFor 25 = .ok (.lconst 0, 1) := by decide +kernel
theorem dX8_planFor_26 : decode cX8_planFor 26 = .ok (.lstore 6, 2) := by decide +kernel
theorem dX8_planFor_28 : decode cX8_planFor 28 = .ok (.lconst 1, 1) := by decide +kernel
theorem dX8_planFor_29 : decode cX8_planFor 29 = .ok (.lstore 8, 2) := by decide +kernel
theorem dX8_planFor_31 : decode cX8_planFor 31 = .ok (.iconst 0, 1) := by decide +kernel
theorem dX8_planFor_32 : decode cX8_planFor 32 = .ok (.istore 10, 2) := by decide +kernel
theorem dX8_planFor_34 : decode cX8_planFor 34 = .ok (.iconst 0, 1) := by decide +kernel
theorem dX8_planFor_35 : decode cX8_planFor 35 = .ok (.istore 11, 2) := by decide +kernel
theorem dX8_planFor_37 : decode cX8_planFor 37 = .ok (.iload 11, 2) := by decide +kernel
theorem dX8_planFor_39 : decode cX8_planFor 39 = .ok (.sipush 512, 3) := by decide +kernel
theorem dX8_planFor_42 : decode cX8_planFor 42 = .ok (.if_icmp .ge 149, 3) := by decide +kernel
theorem dX8_planFor_45 : decode cX8_planFor 45 = .ok (.aload_n 0, 1) := by decide +kernel
theorem dX8_planFor_46 : decode cX8_planFor 46 = .ok (.getfield 21, 3) := by decide +kernel
theorem dX8_planFor_49 : decode cX8_planFor 49 = .ok (.iload 10, 2) := by decide +kernel
theorem dX8_planFor_51 : decode cX8_planFor 51 = .ok (.invokevirtual 168, 3) := by decide +kernel
theorem dX8_planFor_54 : decode cX8_planFor 54 = .ok (.iload_n 3, 1) := by decide +kernel
theorem dX8_planFor_55 : decode cX8_planFor 55 = .ok (.if_icmp .gt 114, 3) := by decide +kernel
theorem dX8_planFor_58 : decode cX8_planFor 58 = .ok (.aload_n 0, 1) := by decide +kernel
theorem dX8_planFor_59 : decode cX8_planFor 59 = .ok (.getfield 21, 3) := by decide +kernel
theorem dX8_planFor_62 : decode cX8_planFor 62 = .ok (.iload 10, 2) := by decide +kernel
theorem dX8_planFor_64 : decode cX8_planFor 64 = .ok (.invokevirtual 171, 3) := by decide +kernel
theorem dX8_planFor_67 : decode cX8_planFor 67 = .ok (.iload 4, 2) := by decide +kernel
theorem dX8_planFor_69 : decode cX8_planFor 69 = .ok (.if_icmp .gt 100, 3) := by decide +kernel
theorem dX8_planFor_72 : decode cX8_planFor 72 = .ok (.aload_n 0, 1) := by decide +kernel
theorem dX8_planFor_73 : decode cX8_planFor 73 = .ok (.getfield 56, 3) := by decide +kernel
theorem dX8_planFor_76 : decode cX8_planFor 76 = .ok (.iload 10, 2) := by decide +kernel
theorem dX8_planFor_78 : decode cX8_planFor 78 = .ok (.aload_n 0, 1) := by decide +kernel
theorem dX8_planFor_79 : decode cX8_planFor 79 = .ok (.getfield 21, 3) := by decide +kernel
theorem dX8_planFor_82 : decode cX8_planFor 82 = .ok (.invokevirtual 174, 3) := by decide +kernel
theorem dX8_planFor_85 : decode cX8_planFor 85 = .ok (.aload_n 0, 1) := by decide +kernel
theorem dX8_planFor_86 : decode cX8_planFor 86 = .ok (.getfield 56, 3) := by decide +kernel
theorem dX8_planFor_89 : decode cX8_planFor 89 = .ok (.getfield 178, 3) := by decide +kernel
theorem dX8_planFor_92 : decode cX8_planFor 92 = .ok (.iload_n 1, 1) := by decide +kernel
theorem dX8_planFor_93 : decode cX8_planFor 93 = .ok (.laload, 1) := by decide +kernel
theorem dX8_planFor_94 : decode cX8_planFor 94 = .ok (.lstore 12, 2) := by decide +kernel
theorem dX8_planFor_96 : decode cX8_planFor 96 = .ok (.aload_n 0, 1) := by decide +kernel
theorem dX8_planFor_97 : decode cX8_planFor 97 = .ok (.getfield 56, 3) := by decide +kernel
theorem dX8_planFor_100 : decode cX8_planFor 100 = .ok (.invokevirtual 182, 3) := by decide +kernel
theorem dX8_planFor_103 : decode cX8_planFor 103 = .ok (.lstore 14, 2) := by decide +kernel
theorem dX8_planFor_105 : decode cX8_planFor 105 = .ok (.lload 12, 2) := by decide +kernel
theorem dX8_planFor_107 : decode cX8_planFor 107 = .ok (.lload 8, 2) := by decide +kernel
theorem dX8_planFor_109 : decode cX8_planFor 109 = .ok (.lmul, 1) := by decide +kernel
theorem dX8_planFor_110 : decode cX8_planFor 110 = .ok (.lload 6, 2) := by decide +kernel
theorem dX8_planFor_112 : decode cX8_planFor 112 = .ok (.lload 14, 2) := by decide +kernel
theorem dX8_planFor_114 : decode cX8_planFor 114 = .ok (.lmul, 1) := by decide +kernel
theorem dX8_planFor_115 : decode cX8_planFor 115 = .ok (.lsub, 1) := by decide +kernel
theorem dX8_planFor_116 : decode cX8_planFor 116 = .ok (.lstore 16, 2) := by decide +kernel
theorem dX8_planFor_118 : decode cX8_planFor 118 = .ok (.iload 10, 2) := by decide +kernel
theorem dX8_planFor_120 : decode cX8_planFor 120 = .ok (.invokestatic 186, 3) := by decide +kernel
theorem dX8_planFor_123 : decode cX8_planFor 123 = .ok (.iload 5, 2) := by decide +kernel
theorem dX8_planFor_125 : decode cX8_planFor 125 = .ok (.invokestatic 186, 3) := by decide +kernel
theorem dX8_planFor_128 : decode cX8_planFor 128 = .ok (.if_icmp .ge 7, 3) := by decide +kernel
theorem dX8_planFor_131 : decode cX8_planFor 131 = .ok (.iconst 1, 1) := by decide +kernel
theorem dX8_planFor_132 : decode cX8_planFor 132 = .ok (.goto 4, 3) := by decide +kernel
theorem dX8_planFor_135 : decode cX8_planFor 135 = .ok (.iconst 0, 1) := by decide +kernel
theorem dX8_planFor_136 : decode cX8_planFor 136 = .ok (.istore 18, 2) := by decide +kernel
theorem dX8_planFor_138 : decode cX8_planFor 138 = .ok (.lload 16, 2) := by decide +kernel
theorem dX8_planFor_140 : decode cX8_planFor 140 = .ok (.lconst 0, 1) := by decide +kernel
theorem dX8_planFor_141 : decode cX8_planFor 141 = .ok (.lcmp, 1) := by decide +kernel
theorem dX8_planFor_142 : decode cX8_planFor 142 = .ok (.ifCond .gt 15, 3) := by decide +kernel
theorem dX8_planFor_145 : decode cX8_planFor 145 = .ok (.lload 16, 2) := by decide +kernel
theorem dX8_planFor_147 : decode cX8_planFor 147 = .ok (.lconst 0, 1) := by decide +kernel
theorem dX8_planFor_148 : decode cX8_planFor 148 = .ok (.lcmp, 1) := by decide +kernel
theorem dX8_planFor_149 : decode cX8_planFor 149 = .ok (.ifCond .ne 20, 3) := by decide +kernel
theorem dX8_planFor_152 : decode cX8_planFor 152 = .ok (.iload 18, 2) := by decide +kernel
theorem dX8_planFor_154 : decode cX8_planFor 154 = .ok (.ifCond .eq 15, 3) := by decide +kernel
theorem dX8_planFor_157 : decode cX8_planFor 157 = .ok (.iload 10, 2) := by decide +kernel
theorem dX8_planFor_159 : decode cX8_planFor 159 = .ok (.istore 5, 2) := by decide +kernel
theorem dX8_planFor_161 : decode cX8_planFor 161 = .ok (.lload 12, 2) := by decide +kernel
theorem dX8_planFor_163 : decode cX8_planFor 163 = .ok (.lstore 6, 2) := by decide +kernel
theorem dX8_planFor_165 : decode cX8_planFor 165 = .ok (.lload 14, 2) := by decide +kernel
theorem dX8_planFor_167 : decode cX8_planFor 167 = .ok (.lstore 8, 2) := by decide +kernel
theorem dX8_planFor_169 : decode cX8_planFor 169 = .ok (.iload 10, 2) := by decide +kernel
theorem dX8_planFor_171 : decode cX8_planFor 171 = .ok (.iload_n 2, 1) := by decide +kernel
theorem dX8_planFor_172 : decode cX8_planFor 172 = .ok (.isub, 1) := by decide +kernel
theorem dX8_planFor_173 : decode cX8_planFor 173 = .ok (.iload_n 2, 1) := by decide +kernel
theorem dX8_planFor_174 : decode cX8_planFor 174 = .ok (.iand, 1) := by decide +kernel
theorem dX8_planFor_175 : decode cX8_planFor 175 = .ok (.istore 10, 2) := by decide +kernel
theorem dX8_planFor_177 : decode cX8_planFor 177 = .ok (.iload 10, 2) := by decide +kernel
theorem dX8_planFor_179 : decode cX8_planFor 179 = .ok (.ifCond .ne 6, 3) := by decide +kernel
theorem dX8_planFor_182 : decode cX8_planFor 182 = .ok (.goto 9, 3) := by decide +kernel
theorem dX8_planFor_185 : decode cX8_planFor 185 = .ok (.iinc 11 1, 3) := by decide +kernel
theorem dX8_planFor_188 : decode cX8_planFor 188 = .ok (.goto (-151), 3) := by decide +kernel
theorem dX8_planFor_191 : decode cX8_planFor 191 = .ok (.iload 5, 2) := by decide +kernel
theorem dX8_planFor_193 : decode cX8_planFor 193 = .ok (.ireturn, 1) := by decide +kernel
def F_X8_planFor_169 (rec : Int32 → Int32 → Int32 → Int32 → Int32 → Int64 → Int64 → Int32 → Int32 → eMem → Option (Int32 × eMem)) (K182 : Int32 → eMem → Option (Int32 × eMem)) (v1 : Int32) (v2 : Int32) (v3 : Int32) (v4 : Int32) (v5 : Int32) (v6 : Int64) (v8 : Int64) (v10 : Int32) (v11 : Int32) (M : eMem) : Option (Int32 × eMem) :=
  if ((v10 - v2) &&& v2) = 0 then
    K182 v5 M
  else
    rec v1 v2 v3 v4 v5 v6 v8 ((v10 - v2) &&& v2) (v11 + 1) M
set_option maxRecDepth 100000 in
set_option maxHeartbeats 4000000 in
theorem ev_X8_planFor_169 (rec : Int32 → Int32 → Int32 → Int32 → Int32 → Int64 → Int64 → Int32 → Int32 → eMem → Option (Int32 × eMem)) (K182 : Int32 → eMem → Option (Int32 × eMem)) (q : (Int32 × eMem)) (hrec : ∀ (v1 : Int32) (v2 : Int32) (v3 : Int32) (v4 : Int32) (v5 : Int32) (v6 : Int64) (v8 : Int64) (v10 : Int32) (v11 : Int32) (M : eMem), rec v1 v2 v3 v4 v5 v6 v8 v10 v11 M = some q → Ev layC 4 m_X8_planFor 37 [some (.ref 1), some (.int v1), some (.int v2), some (.int v3), some (.int v4), some (.int v5), some (.long v6), none, some (.long v8), none, some (.int v10), some (.int v11), none, none, none, none, none, none, none] [] M (some (.int q.1), q.2)) (hK182 : ∀ (v5 : Int32) (M : eMem), K182 v5 M = some q → Ev layC 4 m_X8_planFor 182 [none, none, none, none, none, some (.int v5), none, none, none, none, none, none, none, none, none, none, none, none, none] [] M (some (.int q.1), q.2)) (v1 : Int32) (v2 : Int32) (v3 : Int32) (v4 : Int32) (v5 : Int32) (v6 : Int64) (v8 : Int64) (v10 : Int32) (v11 : Int32) (M : eMem) (h : F_X8_planFor_169 rec K182 v1 v2 v3 v4 v5 v6 v8 v10 v11 M = some q) : Ev layC 4 m_X8_planFor 169 [some (.ref 1), some (.int v1), some (.int v2), some (.int v3), some (.int v4), some (.int v5), some (.long v6), none, some (.long v8), none, some (.int v10), some (.int v11), none, none, none, none, none, none, none] [] M (some (.int q.1), q.2) := by
  rw [F_X8_planFor_169] at h
  refine Ev.iload (pc := 169) dX8_planFor_169 rfl ?_
  refine Ev.iload_n (pc := 171) dX8_planFor_171 rfl ?_
  refine Ev.isub (pc := 172) dX8_planFor_172 ?_
  refine Ev.iload_n (pc := 173) dX8_planFor_173 rfl ?_
  refine Ev.iand (pc := 174) dX8_planFor_174 ?_
  refine Ev.istore (pc := 175) dX8_planFor_175 (by decide) rfl rfl ?_
  refine Ev.iload (pc := 177) dX8_planFor_177 rfl ?_
  refine Ev.if_ne (pc := 179) (tgt := 185) dX8_planFor_179 (by decide) (fun c9 => ?_) (fun c9 => ?_)
  · have h := eF h c9
    refine Ev.iincv (pc := 185) dX8_planFor_185 (v := 1) (by decide) rfl (by decide) rfl rfl ?_
    refine Ev.goto (pc := 188) (tgt := 37) dX8_planFor_188 (by decide) ?_
    exact Ev.fg (hrec _ _ _ _ _ _ _ _ _ _ h) (And.intro rfl (And.intro rfl (And.intro rfl (And.intro rfl (And.intro rfl (And.intro rfl (And.intro rfl (And.intro rfl (And.intro rfl (And.intro rfl trivial))))))))))
  · have h := eT h c9
    exact Ev.fg (hK182 _ _ h) (And.intro rfl trivial)
def F_X8_planFor_157 (rec : Int32 → Int32 → Int32 → Int32 → Int32 → Int64 → Int64 → Int32 → Int32 → eMem → Option (Int32 × eMem)) (K182 : Int32 → eMem → Option (Int32 × eMem)) (v1 : Int32) (v2 : Int32) (v3 : Int32) (v4 : Int32) (v10 : Int32) (v11 : Int32) (v12 : Int64) (v14 : Int64) (M : eMem) : Option (Int32 × eMem) :=
  F_X8_planFor_169 (fun v1 v2 v3 v4 v5 v6 v8 v10 v11 M => rec v1 v2 v3 v4 v5 v6 v8 v10 v11 M) K182 v1 v2 v3 v4 v10 v12 v14 v10 v11 M
set_option maxRecDepth 100000 in
set_option maxHeartbeats 4000000 in
theorem ev_X8_planFor_157 (rec : Int32 → Int32 → Int32 → Int32 → Int32 → Int64 → Int64 → Int32 → Int32 → eMem → Option (Int32 × eMem)) (K182 : Int32 → eMem → Option (Int32 × eMem)) (q : (Int32 × eMem)) (hrec : ∀ (v1 : Int32) (v2 : Int32) (v3 : Int32) (v4 : Int32) (v5 : Int32) (v6 : Int64) (v8 : Int64) (v10 : Int32) (v11 : Int32) (M : eMem), rec v1 v2 v3 v4 v5 v6 v8 v10 v11 M = some q → Ev layC 4 m_X8_planFor 37 [some (.ref 1), some (.int v1), some (.int v2), some (.int v3), some (.int v4), some (.int v5), some (.long v6), none, some (.long v8), none, some (.int v10), some (.int v11), none, none, none, none, none, none, none] [] M (some (.int q.1), q.2)) (hK182 : ∀ (v5 : Int32) (M : eMem), K182 v5 M = some q → Ev layC 4 m_X8_planFor 182 [none, none, none, none, none, some (.int v5), none, none, none, none, none, none, none, none, none, none, none, none, none] [] M (some (.int q.1), q.2)) (v1 : Int32) (v2 : Int32) (v3 : Int32) (v4 : Int32) (v10 : Int32) (v11 : Int32) (v12 : Int64) (v14 : Int64) (M : eMem) (h : F_X8_planFor_157 rec K182 v1 v2 v3 v4 v10 v11 v12 v14 M = some q) : Ev layC 4 m_X8_planFor 157 [some (.ref 1), some (.int v1), some (.int v2), some (.int v3), some (.int v4), none, none, none, none, none, some (.int v10), some (.int v11), some (.long v12), none, some (.long v14), none, none, none, none] [] M (some (.int q.1), q.2) := by
  rw [F_X8_planFor_157] at h
  refine Ev.iload (pc := 157) dX8_planFor_157 rfl ?_
  refine Ev.istore (pc := 159) dX8_planFor_159 (by decide) rfl rfl ?_
  refine Ev.lload (pc := 161) dX8_planFor_161 rfl ?_
  refine Ev.lstore (pc := 163) dX8_planFor_163 (by decide) rfl rfl ?_
  refine Ev.lload (pc := 165) dX8_planFor_165 rfl ?_
  refine Ev.lstore (pc := 167) dX8_planFor_167 (by decide) rfl rfl ?_
  exact Ev.fg (ev_X8_planFor_169 _ _ _ hrec hK182 _ _ _ _ _ _ _ _ _ _ h) (And.intro rfl (And.intro rfl (And.intro rfl (And.intro rfl (And.intro rfl (And.intro rfl (And.intro rfl (And.intro rfl (And.intro rfl (And.intro rfl trivial))))))))))
def F_X8_planFor_136 (rec : Int32 → Int32 → Int32 → Int32 → Int32 → Int64 → Int64 → Int32 → Int32 → eMem → Option (Int32 × eMem)) (K182 : Int32 → eMem → Option (Int32 × eMem)) (v1 : Int32) (v2 : Int32) (v3 : Int32) (v4 : Int32) (v5 : Int32) (v6 : Int64) (v8 : Int64) (v10 : Int32) (v11 : Int32) (v12 : Int64) (v14 : Int64) (v16 : Int64) (s0 : Int32) (M : eMem) : Option (Int32 × eMem) :=
  if 0 < (lg_cmp v16 0) then
    F_X8_planFor_157 (fun v1 v2 v3 v4 v5 v6 v8 v10 v11 M => rec v1 v2 v3 v4 v5 v6 v8 v10 v11 M) K182 v1 v2 v3 v4 v10 v11 v12 v14 M
  else
    if (lg_cmp v16 0) = 0 then
      if s0 = 0 then
        F_X8_planFor_169 (fun v1 v2 v3 v4 v5 v6 v8 v10 v11 M => rec v1 v2 v3 v4 v5 v6 v8 v10 v11 M) K182 v1 v2 v3 v4 v5 v6 v8 v10 v11 M
      else
        F_X8_planFor_157 (fun v1 v2 v3 v4 v5 v6 v8 v10 v11 M => rec v1 v2 v3 v4 v5 v6 v8 v10 v11 M) K182 v1 v2 v3 v4 v10 v11 v12 v14 M
    else
      F_X8_planFor_169 (fun v1 v2 v3 v4 v5 v6 v8 v10 v11 M => rec v1 v2 v3 v4 v5 v6 v8 v10 v11 M) K182 v1 v2 v3 v4 v5 v6 v8 v10 v11 M
set_option maxRecDepth 100000 in
set_option maxHeartbeats 4000000 in
theorem ev_X8_planFor_136 (rec : Int32 → Int32 → Int32 → Int32 → Int32 → Int64 → Int64 → Int32 → Int32 → eMem → Option (Int32 × eMem)) (K182 : Int32 → eMem → Option (Int32 × eMem)) (q : (Int32 × eMem)) (hrec : ∀ (v1 : Int32) (v2 : Int32) (v3 : Int32) (v4 : Int32) (v5 : Int32) (v6 : Int64) (v8 : Int64) (v10 : Int32) (v11 : Int32) (M : eMem), rec v1 v2 v3 v4 v5 v6 v8 v10 v11 M = some q → Ev layC 4 m_X8_planFor 37 [some (.ref 1), some (.int v1), some (.int v2), some (.int v3), some (.int v4), some (.int v5), some (.long v6), none, some (.long v8), none, some (.int v10), some (.int v11), none, none, none, none, none, none, none] [] M (some (.int q.1), q.2)) (hK182 : ∀ (v5 : Int32) (M : eMem), K182 v5 M = some q → Ev layC 4 m_X8_planFor 182 [none, none, none, none, none, some (.int v5), none, none, none, none, none, none, none, none, none, none, none, none, none] [] M (some (.int q.1), q.2)) (v1 : Int32) (v2 : Int32) (v3 : Int32) (v4 : Int32) (v5 : Int32) (v6 : Int64) (v8 : Int64) (v10 : Int32) (v11 : Int32) (v12 : Int64) (v14 : Int64) (v16 : Int64) (s0 : Int32) (M : eMem) (h : F_X8_planFor_136 rec K182 v1 v2 v3 v4 v5 v6 v8 v10 v11 v12 v14 v16 s0 M = some q) : Ev layC 4 m_X8_planFor 136 [some (.ref 1), some (.int v1), some (.int v2), some (.int v3), some (.int v4), some (.int v5), some (.long v6), none, some (.long v8), none, some (.int v10), some (.int v11), some (.long v12), none, some (.long v14), none, some (.long v16), none, none] [.int s0] M (some (.int q.1), q.2) := by
  rw [F_X8_planFor_136] at h
  refine Ev.istore (pc := 136) dX8_planFor_136 (by decide) rfl rfl ?_
  refine Ev.lload (pc := 138) dX8_planFor_138 rfl ?_
  refine Ev.lconst (pc := 140) dX8_planFor_140 (v := 0) (by decide) ?_
  refine Ev.lcmp (pc := 141) dX8_planFor_141 ?_
  refine Ev.if_gt (pc := 142) (tgt := 157) dX8_planFor_142 (by decide) (fun c9 => ?_) (fun c9 => ?_)
  · have h := eT h c9
    exact Ev.fg (ev_X8_planFor_157 _ _ _ hrec hK182 _ _ _ _ _ _ _ _ _ h) (And.intro rfl (And.intro rfl (And.intro rfl (And.intro rfl (And.intro rfl (And.intro rfl (And.intro rfl (And.intro rfl (And.intro rfl trivial)))))))))
  · have h := eF h c9
    refine Ev.lload (pc := 145) dX8_planFor_145 rfl ?_
    refine Ev.lconst (pc := 147) dX8_planFor_147 (v := 0) (by decide) ?_
    refine Ev.lcmp (pc := 148) dX8_planFor_148 ?_
    refine Ev.if_ne (pc := 149) (tgt := 169) dX8_planFor_149 (by decide) (fun c9 => ?_) (fun c9 => ?_)
    · have h := eF h c9
      exact Ev.fg (ev_X8_planFor_169 _ _ _ hrec hK182 _ _ _ _ _ _ _ _ _ _ h) (And.intro rfl (And.intro rfl (And.intro rfl (And.intro rfl (And.intro rfl (And.intro rfl (And.intro rfl (And.intro rfl (And.intro rfl (And.intro rfl trivial))))))))))
    · have h := eT h c9
      refine Ev.iload (pc := 152) dX8_planFor_152 rfl ?_
      refine Ev.if_eq (pc := 154) (tgt := 169) dX8_planFor_154 (by decide) (fun c9 => ?_) (fun c9 => ?_)
      · have h := eT h c9
        exact Ev.fg (ev_X8_planFor_169 _ _ _ hrec hK182 _ _ _ _ _ _ _ _ _ _ h) (And.intro rfl (And.intro rfl (And.intro rfl (And.intro rfl (And.intro rfl (And.intro rfl (And.intro rfl (And.intro rfl (And.intro rfl (And.intro rfl trivial))))))))))
      · have h := eF h c9
        exact Ev.fg (ev_X8_planFor_157 _ _ _ hrec hK182 _ _ _ _ _ _ _ _ _ h) (And.intro rfl (And.intro rfl (And.intro rfl (And.intro rfl (And.intro rfl (And.intro rfl (And.intro rfl (And.intro rfl (And.intro rfl trivial)))))))))
def F_X8_planFor_37 (K182 : Int32 → eMem → Option (Int32 × eMem)) : Nat → Int32 → Int32 → Int32 → Int32 → Int32 → Int64 → Int64 → Int32 → Int32 → eMem → Option (Int32 × eMem)
  | 0, _, _, _, _, _, _, _, _, _, _ => none
  | n + 1, v1, v2, v3, v4, v5, v6, v8, v10, v11, M =>
    if v11 < 512 then
      (F_X5_needsOf v10 M).bind fun q2 =>
      if v3 < q2 then
        F_X8_planFor_169 (fun v1 v2 v3 v4 v5 v6 v8 v10 v11 M => F_X8_planFor_37 K182 n v1 v2 v3 v4 v5 v6 v8 v10 v11 M) K182 v1 v2 v3 v4 v5 v6 v8 v10 v11 M
      else
        (F_X5_pricesOf v10 M).bind fun q3 =>
        if v4 < q3 then
          F_X8_planFor_169 (fun v1 v2 v3 v4 v5 v6 v8 v10 v11 M => F_X8_planFor_37 K182 n v1 v2 v3 v4 v5 v6 v8 v10 v11 M) K182 v1 v2 v3 v4 v5 v6 v8 v10 v11 M
        else
          (F_X3_putGiven v10 M).bind fun q4 =>
          eG (eIn v1 4) <|
          (F_X3_sum q4).bind fun q5 =>
          (F_J6_bitCount_0f7a4 v10).bind fun q6 =>
          (F_J6_bitCount_0f7a4 v5).bind fun q7 =>
          if q6 < q7 then
            F_X8_planFor_136 (fun v1 v2 v3 v4 v5 v6 v8 v10 v11 M => F_X8_planFor_37 K182 n v1 v2 v3 v4 v5 v6 v8 v10 v11 M) K182 v1 v2 v3 v4 v5 v6 v8 v10 v11 (q4.2 56 v1.toNatClampNeg) q5 (((q4.2 56 v1.toNatClampNeg) * v8) - (v6 * q5)) 1 q4
          else
            F_X8_planFor_136 (fun v1 v2 v3 v4 v5 v6 v8 v10 v11 M => F_X8_planFor_37 K182 n v1 v2 v3 v4 v5 v6 v8 v10 v11 M) K182 v1 v2 v3 v4 v5 v6 v8 v10 v11 (q4.2 56 v1.toNatClampNeg) q5 (((q4.2 56 v1.toNatClampNeg) * v8) - (v6 * q5)) 0 q4
    else
      some (v5, M)
set_option maxRecDepth 100000 in
set_option maxHeartbeats 4000000 in
theorem ev_X8_planFor_37 (K182 : Int32 → eMem → Option (Int32 × eMem)) (q : (Int32 × eMem)) (hK182 : ∀ (v5 : Int32) (M : eMem), K182 v5 M = some q → Ev layC 4 m_X8_planFor 182 [none, none, none, none, none, some (.int v5), none, none, none, none, none, none, none, none, none, none, none, none, none] [] M (some (.int q.1), q.2)) : ∀ (fuel : Nat) (v1 : Int32) (v2 : Int32) (v3 : Int32) (v4 : Int32) (v5 : Int32) (v6 : Int64) (v8 : Int64) (v10 : Int32) (v11 : Int32) (M : eMem), F_X8_planFor_37 K182 fuel v1 v2 v3 v4 v5 v6 v8 v10 v11 M = some q → Ev layC 4 m_X8_planFor 37 [some (.ref 1), some (.int v1), some (.int v2), some (.int v3), some (.int v4), some (.int v5), some (.long v6), none, some (.long v8), none, some (.int v10), some (.int v11), none, none, none, none, none, none, none] [] M (some (.int q.1), q.2) := by
  intro fuel
  induction fuel with
  | zero => intro v1 v2 v3 v4 v5 v6 v8 v10 v11 M h; rw [F_X8_planFor_37] at h; cases h
  | succ n ih =>
    intro v1 v2 v3 v4 v5 v6 v8 v10 v11 M h
    rw [F_X8_planFor_37] at h
    refine Ev.iload (pc := 37) dX8_planFor_37 rfl ?_
    refine Ev.sipush (pc := 39) dX8_planFor_39 (v := 512) (by decide) ?_
    refine Ev.icmp_ge (pc := 42) (tgt := 191) dX8_planFor_42 (by decide) (fun c9 => ?_) (fun c9 => ?_)
    · have h := eF h c9
      refine Ev.iload (pc := 191) dX8_planFor_191 rfl ?_
      obtain rfl := Option.some.inj h
      exact Ev.iret (pc := 193) dX8_planFor_193 rfl rfl
    · have h := eT h c9
      refine Ev.aload_n (pc := 45) dX8_planFor_45 rfl ?_
      refine Ev.getR (pc := 46) dX8_planFor_46 fl_RX8_21 lC_1 rfl ?_
      refine Ev.iload (pc := 49) dX8_planFor_49 rfl ?_
      refine eBk h (fun q2 hq2 h => ?_)
      refine Ev.callV (pc := 51) (as := [.int v10]) (st := []) (z := 2) dX8_planFor_51 wc_X5_needsOf ml_RX8_168 im_X5_needsOf se_X5_needsOf lC_12 rfl rfl (ev_X5_needsOf v10 M _ hq2) rfl rfl (by decide) rfl rfl (Nat.le_of_ble_eq_true rfl) ?_
      refine Ev.iload_n (pc := 54) dX8_planFor_54 rfl ?_
      refine Ev.icmp_gt (pc := 55) (tgt := 169) dX8_planFor_55 (by decide) (fun c9 => ?_) (fun c9 => ?_)
      · have h := eT h c9
        exact Ev.fg (ev_X8_planFor_169 _ _ _ ih hK182 _ _ _ _ _ _ _ _ _ _ h) (And.intro rfl (And.intro rfl (And.intro rfl (And.intro rfl (And.intro rfl (And.intro rfl (And.intro rfl (And.intro rfl (And.intro rfl (And.intro rfl trivial))))))))))
      · have h := eF h c9
        refine Ev.aload_n (pc := 58) dX8_planFor_58 rfl ?_
        refine Ev.getR (pc := 59) dX8_planFor_59 fl_RX8_21 lC_1 rfl ?_
        refine Ev.iload (pc := 62) dX8_planFor_62 rfl ?_
        refine eBk h (fun q3 hq3 h => ?_)
        refine Ev.callV (pc := 64) (as := [.int v10]) (st := []) (z := 2) dX8_planFor_64 wc_X5_pricesOf ml_RX8_171 im_X5_pricesOf se_X5_pricesOf lC_12 rfl rfl (ev_X5_pricesOf v10 M _ hq3) rfl rfl (by decide) rfl rfl (Nat.le_of_ble_eq_true rfl) ?_
        refine Ev.iload (pc := 67) dX8_planFor_67 rfl ?_
        refine Ev.icmp_gt (pc := 69) (tgt := 169) dX8_planFor_69 (by decide) (fun c9 => ?_) (fun c9 => ?_)
        · have h := eT h c9
          exact Ev.fg (ev_X8_planFor_169 _ _ _ ih hK182 _ _ _ _ _ _ _ _ _ _ h) (And.intro rfl (And.intro rfl (And.intro rfl (And.intro rfl (And.intro rfl (And.intro rfl (And.intro rfl (And.intro rfl (And.intro rfl (And.intro rfl trivial))))))))))
        · have h := eF h c9
          refine Ev.aload_n (pc := 72) dX8_planFor_72 rfl ?_
          refine Ev.getR (pc := 73) dX8_planFor_73 fl_RX8_56 lC_1 rfl ?_
          refine Ev.iload (pc := 76) dX8_planFor_76 rfl ?_
          refine Ev.aload_n (pc := 78) dX8_planFor_78 rfl ?_
          refine Ev.getR (pc := 79) dX8_planFor_79 fl_RX8_21 lC_1 rfl ?_
          refine eBk h (fun q4 hq4 h => ?_)
          refine Ev.callV (pc := 82) (as := [.int v10, .ref 12]) (st := []) (z := 1) dX8_planFor_82 wc_X3_putGiven ml_RX8_174 im_X3_putGiven se_X3_putGiven lC_55 rfl rfl (ev_X3_putGiven v10 M _ hq4) rfl rfl (by decide) rfl rfl (Nat.le_of_ble_eq_true rfl) ?_
          refine Ev.aload_n (pc := 85) dX8_planFor_85 rfl ?_
          refine Ev.getR (pc := 86) dX8_planFor_86 fl_RX8_56 lC_1 rfl ?_
          refine Ev.getR (pc := 89) dX8_planFor_89 fl_RX8_178 lC_55 rfl ?_
          refine Ev.iload_n (pc := 92) dX8_planFor_92 rfl ?_
          obtain ⟨g9, h⟩ := eGdB h
          refine Ev.laldj (pc := 93) dX8_planFor_93 (j := v1.toNatClampNeg) lC_56 g9 rfl ?_
          refine Ev.lstore (pc := 94) dX8_planFor_94 (by decide) rfl rfl ?_
          refine Ev.aload_n (pc := 96) dX8_planFor_96 rfl ?_
          refine Ev.getR (pc := 97) dX8_planFor_97 fl_RX8_56 lC_1 rfl ?_
          refine eBk h (fun q5 hq5 h => ?_)
          refine Ev.callV (pc := 100) (as := []) (st := []) (z := 3) dX8_planFor_100 wc_X3_sum ml_RX8_182 im_X3_sum se_X3_sum lC_55 rfl rfl (ev_X3_sum  q4 _ hq5) rfl rfl (by decide) rfl rfl (Nat.le_of_ble_eq_true rfl) ?_
          refine Ev.lstore (pc := 103) dX8_planFor_103 (by decide) rfl rfl ?_
          refine Ev.lload (pc := 105) dX8_planFor_105 rfl ?_
          refine Ev.lload (pc := 107) dX8_planFor_107 rfl ?_
          refine Ev.lmul (pc := 109) dX8_planFor_109 ?_
          refine Ev.lload (pc := 110) dX8_planFor_110 rfl ?_
          refine Ev.lload (pc := 112) dX8_planFor_112 rfl ?_
          refine Ev.lmul (pc := 114) dX8_planFor_114 ?_
          refine Ev.lsub (pc := 115) dX8_planFor_115 ?_
          refine Ev.lstore (pc := 116) dX8_planFor_116 (by decide) rfl rfl ?_
          refine Ev.iload (pc := 118) dX8_planFor_118 rfl ?_
          refine eBk h (fun q6 hq6 h => ?_)
          refine Ev.callS (pc := 120) (as := [.int v10]) (st := []) (z := 0) dX8_planFor_120 wc_J6_bitCount_0f7a4 ml_RX8_186 sm_J6_bitCount_0f7a4 (ev_J6_bitCount_0f7a4 v10 q4 _ hq6) rfl rfl (by decide) rfl rfl (Nat.le_of_ble_eq_true rfl) ?_
          refine Ev.iload (pc := 123) dX8_planFor_123 rfl ?_
          refine eBk h (fun q7 hq7 h => ?_)
          refine Ev.callS (pc := 125) (as := [.int v5]) (st := [.int q6]) (z := 0) dX8_planFor_125 wc_J6_bitCount_0f7a4 ml_RX8_186 sm_J6_bitCount_0f7a4 (ev_J6_bitCount_0f7a4 v5 q4 _ hq7) rfl rfl (by decide) rfl rfl (Nat.le_of_ble_eq_true rfl) ?_
          refine Ev.icmp_ge (pc := 128) (tgt := 135) dX8_planFor_128 (by decide) (fun c9 => ?_) (fun c9 => ?_)
          · have h := eF h c9
            refine Ev.iconst (pc := 135) dX8_planFor_135 (v := 0) (by decide) ?_
            exact Ev.fg (ev_X8_planFor_136 _ _ _ ih hK182 _ _ _ _ _ _ _ _ _ _ _ _ _ _ h) (And.intro rfl (And.intro rfl (And.intro rfl (And.intro rfl (And.intro rfl (And.intro rfl (And.intro rfl (And.intro rfl (And.intro rfl (And.intro rfl (And.intro rfl (And.intro rfl (And.intro rfl trivial)))))))))))))
          · have h := eT h c9
            refine Ev.iconst (pc := 131) dX8_planFor_131 (v := 1) (by decide) ?_
            refine Ev.goto (pc := 132) (tgt := 136) dX8_planFor_132 (by decide) ?_
            exact Ev.fg (ev_X8_planFor_136 _ _ _ ih hK182 _ _ _ _ _ _ _ _ _ _ _ _ _ _ h) (And.intro rfl (And.intro rfl (And.intro rfl (And.intro rfl (And.intro rfl (And.intro rfl (And.intro rfl (And.intro rfl (And.intro rfl (And.intro rfl (And.intro rfl (And.intro rfl (And.intro rfl trivial)))))))))))))
def F_X8_planFor (x1 : Int32) (x2 : Int32) (x3 : Int32) (x4 : Int32) (M : eMem) : Option (Int32 × eMem) :=
  (F_X3_load (M.1 2 11) M).bind fun q1 =>
  F_X8_planFor_37
    (fun v5 M =>
      some (v5, M))
    eFuel x1 x2 x3 x4 0 0 1 0 0 q1
set_option maxRecDepth 100000 in
set_option maxHeartbeats 4000000 in
theorem ev_X8_planFor (x1 : Int32) (x2 : Int32) (x3 : Int32) (x4 : Int32) (M : eMem) (q : (Int32 × eMem)) (h : F_X8_planFor x1 x2 x3 x4 M = some q) : Ev layC 4 m_X8_planFor 0 [some (.ref 1), some (.int x1), some (.int x2), some (.int x3), some (.int x4), none, none, none, none, none, none, none, none, none, none, none, none, none, none] [] M (some (.int q.1), q.2) := by
  rw [F_X8_planFor] at h
  refine Ev.aload_n (pc := 0) dX8_planFor_0 rfl ?_
  refine Ev.getR (pc := 1) dX8_planFor_1 fl_RX8_56 lC_1 rfl ?_
  refine Ev.aload_n (pc := 4) dX8_planFor_4 rfl ?_
  refine Ev.getR (pc := 5) dX8_planFor_5 fl_RX8_35 lC_1 rfl ?_
  refine Ev.aload_n (pc := 8) dX8_planFor_8 rfl ?_
  refine Ev.getR (pc := 9) dX8_planFor_9 fl_RX8_21 lC_1 rfl ?_
  refine Ev.aload_n (pc := 12) dX8_planFor_12 rfl ?_
  refine Ev.getR (pc := 13) dX8_planFor_13 fl_RX8_12 lC_1 rfl ?_
  refine Ev.getI (pc := 16) dX8_planFor_16 fl_RX8_85 lC_2 rfl ?_
  refine eBk h (fun q1 hq1 h => ?_)
  refine Ev.callV (pc := 19) (as := [.ref 29, .ref 12, .int (M.1 2 11)]) (st := []) (z := 2) dX8_planFor_19 wc_X3_load ml_RX8_150 im_X3_load se_X3_load lC_55 rfl rfl (ev_X3_load (M.1 2 11) M _ hq1) rfl rfl (by decide) rfl rfl (Nat.le_of_ble_eq_true rfl) ?_
  refine Ev.iconst (pc := 22) dX8_planFor_22 (v := 0) (by decide) ?_
  refine Ev.istore (pc := 23) dX8_planFor_23 (by decide) rfl rfl ?_
  refine Ev.lconst (pc := 25) dX8_planFor_25 (v := 0) (by decide) ?_
  refine Ev.lstore (pc := 26) dX8_planFor_26 (by decide) rfl rfl ?_
  refine Ev.lconst (pc := 28) dX8_planFor_28 (v := 1) (by decide) ?_
  refine Ev.lstore (pc := 29) dX8_planFor_29 (by decide) rfl rfl ?_
  refine Ev.iconst (pc := 31) dX8_planFor_31 (v := 0) (by decide) ?_
  refine Ev.istore (pc := 32) dX8_planFor_32 (by decide) rfl rfl ?_
  refine Ev.iconst (pc := 34) dX8_planFor_34 (v := 0) (by decide) ?_
  refine Ev.istore (pc := 35) dX8_planFor_35 (by decide) rfl rfl ?_
  refine Ev.fg (ev_X8_planFor_37 _ _ ?_ _ _ _ _ _ _ _ _ _ _ _ h) (And.intro rfl (And.intro rfl (And.intro rfl (And.intro rfl (And.intro rfl (And.intro rfl (And.intro rfl (And.intro rfl (And.intro rfl (And.intro rfl trivial))))))))))
  · intro v5 M h
    refine Ev.goto (pc := 182) (tgt := 191) dX8_planFor_182 (by decide) ?_
    refine Ev.iload (pc := 191) dX8_planFor_191 rfl ?_
    obtain rfl := Option.some.inj h
    exact Ev.iret (pc := 193) dX8_planFor_193 rfl rfl
theorem dX9_plan_0 : decode cX9_plan 0 = .ok (.iload_n 1, 1) := by decide +kernel
theorem dX9_plan_1 : decode cX9_plan 1 = .ok (.iconst 4, 1) := by decide +kernel
theorem dX9_plan_2 : decode cX9_plan 2 = .ok (.invokestatic 37, 3) := by decide +kernel
theorem dX9_plan_5 : decode cX9_plan 5 = .ok (.ifCond .eq 17, 3) := by decide +kernel
theorem dX9_plan_8 : decode cX9_plan 8 = .ok (.aload_n 0, 1) := by decide +kernel
theorem dX9_plan_9 : decode cX9_plan 9 = .ok (.getfield 12, 3) := by decide +kernel
theorem dX9_plan_12 : decode cX9_plan 12 = .ok (.getfield 130, 3) := by decide +kernel
theorem dX9_plan_15 : decode cX9_plan 15 = .ok (.iload_n 2, 1) := by decide +kernel
theorem dX9_plan_16 : decode cX9_plan 16 = .ok (.invokevirtual 350, 3) := by decide +kernel
theorem dX9_plan_19 : decode cX9_plan 19 = .ok (.ifCond .ne 10, 3) := by decide +kernel
theorem dX9_plan_22 : decode cX9_plan 22 = .ok (.aload_n 0, 1) := by decide +kernel
theorem dX9_plan_23 : decode cX9_plan 23 = .ok (.ldc 41, 2) := by decide +kernel
theorem dX9_plan_25 : decode cX9_plan 25 = .ok (.invokevirtual 42, 3) := by decide +kernel
theorem dX9_plan_28 : decode cX9_plan 28 = .ok (.ireturn, 1) := by decide +kernel
theorem dX9_plan_29 : decode cX9_plan 29 = .ok (.iload_n 3, 1) := by decide +kernel
theorem dX9_plan_30 : decode cX9_plan 30 = .ok (.ifCond .lt 8, 3) := by decide +kernel
theorem dX9_plan_33 : decode cX9_plan 33 = .ok (.iload 4, 2) := by decide +kernel
theorem dX9_plan_35 : decode cX9_plan 35 = .ok (.ifCond .ge 10, 3) := by decide +kernel
theorem dX9_plan_38 : decode cX9_plan 38 = .ok (.aload_n 0, 1) := by decide +kernel
theorem dX9_plan_39 : decode cX9_plan 39 = .ok (.ldc 41, 2) := by decide +kernel
theorem dX9_plan_41 : decode cX9_plan 41 = .ok (.invokevirtual 42, 3) := by decide +kernel
theorem dX9_plan_44 : decode cX9_plan 44 = .ok (.ireturn, 1) := by decide +kernel
theorem dX9_plan_45 : decode cX9_plan 45 = .ok (.iload_n 2, 1) := by decide +kernel
theorem dX9_plan_46 : decode cX9_plan 46 = .ok (.invokestatic 353, 3) := by decide +kernel
theorem dX9_plan_49 : decode cX9_plan 49 = .ok (.bipush 9, 2) := by decide +kernel
theorem dX9_plan_51 : decode cX9_plan 51 = .ok (.if_icmp .le 10, 3) := by decide +kernel
theorem dX9_plan_54 : decode cX9_plan 54 = .ok (.aload_n 0, 1) := by decide +kernel
theorem dX9_plan_55 : decode cX9_plan 55 = .ok (.ldc 192, 2) := by decide +kernel
theorem dX9_plan_57 : decode cX9_plan 57 = .ok (.invokevirtual 42, 3) := by decide +kernel
theorem dX9_plan_60 : decode cX9_plan 60 = .ok (.ireturn, 1) := by decide +kernel
theorem dX9_plan_61 : decode cX9_plan 61 = .ok (.aload_n 0, 1) := by decide +kernel
theorem dX9_plan_62 : decode cX9_plan 62 = .ok (.getfield 12, 3) := by decide +kernel
theorem dX9_plan_65 : decode cX9_plan 65 = .ok (.iload_n 1, 1) := by decide +kernel
theorem dX9_plan_66 : decode cX9_plan 66 = .ok (.iload_n 2, 1) := by decide +kernel
theorem dX9_plan_67 : decode cX9_plan 67 = .ok (.iload_n 3, 1) := by decide +kernel
theorem dX9_plan_68 : decode cX9_plan 68 = .ok (.iload 4, 2) := by decide +kernel
theorem dX9_plan_70 : decode cX9_plan 70 = .ok (.invokevirtual 358, 3) := by decide +kernel
theorem dX9_plan_73 : decode cX9_plan 73 = .ok (.ireturn, 1) := by decide +kernel
def F_X9_plan (x1 : Int32) (x2 : Int32) (x3 : Int32) (x4 : Int32) (M : eMem) : Option (Int32 × eMem) :=
  (F_X9_isIn x1 4).bind fun q1 =>
  if q1 = 0 then
    (F_X9_found (-1000001) M).bind fun q2 =>
    some (q2.1, q2.2)
  else
    (F_X5_hasAll x2 M).bind fun q3 =>
    if q3 = 0 then
      (F_X9_found (-1000001) M).bind fun q9 =>
      some (q9.1, q9.2)
    else
      if x3 < 0 then
        (F_X9_found (-1000001) M).bind fun q4 =>
        some (q4.1, q4.2)
      else
        if x4 < 0 then
          (F_X9_found (-1000001) M).bind fun q8 =>
          some (q8.1, q8.2)
        else
          (F_J6_bitCount_0f7a4 x2).bind fun q5 =>
          if 9 < q5 then
            (F_X9_found (-1000007) M).bind fun q7 =>
            some (q7.1, q7.2)
          else
            (F_X8_planFor x1 x2 x3 x4 M).bind fun q6 =>
            some (q6.1, q6.2)
set_option maxRecDepth 100000 in
set_option maxHeartbeats 4000000 in
theorem ev_X9_plan (x1 : Int32) (x2 : Int32) (x3 : Int32) (x4 : Int32) (M : eMem) (q : (Int32 × eMem)) (h : F_X9_plan x1 x2 x3 x4 M = some q) : Ev layC 5 m_X9_plan 0 [some (.ref 0), some (.int x1), some (.int x2), some (.int x3), some (.int x4)] [] M (some (.int q.1), q.2) := by
  rw [F_X9_plan] at h
  refine Ev.iload_n (pc := 0) dX9_plan_0 rfl ?_
  refine Ev.iconst (pc := 1) dX9_plan_1 (v := 4) (by decide) ?_
  refine eBk h (fun q1 hq1 h => ?_)
  refine Ev.callS (pc := 2) (as := [.int x1, .int 4]) (st := []) (z := 0) dX9_plan_2 wc_X9_isIn ml_RX9_37 sm_X9_isIn (ev_X9_isIn x1 4 M _ hq1) rfl rfl (by decide) rfl rfl (Nat.le_of_ble_eq_true rfl) ?_
  refine Ev.if_eq (pc := 5) (tgt := 22) dX9_plan_5 (by decide) (fun c9 => ?_) (fun c9 => ?_)
  · have h := eT h c9
    refine Ev.aload_n (pc := 22) dX9_plan_22 rfl ?_
    refine Ev.ldc (pc := 23) dX9_plan_23 ld_RX9_41 ?_
    refine eBk h (fun q2 hq2 h => ?_)
    refine Ev.callV (pc := 25) (as := [.int (-1000001)]) (st := []) (z := 1) dX9_plan_25 wc_X9_found ml_RX9_42 im_X9_found se_X9_found lC_0 rfl rfl (ev_X9_found (-1000001) M _ hq2) rfl rfl (by decide) rfl rfl (Nat.le_of_ble_eq_true rfl) ?_
    obtain rfl := Option.some.inj h
    exact Ev.iret (pc := 28) dX9_plan_28 rfl rfl
  · have h := eF h c9
    refine Ev.aload_n (pc := 8) dX9_plan_8 rfl ?_
    refine Ev.getR (pc := 9) dX9_plan_9 fl_RX9_12 lC_0 rfl ?_
    refine Ev.getR (pc := 12) dX9_plan_12 fl_RX9_130 lC_1 rfl ?_
    refine Ev.iload_n (pc := 15) dX9_plan_15 rfl ?_
    refine eBk h (fun q3 hq3 h => ?_)
    refine Ev.callV (pc := 16) (as := [.int x2]) (st := []) (z := 0) dX9_plan_16 wc_X5_hasAll ml_RX9_350 im_X5_hasAll se_X5_hasAll lC_12 rfl rfl (ev_X5_hasAll x2 M _ hq3) rfl rfl (by decide) rfl rfl (Nat.le_of_ble_eq_true rfl) ?_
    refine Ev.if_ne (pc := 19) (tgt := 29) dX9_plan_19 (by decide) (fun c9 => ?_) (fun c9 => ?_)
    · have h := eF h c9
      refine Ev.iload_n (pc := 29) dX9_plan_29 rfl ?_
      refine Ev.if_lt (pc := 30) (tgt := 38) dX9_plan_30 (by decide) (fun c9 => ?_) (fun c9 => ?_)
      · have h := eT h c9
        refine Ev.aload_n (pc := 38) dX9_plan_38 rfl ?_
        refine Ev.ldc (pc := 39) dX9_plan_39 ld_RX9_41 ?_
        refine eBk h (fun q4 hq4 h => ?_)
        refine Ev.callV (pc := 41) (as := [.int (-1000001)]) (st := []) (z := 1) dX9_plan_41 wc_X9_found ml_RX9_42 im_X9_found se_X9_found lC_0 rfl rfl (ev_X9_found (-1000001) M _ hq4) rfl rfl (by decide) rfl rfl (Nat.le_of_ble_eq_true rfl) ?_
        obtain rfl := Option.some.inj h
        exact Ev.iret (pc := 44) dX9_plan_44 rfl rfl
      · have h := eF h c9
        refine Ev.iload (pc := 33) dX9_plan_33 rfl ?_
        refine Ev.if_ge (pc := 35) (tgt := 45) dX9_plan_35 (by decide) (fun c9 => ?_) (fun c9 => ?_)
        · have h := eF h c9
          refine Ev.iload_n (pc := 45) dX9_plan_45 rfl ?_
          refine eBk h (fun q5 hq5 h => ?_)
          refine Ev.callS (pc := 46) (as := [.int x2]) (st := []) (z := 0) dX9_plan_46 wc_J6_bitCount_0f7a4 ml_RX9_353 sm_J6_bitCount_0f7a4 (ev_J6_bitCount_0f7a4 x2 M _ hq5) rfl rfl (by decide) rfl rfl (Nat.le_of_ble_eq_true rfl) ?_
          refine Ev.bipush (pc := 49) dX9_plan_49 (v := 9) (by decide) ?_
          refine Ev.icmp_le (pc := 51) (tgt := 61) dX9_plan_51 (by decide) (fun c9 => ?_) (fun c9 => ?_)
          · have h := eF h c9
            refine Ev.aload_n (pc := 61) dX9_plan_61 rfl ?_
            refine Ev.getR (pc := 62) dX9_plan_62 fl_RX9_12 lC_0 rfl ?_
            refine Ev.iload_n (pc := 65) dX9_plan_65 rfl ?_
            refine Ev.iload_n (pc := 66) dX9_plan_66 rfl ?_
            refine Ev.iload_n (pc := 67) dX9_plan_67 rfl ?_
            refine Ev.iload (pc := 68) dX9_plan_68 rfl ?_
            refine eBk h (fun q6 hq6 h => ?_)
            refine Ev.callV (pc := 70) (as := [.int x1, .int x2, .int x3, .int x4]) (st := []) (z := 14) dX9_plan_70 wc_X8_planFor ml_RX9_358 im_X8_planFor se_X8_planFor lC_1 rfl rfl (ev_X8_planFor x1 x2 x3 x4 M _ hq6) rfl rfl (by decide) rfl rfl (Nat.le_of_ble_eq_true rfl) ?_
            obtain rfl := Option.some.inj h
            exact Ev.iret (pc := 73) dX9_plan_73 rfl rfl
          · have h := eT h c9
            refine Ev.aload_n (pc := 54) dX9_plan_54 rfl ?_
            refine Ev.ldc (pc := 55) dX9_plan_55 ld_RX9_192 ?_
            refine eBk h (fun q7 hq7 h => ?_)
            refine Ev.callV (pc := 57) (as := [.int (-1000007)]) (st := []) (z := 1) dX9_plan_57 wc_X9_found ml_RX9_42 im_X9_found se_X9_found lC_0 rfl rfl (ev_X9_found (-1000007) M _ hq7) rfl rfl (by decide) rfl rfl (Nat.le_of_ble_eq_true rfl) ?_
            obtain rfl := Option.some.inj h
            exact Ev.iret (pc := 60) dX9_plan_60 rfl rfl
        · have h := eT h c9
          refine Ev.aload_n (pc := 38) dX9_plan_38 rfl ?_
          refine Ev.ldc (pc := 39) dX9_plan_39 ld_RX9_41 ?_
          refine eBk h (fun q8 hq8 h => ?_)
          refine Ev.callV (pc := 41) (as := [.int (-1000001)]) (st := []) (z := 1) dX9_plan_41 wc_X9_found ml_RX9_42 im_X9_found se_X9_found lC_0 rfl rfl (ev_X9_found (-1000001) M _ hq8) rfl rfl (by decide) rfl rfl (Nat.le_of_ble_eq_true rfl) ?_
          obtain rfl := Option.some.inj h
          exact Ev.iret (pc := 44) dX9_plan_44 rfl rfl
    · have h := eT h c9
      refine Ev.aload_n (pc := 22) dX9_plan_22 rfl ?_
      refine Ev.ldc (pc := 23) dX9_plan_23 ld_RX9_41 ?_
      refine eBk h (fun q9 hq9 h => ?_)
      refine Ev.callV (pc := 25) (as := [.int (-1000001)]) (st := []) (z := 1) dX9_plan_25 wc_X9_found ml_RX9_42 im_X9_found se_X9_found lC_0 rfl rfl (ev_X9_found (-1000001) M _ hq9) rfl rfl (by decide) rfl rfl (Nat.le_of_ble_eq_true rfl) ?_
      obtain rfl := Option.some.inj h
      exact Ev.iret (pc := 28) dX9_plan_28 rfl rfl
theorem dX10_isSet_0 : decode cX10_isSet 0 = .ok (.iload_n 1, 1) := by decide +kernel
theorem dX10_isSet_1 : decode cX10_isSet 1 = .ok (.ifCond .lt 20, 3) := by decide +kernel
theorem dX10_isSet_4 : decode cX10_isSet 4 = .ok (.iload_n 1, 1) := by decide +kernel
theorem dX10_isSet_5 : decode cX10_isSet 5 = .ok (.iconst 1, 1) := by decide +kernel
theorem dX10_isSet_6 : decode cX10_isSet 6 = .ok (.aload_n 0, 1) := by decide +kernel
theorem dX10_isSet_7 : decode cX10_isSet 7 = .ok (.getfield 7, 3) := by decide +kernel
theorem dX10_isSet_10 : decode cX10_isSet 10 = .ok (.bipush 9, 2) := by decide +kernel
theorem dX10_isSet_12 : decode cX10_isSet 12 = .ok (.iaload, 1) := by decide +kernel
theorem dX10_isSet_13 : decode cX10_isSet 13 = .ok (.ishl, 1) := by decide +kernel
theorem dX10_isSet_14 : decode cX10_isSet 14 = .ok (.if_icmp .ge 7, 3) := by decide +kernel
theorem dX10_isSet_17 : decode cX10_isSet 17 = .ok (.iconst 1, 1) := by decide +kernel
theorem dX10_isSet_18 : decode cX10_isSet 18 = .ok (.goto 4, 3) := by decide +kernel
theorem dX10_isSet_21 : decode cX10_isSet 21 = .ok (.iconst 0, 1) := by decide +kernel
theorem dX10_isSet_22 : decode cX10_isSet 22 = .ok (.ireturn, 1) := by decide +kernel
def F_X10_isSet (x1 : Int32) (M : eMem) : Option Int32 :=
  if x1 < 0 then
    some 0
  else
    if x1 < (1 <<< ((M.1 1 9) &&& 31)) then
      some 1
    else
      some 0
set_option maxRecDepth 100000 in
set_option maxHeartbeats 4000000 in
theorem ev_X10_isSet (x1 : Int32) (M : eMem) (q : Int32) (h : F_X10_isSet x1 M = some q) : Ev layR 0 m_X10_isSet 0 [some (.ref 0), some (.int x1)] [] M (some (.int q), M) := by
  rw [F_X10_isSet] at h
  refine Ev.iload_n (pc := 0) dX10_isSet_0 rfl ?_
  refine Ev.if_lt (pc := 1) (tgt := 21) dX10_isSet_1 (by decide) (fun c9 => ?_) (fun c9 => ?_)
  · have h := eT h c9
    refine Ev.iconst (pc := 21) dX10_isSet_21 (v := 0) (by decide) ?_
    obtain rfl := Option.some.inj h
    exact Ev.iret (pc := 22) dX10_isSet_22 rfl rfl
  · have h := eF h c9
    refine Ev.iload_n (pc := 4) dX10_isSet_4 rfl ?_
    refine Ev.iconst (pc := 5) dX10_isSet_5 (v := 1) (by decide) ?_
    refine Ev.aload_n (pc := 6) dX10_isSet_6 rfl ?_
    refine Ev.getR (pc := 7) dX10_isSet_7 fl_RX10_7 lR_0 rfl ?_
    refine Ev.bipush (pc := 10) dX10_isSet_10 (v := 9) (by decide) ?_
    refine Ev.ialdj (pc := 12) dX10_isSet_12 (j := 9) lR_1 (by decide) (by decide) ?_
    refine Ev.ishl (pc := 13) dX10_isSet_13 ?_
    refine Ev.icmp_ge (pc := 14) (tgt := 21) dX10_isSet_14 (by decide) (fun c9 => ?_) (fun c9 => ?_)
    · have h := eF h c9
      refine Ev.iconst (pc := 21) dX10_isSet_21 (v := 0) (by decide) ?_
      obtain rfl := Option.some.inj h
      exact Ev.iret (pc := 22) dX10_isSet_22 rfl rfl
    · have h := eT h c9
      refine Ev.iconst (pc := 17) dX10_isSet_17 (v := 1) (by decide) ?_
      refine Ev.goto (pc := 18) (tgt := 22) dX10_isSet_18 (by decide) ?_
      obtain rfl := Option.some.inj h
      exact Ev.iret (pc := 22) dX10_isSet_22 rfl rfl
theorem dX10_ones_0 : decode cX10_ones 0 = .ok (.iconst 0, 1) := by decide +kernel
theorem dX10_ones_1 : decode cX10_ones 1 = .ok (.istore_n 1, 1) := by decide +kernel
theorem dX10_ones_2 : decode cX10_ones 2 = .ok (.iconst 0, 1) := by decide +kernel
theorem dX10_ones_3 : decode cX10_ones 3 = .ok (.istore_n 2, 1) := by decide +kernel
theorem dX10_ones_4 : decode cX10_ones 4 = .ok (.iload_n 2, 1) := by decide +kernel
theorem dX10_ones_5 : decode cX10_ones 5 = .ok (.bipush 20, 2) := by decide +kernel
theorem dX10_ones_7 : decode cX10_ones 7 = .ok (.if_icmp .ge 17, 3) := by decide +kernel
theorem dX10_ones_10 : decode cX10_ones 10 = .ok (.iload_n 1, 1) := by decide +kernel
theorem dX10_ones_11 : decode cX10_ones 11 = .ok (.iload_n 0, 1) := by decide +kernel
theorem dX10_ones_12 : decode cX10_ones 12 = .ok (.iload_n 2, 1) := by decide +kernel
theorem dX10_ones_13 : decode cX10_ones 13 = .ok (.ishr, 1) := by decide +kernel
theorem dX10_ones_14 : decode cX10_ones 14 = .ok (.iconst 1, 1) := by decide +kernel
theorem dX10_ones_15 : decode cX10_ones 15 = .ok (.iand, 1) := by decide +kernel
theorem dX10_ones_16 : decode cX10_ones 16 = .ok (.iadd, 1) := by decide +kernel
theorem dX10_ones_17 : decode cX10_ones 17 = .ok (.istore_n 1, 1) := by decide +kernel
theorem dX10_ones_18 : decode cX10_ones 18 = .ok (.iinc 2 1, 3) := by decide +kernel
theorem dX10_ones_21 : decode cX10_ones 21 = .ok (.goto (-17), 3) := by decide +kernel
theorem dX10_ones_24 : decode cX10_ones 24 = .ok (.iload_n 1, 1) := by decide +kernel
theorem dX10_ones_25 : decode cX10_ones 25 = .ok (.ireturn, 1) := by decide +kernel
def F_X10_ones_4  : Nat → Int32 → Int32 → Int32 → Option Int32
  | 0, _, _, _ => none
  | n + 1, v0, v1, v2 =>
    if v2 < 20 then
      F_X10_ones_4 n v0 (v1 + ((v0 >>> (v2 &&& 31)) &&& 1)) (v2 + 1)
    else
      some v1
set_option maxRecDepth 100000 in
set_option maxHeartbeats 4000000 in
theorem ev_X10_ones_4 {lay : List eLC}  (q : Int32) (M : eMem)  : ∀ (fuel : Nat) (v0 : Int32) (v1 : Int32) (v2 : Int32), F_X10_ones_4 fuel v0 v1 v2 = some q → Ev lay 0 m_X10_ones 4 [some (.int v0), some (.int v1), some (.int v2)] [] M (some (.int q), M) := by
  intro fuel
  induction fuel with
  | zero => intro v0 v1 v2 h; rw [F_X10_ones_4] at h; cases h
  | succ n ih =>
    intro v0 v1 v2 h
    rw [F_X10_ones_4] at h
    refine Ev.iload_n (pc := 4) dX10_ones_4 rfl ?_
    refine Ev.bipush (pc := 5) dX10_ones_5 (v := 20) (by decide) ?_
    refine Ev.icmp_ge (pc := 7) (tgt := 24) dX10_ones_7 (by decide) (fun c9 => ?_) (fun c9 => ?_)
    · have h := eF h c9
      refine Ev.iload_n (pc := 24) dX10_ones_24 rfl ?_
      obtain rfl := Option.some.inj h
      exact Ev.iret (pc := 25) dX10_ones_25 rfl rfl
    · have h := eT h c9
      refine Ev.iload_n (pc := 10) dX10_ones_10 rfl ?_
      refine Ev.iload_n (pc := 11) dX10_ones_11 rfl ?_
      refine Ev.iload_n (pc := 12) dX10_ones_12 rfl ?_
      refine Ev.ishr (pc := 13) dX10_ones_13 ?_
      refine Ev.iconst (pc := 14) dX10_ones_14 (v := 1) (by decide) ?_
      refine Ev.iand (pc := 15) dX10_ones_15 ?_
      refine Ev.iadd (pc := 16) dX10_ones_16 ?_
      refine Ev.istore_n (pc := 17) dX10_ones_17 (by decide) rfl rfl ?_
      refine Ev.iincv (pc := 18) dX10_ones_18 (v := 1) (by decide) rfl (by decide) rfl rfl ?_
      refine Ev.goto (pc := 21) (tgt := 4) dX10_ones_21 (by decide) ?_
      exact Ev.fg (ih _ _ _ h) (And.intro rfl (And.intro rfl (And.intro rfl trivial)))
def F_X10_ones (x0 : Int32) : Option Int32 :=
  F_X10_ones_4 eFuel x0 0 0
set_option maxRecDepth 100000 in
set_option maxHeartbeats 4000000 in
theorem ev_X10_ones {lay : List eLC} (x0 : Int32) (M : eMem) (q : Int32) (h : F_X10_ones x0 = some q) : Ev lay 0 m_X10_ones 0 [some (.int x0), none, none] [] M (some (.int q), M) := by
  rw [F_X10_ones] at h
  refine Ev.iconst (pc := 0) dX10_ones_0 (v := 0) (by decide) ?_
  refine Ev.istore_n (pc := 1) dX10_ones_1 (by decide) rfl rfl ?_
  refine Ev.iconst (pc := 2) dX10_ones_2 (v := 0) (by decide) ?_
  refine Ev.istore_n (pc := 3) dX10_ones_3 (by decide) rfl rfl ?_
  exact Ev.fg (ev_X10_ones_4 _ _ _ _ _ _ h) (And.intro rfl (And.intro rfl (And.intro rfl trivial)))
theorem dX10_lasts_0 : decode cX10_lasts 0 = .ok (.iconst 0, 1) := by decide +kernel
theorem dX10_lasts_1 : decode cX10_lasts 1 = .ok (.istore 4, 2) := by decide +kernel
theorem dX10_lasts_3 : decode cX10_lasts 3 = .ok (.iconst 0, 1) := by decide +kernel
theorem dX10_lasts_4 : decode cX10_lasts 4 = .ok (.istore 5, 2) := by decide +kernel
theorem dX10_lasts_6 : decode cX10_lasts 6 = .ok (.iconst 0, 1) := by decide +kernel
theorem dX10_lasts_7 : decode cX10_lasts 7 = .ok (.istore 6, 2) := by decide +kernel
theorem dX10_lasts_9 : decode cX10_lasts 9 = .ok (.iload 6, 2) := by decide +kernel
theorem dX10_lasts_11 : decode cX10_lasts 11 = .ok (.aload_n 0, 1) := by decide +kernel
theorem dX10_lasts_12 : decode cX10_lasts 12 = .ok (.getfield 7, 3) := by decide +kernel
theorem dX10_lasts_15 : decode cX10_lasts 15 = .ok (.bipush 9, 2) := by decide +kernel
theorem dX10_lasts_17 : decode cX10_lasts 17 = .ok (.iaload, 1) := by decide +kernel
theorem dX10_lasts_18 : decode cX10_lasts 18 = .ok (.if_icmp .ge 59, 3) := by decide +kernel
theorem dX10_lasts_21 : decode cX10_lasts 21 = .ok (.iload 4, 2) := by decide +kernel
theorem dX10_lasts_23 : decode cX10_lasts 23 = .ok (.iload_n 1, 1) := by decide +kernel
theorem dX10_lasts_24 : decode cX10_lasts 24 = .ok (.iload 6, 2) := by decide +kernel
theorem dX10_lasts_26 : decode cX10_lasts 26 = .ok (.ishr, 1) := by decide +kernel
theorem dX10_lasts_27 : decode cX10_lasts 27 = .ok (.iconst 1, 1) := by decide +kernel
theorem dX10_lasts_28 : decode cX10_lasts 28 = .ok (.iand, 1) := by decide +kernel
theorem dX10_lasts_29 : decode cX10_lasts 29 = .ok (.iconst 1, 1) := by decide +kernel
theorem dX10_lasts_30 : decode cX10_lasts 30 = .ok (.if_icmp .ne 12, 3) := by decide +kernel
theorem dX10_lasts_33 : decode cX10_lasts 33 = .ok (.aload_n 0, 1) := by decide +kernel
theorem dX10_lasts_34 : decode cX10_lasts 34 = .ok (.iload 6, 2) := by decide +kernel
theorem dX10_lasts_36 : decode cX10_lasts 36 = .ok (.invokevirtual 115, 3) := by decide +kernel
theorem dX10_lasts_39 : decode cX10_lasts 39 = .ok (.goto 4, 3) := by decide +kernel
theorem dX10_lasts_42 : decode cX10_lasts 42 = .ok (.iconst 0, 1) := by decide +kernel
theorem dX10_lasts_43 : decode cX10_lasts 43 = .ok (.iadd, 1) := by decide +kernel
theorem dX10_lasts_44 : decode cX10_lasts 44 = .ok (.istore 4, 2) := by decide +kernel
theorem dX10_lasts_46 : decode cX10_lasts 46 = .ok (.iload 5, 2) := by decide +kernel
theorem dX10_lasts_48 : decode cX10_lasts 48 = .ok (.iload_n 1, 1) := by decide +kernel
theorem dX10_lasts_49 : decode cX10_lasts 49 = .ok (.iload 6, 2) := by decide +kernel
theorem dX10_lasts_51 : decode cX10_lasts 51 = .ok (.ishr, 1) := by decide +kernel
theorem dX10_lasts_52 : decode cX10_lasts 52 = .ok (.iconst 1, 1) := by decide +kernel
theorem dX10_lasts_53 : decode cX10_lasts 53 = .ok (.iand, 1) := by decide +kernel
theorem dX10_lasts_54 : decode cX10_lasts 54 = .ok (.iconst 1, 1) := by decide +kernel
theorem dX10_lasts_55 : decode cX10_lasts 55 = .ok (.if_icmp .ne 12, 3) := by decide +kernel
theorem dX10_lasts_58 : decode cX10_lasts 58 = .ok (.aload_n 0, 1) := by decide +kernel
theorem dX10_lasts_59 : decode cX10_lasts 59 = .ok (.iload 6, 2) := by decide +kernel
theorem dX10_lasts_61 : decode cX10_lasts 61 = .ok (.invokevirtual 121, 3) := by decide +kernel
theorem dX10_lasts_64 : decode cX10_lasts 64 = .ok (.goto 4, 3) := by decide +kernel
theorem dX10_lasts_67 : decode cX10_lasts 67 = .ok (.iconst 0, 1) := by decide +kernel
theorem dX10_lasts_68 : decode cX10_lasts 68 = .ok (.iadd, 1) := by decide +kernel
theorem dX10_lasts_69 : decode cX10_lasts 69 = .ok (.istore 5, 2) := by decide +kernel
theorem dX10_lasts_71 : decode cX10_lasts 71 = .ok (.iinc 6 1, 3) := by decide +kernel
theorem dX10_lasts_74 : decode cX10_lasts 74 = .ok (.goto (-65), 3) := by decide +kernel
theorem dX10_lasts_77 : decode cX10_lasts 77 = .ok (.iload 4, 2) := by decide +kernel
theorem dX10_lasts_79 : decode cX10_lasts 79 = .ok (.iload_n 2, 1) := by decide +kernel
theorem dX10_lasts_80 : decode cX10_lasts 80 = .ok (.if_icmp .gt 13, 3) := by decide +kernel
theorem dX10_lasts_83 : decode cX10_lasts 83 = .ok (.iload 5, 2) := by decide +kernel
theorem dX10_lasts_85 : decode cX10_lasts 85 = .ok (.iload_n 3, 1) := by decide +kernel
theorem dX10_lasts_86 : decode cX10_lasts 86 = .ok (.if_icmp .gt 7, 3) := by decide +kernel
theorem dX10_lasts_89 : decode cX10_lasts 89 = .ok (.iconst 1, 1) := by decide +kernel
theorem dX10_lasts_90 : decode cX10_lasts 90 = .ok (.goto 4, 3) := by decide +kernel
theorem dX10_lasts_93 : decode cX10_lasts 93 = .ok (.iconst 0, 1) := by decide +kernel
theorem dX10_lasts_94 : decode cX10_lasts 94 = .ok (.ireturn, 1) := by decide +kernel
def F_X10_lasts_43 (rec : Int32 → Int32 → Int32 → Int32 → Int32 → Int32 → Option Int32) (K77 : Int32 → Int32 → Int32 → Int32 → Option Int32) (v1 : Int32) (v2 : Int32) (v3 : Int32) (v5 : Int32) (v6 : Int32) (s0 : Int32) (s1 : Int32) (M : eMem) : Option Int32 :=
  if ((v1 >>> (v6 &&& 31)) &&& 1) = 1 then
    (F_X10_priceOf v6 M).bind fun q1 =>
    rec v1 v2 v3 (s1 + s0) (v5 + q1) (v6 + 1)
  else
    rec v1 v2 v3 (s1 + s0) (v5 + 0) (v6 + 1)
set_option maxRecDepth 100000 in
set_option maxHeartbeats 4000000 in
theorem ev_X10_lasts_43 (rec : Int32 → Int32 → Int32 → Int32 → Int32 → Int32 → Option Int32) (K77 : Int32 → Int32 → Int32 → Int32 → Option Int32) (q : Int32) (M : eMem) (hrec : ∀ (v1 : Int32) (v2 : Int32) (v3 : Int32) (v4 : Int32) (v5 : Int32) (v6 : Int32), rec v1 v2 v3 v4 v5 v6 = some q → Ev layR 2 m_X10_lasts 9 [some (.ref 0), some (.int v1), some (.int v2), some (.int v3), some (.int v4), some (.int v5), some (.int v6)] [] M (some (.int q), M)) (hK77 : ∀ (v2 : Int32) (v3 : Int32) (v4 : Int32) (v5 : Int32), K77 v2 v3 v4 v5 = some q → Ev layR 2 m_X10_lasts 77 [none, none, some (.int v2), some (.int v3), some (.int v4), some (.int v5), none] [] M (some (.int q), M)) (v1 : Int32) (v2 : Int32) (v3 : Int32) (v5 : Int32) (v6 : Int32) (s0 : Int32) (s1 : Int32) (h : F_X10_lasts_43 rec K77 v1 v2 v3 v5 v6 s0 s1 M = some q) : Ev layR 2 m_X10_lasts 43 [some (.ref 0), some (.int v1), some (.int v2), some (.int v3), none, some (.int v5), some (.int v6)] [.int s0, .int s1] M (some (.int q), M) := by
  rw [F_X10_lasts_43] at h
  refine Ev.iadd (pc := 43) dX10_lasts_43 ?_
  refine Ev.istore (pc := 44) dX10_lasts_44 (by decide) rfl rfl ?_
  refine Ev.iload (pc := 46) dX10_lasts_46 rfl ?_
  refine Ev.iload_n (pc := 48) dX10_lasts_48 rfl ?_
  refine Ev.iload (pc := 49) dX10_lasts_49 rfl ?_
  refine Ev.ishr (pc := 51) dX10_lasts_51 ?_
  refine Ev.iconst (pc := 52) dX10_lasts_52 (v := 1) (by decide) ?_
  refine Ev.iand (pc := 53) dX10_lasts_53 ?_
  refine Ev.iconst (pc := 54) dX10_lasts_54 (v := 1) (by decide) ?_
  refine Ev.icmp_ne (pc := 55) (tgt := 67) dX10_lasts_55 (by decide) (fun c9 => ?_) (fun c9 => ?_)
  · have h := eF h c9
    refine Ev.iconst (pc := 67) dX10_lasts_67 (v := 0) (by decide) ?_
    refine Ev.iadd (pc := 68) dX10_lasts_68 ?_
    refine Ev.istore (pc := 69) dX10_lasts_69 (by decide) rfl rfl ?_
    refine Ev.iincv (pc := 71) dX10_lasts_71 (v := 1) (by decide) rfl (by decide) rfl rfl ?_
    refine Ev.goto (pc := 74) (tgt := 9) dX10_lasts_74 (by decide) ?_
    exact Ev.fg (hrec _ _ _ _ _ _ h) (And.intro rfl (And.intro rfl (And.intro rfl (And.intro rfl (And.intro rfl (And.intro rfl (And.intro rfl trivial)))))))
  · have h := eT h c9
    refine Ev.aload_n (pc := 58) dX10_lasts_58 rfl ?_
    refine Ev.iload (pc := 59) dX10_lasts_59 rfl ?_
    refine eBk h (fun q1 hq1 h => ?_)
    refine Ev.callV (pc := 61) (as := [.int v6]) (st := [.int v5]) (z := 0) dX10_lasts_61 wc_X10_priceOf ml_RX10_121 im_X10_priceOf se_X10_priceOf lR_0 rfl rfl (ev_X10_priceOf v6 M _ hq1) rfl rfl (by decide) rfl rfl (Nat.le_of_ble_eq_true rfl) ?_
    refine Ev.goto (pc := 64) (tgt := 68) dX10_lasts_64 (by decide) ?_
    refine Ev.iadd (pc := 68) dX10_lasts_68 ?_
    refine Ev.istore (pc := 69) dX10_lasts_69 (by decide) rfl rfl ?_
    refine Ev.iincv (pc := 71) dX10_lasts_71 (v := 1) (by decide) rfl (by decide) rfl rfl ?_
    refine Ev.goto (pc := 74) (tgt := 9) dX10_lasts_74 (by decide) ?_
    exact Ev.fg (hrec _ _ _ _ _ _ h) (And.intro rfl (And.intro rfl (And.intro rfl (And.intro rfl (And.intro rfl (And.intro rfl (And.intro rfl trivial)))))))
def F_X10_lasts_9 (K77 : Int32 → Int32 → Int32 → Int32 → Option Int32) : Nat → eMem → Int32 → Int32 → Int32 → Int32 → Int32 → Int32 → Option Int32
  | 0, _, _, _, _, _, _, _ => none
  | n + 1, M, v1, v2, v3, v4, v5, v6 =>
    if v6 < (M.1 1 9) then
      if ((v1 >>> (v6 &&& 31)) &&& 1) = 1 then
        (F_X10_needOf v6 M).bind fun q2 =>
        F_X10_lasts_43 (fun v1 v2 v3 v4 v5 v6 => F_X10_lasts_9 K77 n M v1 v2 v3 v4 v5 v6) K77 v1 v2 v3 v5 v6 q2 v4 M
      else
        F_X10_lasts_43 (fun v1 v2 v3 v4 v5 v6 => F_X10_lasts_9 K77 n M v1 v2 v3 v4 v5 v6) K77 v1 v2 v3 v5 v6 0 v4 M
    else
      K77 v2 v3 v4 v5
set_option maxRecDepth 100000 in
set_option maxHeartbeats 4000000 in
theorem ev_X10_lasts_9 (K77 : Int32 → Int32 → Int32 → Int32 → Option Int32) (q : Int32) (M : eMem) (hK77 : ∀ (v2 : Int32) (v3 : Int32) (v4 : Int32) (v5 : Int32), K77 v2 v3 v4 v5 = some q → Ev layR 2 m_X10_lasts 77 [none, none, some (.int v2), some (.int v3), some (.int v4), some (.int v5), none] [] M (some (.int q), M)) : ∀ (fuel : Nat) (v1 : Int32) (v2 : Int32) (v3 : Int32) (v4 : Int32) (v5 : Int32) (v6 : Int32), F_X10_lasts_9 K77 fuel M v1 v2 v3 v4 v5 v6 = some q → Ev layR 2 m_X10_lasts 9 [some (.ref 0), some (.int v1), some (.int v2), some (.int v3), some (.int v4), some (.int v5), some (.int v6)] [] M (some (.int q), M) := by
  intro fuel
  induction fuel with
  | zero => intro v1 v2 v3 v4 v5 v6 h; rw [F_X10_lasts_9] at h; cases h
  | succ n ih =>
    intro v1 v2 v3 v4 v5 v6 h
    rw [F_X10_lasts_9] at h
    refine Ev.iload (pc := 9) dX10_lasts_9 rfl ?_
    refine Ev.aload_n (pc := 11) dX10_lasts_11 rfl ?_
    refine Ev.getR (pc := 12) dX10_lasts_12 fl_RX10_7 lR_0 rfl ?_
    refine Ev.bipush (pc := 15) dX10_lasts_15 (v := 9) (by decide) ?_
    refine Ev.ialdj (pc := 17) dX10_lasts_17 (j := 9) lR_1 (by decide) (by decide) ?_
    refine Ev.icmp_ge (pc := 18) (tgt := 77) dX10_lasts_18 (by decide) (fun c9 => ?_) (fun c9 => ?_)
    · have h := eF h c9
      exact Ev.fg (hK77 _ _ _ _ h) (And.intro rfl (And.intro rfl (And.intro rfl (And.intro rfl trivial))))
    · have h := eT h c9
      refine Ev.iload (pc := 21) dX10_lasts_21 rfl ?_
      refine Ev.iload_n (pc := 23) dX10_lasts_23 rfl ?_
      refine Ev.iload (pc := 24) dX10_lasts_24 rfl ?_
      refine Ev.ishr (pc := 26) dX10_lasts_26 ?_
      refine Ev.iconst (pc := 27) dX10_lasts_27 (v := 1) (by decide) ?_
      refine Ev.iand (pc := 28) dX10_lasts_28 ?_
      refine Ev.iconst (pc := 29) dX10_lasts_29 (v := 1) (by decide) ?_
      refine Ev.icmp_ne (pc := 30) (tgt := 42) dX10_lasts_30 (by decide) (fun c9 => ?_) (fun c9 => ?_)
      · have h := eF h c9
        refine Ev.iconst (pc := 42) dX10_lasts_42 (v := 0) (by decide) ?_
        exact Ev.fg (ev_X10_lasts_43 _ _ _ _ ih hK77 _ _ _ _ _ _ _ h) (And.intro rfl (And.intro rfl (And.intro rfl (And.intro rfl (And.intro rfl (And.intro rfl trivial))))))
      · have h := eT h c9
        refine Ev.aload_n (pc := 33) dX10_lasts_33 rfl ?_
        refine Ev.iload (pc := 34) dX10_lasts_34 rfl ?_
        refine eBk h (fun q2 hq2 h => ?_)
        refine Ev.callV (pc := 36) (as := [.int v6]) (st := [.int v4]) (z := 1) dX10_lasts_36 wc_X10_needOf ml_RX10_115 im_X10_needOf se_X10_needOf lR_0 rfl rfl (ev_X10_needOf v6 M _ hq2) rfl rfl (by decide) rfl rfl (Nat.le_of_ble_eq_true rfl) ?_
        refine Ev.goto (pc := 39) (tgt := 43) dX10_lasts_39 (by decide) ?_
        exact Ev.fg (ev_X10_lasts_43 _ _ _ _ ih hK77 _ _ _ _ _ _ _ h) (And.intro rfl (And.intro rfl (And.intro rfl (And.intro rfl (And.intro rfl (And.intro rfl trivial))))))
def F_X10_lasts (x1 : Int32) (x2 : Int32) (x3 : Int32) (M : eMem) : Option Int32 :=
  F_X10_lasts_9
    (fun v2 v3 v4 v5 =>
      if v2 < v4 then
        some 0
      else
        if v3 < v5 then
          some 0
        else
          some 1)
    eFuel M x1 x2 x3 0 0 0
set_option maxRecDepth 100000 in
set_option maxHeartbeats 4000000 in
theorem ev_X10_lasts (x1 : Int32) (x2 : Int32) (x3 : Int32) (M : eMem) (q : Int32) (h : F_X10_lasts x1 x2 x3 M = some q) : Ev layR 2 m_X10_lasts 0 [some (.ref 0), some (.int x1), some (.int x2), some (.int x3), none, none, none] [] M (some (.int q), M) := by
  rw [F_X10_lasts] at h
  refine Ev.iconst (pc := 0) dX10_lasts_0 (v := 0) (by decide) ?_
  refine Ev.istore (pc := 1) dX10_lasts_1 (by decide) rfl rfl ?_
  refine Ev.iconst (pc := 3) dX10_lasts_3 (v := 0) (by decide) ?_
  refine Ev.istore (pc := 4) dX10_lasts_4 (by decide) rfl rfl ?_
  refine Ev.iconst (pc := 6) dX10_lasts_6 (v := 0) (by decide) ?_
  refine Ev.istore (pc := 7) dX10_lasts_7 (by decide) rfl rfl ?_
  refine Ev.fg (ev_X10_lasts_9 _ _ _ ?_ _ _ _ _ _ _ _ h) (And.intro rfl (And.intro rfl (And.intro rfl (And.intro rfl (And.intro rfl (And.intro rfl (And.intro rfl trivial)))))))
  · intro v2 v3 v4 v5 h
    refine Ev.iload (pc := 77) dX10_lasts_77 rfl ?_
    refine Ev.iload_n (pc := 79) dX10_lasts_79 rfl ?_
    refine Ev.icmp_gt (pc := 80) (tgt := 93) dX10_lasts_80 (by decide) (fun c9 => ?_) (fun c9 => ?_)
    · have h := eT h c9
      refine Ev.iconst (pc := 93) dX10_lasts_93 (v := 0) (by decide) ?_
      obtain rfl := Option.some.inj h
      exact Ev.iret (pc := 94) dX10_lasts_94 rfl rfl
    · have h := eF h c9
      refine Ev.iload (pc := 83) dX10_lasts_83 rfl ?_
      refine Ev.iload_n (pc := 85) dX10_lasts_85 rfl ?_
      refine Ev.icmp_gt (pc := 86) (tgt := 93) dX10_lasts_86 (by decide) (fun c9 => ?_) (fun c9 => ?_)
      · have h := eT h c9
        refine Ev.iconst (pc := 93) dX10_lasts_93 (v := 0) (by decide) ?_
        obtain rfl := Option.some.inj h
        exact Ev.iret (pc := 94) dX10_lasts_94 rfl rfl
      · have h := eF h c9
        refine Ev.iconst (pc := 89) dX10_lasts_89 (v := 1) (by decide) ?_
        refine Ev.goto (pc := 90) (tgt := 94) dX10_lasts_90 (by decide) ?_
        obtain rfl := Option.some.inj h
        exact Ev.iret (pc := 94) dX10_lasts_94 rfl rfl
theorem dX10_giveOf_0 : decode cX10_giveOf 0 = .ok (.aload_n 0, 1) := by decide +kernel
theorem dX10_giveOf_1 : decode cX10_giveOf 1 = .ok (.iload_n 1, 1) := by decide +kernel
theorem dX10_giveOf_2 : decode cX10_giveOf 2 = .ok (.iconst 0, 1) := by decide +kernel
theorem dX10_giveOf_3 : decode cX10_giveOf 3 = .ok (.invokevirtual 77, 3) := by decide +kernel
theorem dX10_giveOf_6 : decode cX10_giveOf 6 = .ok (.istore_n 2, 1) := by decide +kernel
theorem dX10_giveOf_7 : decode cX10_giveOf 7 = .ok (.iload_n 2, 1) := by decide +kernel
theorem dX10_giveOf_8 : decode cX10_giveOf 8 = .ok (.iconst 2, 1) := by decide +kernel
theorem dX10_giveOf_9 : decode cX10_giveOf 9 = .ok (.if_icmp .gt 7, 3) := by decide +kernel
theorem dX10_giveOf_12 : decode cX10_giveOf 12 = .ok (.iconst 2, 1) := by decide +kernel
theorem dX10_giveOf_13 : decode cX10_giveOf 13 = .ok (.goto 28, 3) := by decide +kernel
theorem dX10_giveOf_16 : decode cX10_giveOf 16 = .ok (.iload_n 2, 1) := by decide +kernel
theorem dX10_giveOf_17 : decode cX10_giveOf 17 = .ok (.iconst 3, 1) := by decide +kernel
theorem dX10_giveOf_18 : decode cX10_giveOf 18 = .ok (.if_icmp .ne 7, 3) := by decide +kernel
theorem dX10_giveOf_21 : decode cX10_giveOf 21 = .ok (.iconst 1, 1) := by decide +kernel
theorem dX10_giveOf_22 : decode cX10_giveOf 22 = .ok (.goto 19, 3) := by decide +kernel
theorem dX10_giveOf_25 : decode cX10_giveOf 25 = .ok (.iload_n 2, 1) := by decide +kernel
theorem dX10_giveOf_26 : decode cX10_giveOf 26 = .ok (.bipush 6, 2) := by decide +kernel
theorem dX10_giveOf_28 : decode cX10_giveOf 28 = .ok (.if_icmp .ne 7, 3) := by decide +kernel
theorem dX10_giveOf_31 : decode cX10_giveOf 31 = .ok (.iconst 0, 1) := by decide +kernel
theorem dX10_giveOf_32 : decode cX10_giveOf 32 = .ok (.goto 9, 3) := by decide +kernel
theorem dX10_giveOf_35 : decode cX10_giveOf 35 = .ok (.aload_n 0, 1) := by decide +kernel
theorem dX10_giveOf_36 : decode cX10_giveOf 36 = .ok (.iload_n 1, 1) := by decide +kernel
theorem dX10_giveOf_37 : decode cX10_giveOf 37 = .ok (.iconst 3, 1) := by decide +kernel
theorem dX10_giveOf_38 : decode cX10_giveOf 38 = .ok (.invokevirtual 77, 3) := by decide +kernel
theorem dX10_giveOf_41 : decode cX10_giveOf 41 = .ok (.ireturn, 1) := by decide +kernel
def F_X10_giveOf (x1 : Int32) (M : eMem) : Option Int32 :=
  (F_X10_show x1 0 M).bind fun q1 =>
  if 2 < q1 then
    if q1 = 3 then
      some 1
    else
      if q1 = 6 then
        some 0
      else
        (F_X10_show x1 3 M).bind fun q2 =>
        some q2
  else
    some 2
set_option maxRecDepth 100000 in
set_option maxHeartbeats 4000000 in
theorem ev_X10_giveOf (x1 : Int32) (M : eMem) (q : Int32) (h : F_X10_giveOf x1 M = some q) : Ev layR 1 m_X10_giveOf 0 [some (.ref 0), some (.int x1), none] [] M (some (.int q), M) := by
  rw [F_X10_giveOf] at h
  refine Ev.aload_n (pc := 0) dX10_giveOf_0 rfl ?_
  refine Ev.iload_n (pc := 1) dX10_giveOf_1 rfl ?_
  refine Ev.iconst (pc := 2) dX10_giveOf_2 (v := 0) (by decide) ?_
  refine eBk h (fun q1 hq1 h => ?_)
  refine Ev.callV (pc := 3) (as := [.int x1, .int 0]) (st := []) (z := 0) dX10_giveOf_3 wc_X10_show ml_RX10_77 im_X10_show se_X10_show lR_0 rfl rfl (ev_X10_show x1 0 M _ hq1) rfl rfl (by decide) rfl rfl (Nat.le_of_ble_eq_true rfl) ?_
  refine Ev.istore_n (pc := 6) dX10_giveOf_6 (by decide) rfl rfl ?_
  refine Ev.iload_n (pc := 7) dX10_giveOf_7 rfl ?_
  refine Ev.iconst (pc := 8) dX10_giveOf_8 (v := 2) (by decide) ?_
  refine Ev.icmp_gt (pc := 9) (tgt := 16) dX10_giveOf_9 (by decide) (fun c9 => ?_) (fun c9 => ?_)
  · have h := eT h c9
    refine Ev.iload_n (pc := 16) dX10_giveOf_16 rfl ?_
    refine Ev.iconst (pc := 17) dX10_giveOf_17 (v := 3) (by decide) ?_
    refine Ev.icmp_ne (pc := 18) (tgt := 25) dX10_giveOf_18 (by decide) (fun c9 => ?_) (fun c9 => ?_)
    · have h := eF h c9
      refine Ev.iload_n (pc := 25) dX10_giveOf_25 rfl ?_
      refine Ev.bipush (pc := 26) dX10_giveOf_26 (v := 6) (by decide) ?_
      refine Ev.icmp_ne (pc := 28) (tgt := 35) dX10_giveOf_28 (by decide) (fun c9 => ?_) (fun c9 => ?_)
      · have h := eF h c9
        refine Ev.aload_n (pc := 35) dX10_giveOf_35 rfl ?_
        refine Ev.iload_n (pc := 36) dX10_giveOf_36 rfl ?_
        refine Ev.iconst (pc := 37) dX10_giveOf_37 (v := 3) (by decide) ?_
        refine eBk h (fun q2 hq2 h => ?_)
        refine Ev.callV (pc := 38) (as := [.int x1, .int 3]) (st := []) (z := 0) dX10_giveOf_38 wc_X10_show ml_RX10_77 im_X10_show se_X10_show lR_0 rfl rfl (ev_X10_show x1 3 M _ hq2) rfl rfl (by decide) rfl rfl (Nat.le_of_ble_eq_true rfl) ?_
        obtain rfl := Option.some.inj h
        exact Ev.iret (pc := 41) dX10_giveOf_41 rfl rfl
      · have h := eT h c9
        refine Ev.iconst (pc := 31) dX10_giveOf_31 (v := 0) (by decide) ?_
        refine Ev.goto (pc := 32) (tgt := 41) dX10_giveOf_32 (by decide) ?_
        obtain rfl := Option.some.inj h
        exact Ev.iret (pc := 41) dX10_giveOf_41 rfl rfl
    · have h := eT h c9
      refine Ev.iconst (pc := 21) dX10_giveOf_21 (v := 1) (by decide) ?_
      refine Ev.goto (pc := 22) (tgt := 41) dX10_giveOf_22 (by decide) ?_
      obtain rfl := Option.some.inj h
      exact Ev.iret (pc := 41) dX10_giveOf_41 rfl rfl
  · have h := eF h c9
    refine Ev.iconst (pc := 12) dX10_giveOf_12 (v := 2) (by decide) ?_
    refine Ev.goto (pc := 13) (tgt := 41) dX10_giveOf_13 (by decide) ?_
    obtain rfl := Option.some.inj h
    exact Ev.iret (pc := 41) dX10_giveOf_41 rfl rfl
theorem dX10_give_0 : decode cX10_give 0 = .ok (.iconst 0, 1) := by decide +kernel
theorem dX10_give_1 : decode cX10_give 1 = .ok (.istore_n 3, 1) := by decide +kernel
theorem dX10_give_2 : decode cX10_give 2 = .ok (.iload_n 3, 1) := by decide +kernel
theorem dX10_give_3 : decode cX10_give 3 = .ok (.aload_n 0, 1) := by decide +kernel
theorem dX10_give_4 : decode cX10_give 4 = .ok (.getfield 7, 3) := by decide +kernel
theorem dX10_give_7 : decode cX10_give 7 = .ok (.bipush 9, 2) := by decide +kernel
theorem dX10_give_9 : decode cX10_give 9 = .ok (.iaload, 1) := by decide +kernel
theorem dX10_give_10 : decode cX10_give 10 = .ok (.if_icmp .ge 35, 3) := by decide +kernel
theorem dX10_give_13 : decode cX10_give 13 = .ok (.iload_n 1, 1) := by decide +kernel
theorem dX10_give_14 : decode cX10_give 14 = .ok (.iload_n 3, 1) := by decide +kernel
theorem dX10_give_15 : decode cX10_give 15 = .ok (.ishr, 1) := by decide +kernel
theorem dX10_give_16 : decode cX10_give 16 = .ok (.iconst 1, 1) := by decide +kernel
theorem dX10_give_17 : decode cX10_give 17 = .ok (.iand, 1) := by decide +kernel
theorem dX10_give_18 : decode cX10_give 18 = .ok (.iconst 1, 1) := by decide +kernel
theorem dX10_give_19 : decode cX10_give 19 = .ok (.if_icmp .ne 20, 3) := by decide +kernel
theorem dX10_give_22 : decode cX10_give 22 = .ok (.aload_n 0, 1) := by decide +kernel
theorem dX10_give_23 : decode cX10_give 23 = .ok (.iload_n 2, 1) := by decide +kernel
theorem dX10_give_24 : decode cX10_give 24 = .ok (.aload_n 0, 1) := by decide +kernel
theorem dX10_give_25 : decode cX10_give 25 = .ok (.iload_n 3, 1) := by decide +kernel
theorem dX10_give_26 : decode cX10_give 26 = .ok (.iconst 1, 1) := by decide +kernel
theorem dX10_give_27 : decode cX10_give 27 = .ok (.invokevirtual 77, 3) := by decide +kernel
theorem dX10_give_30 : decode cX10_give 30 = .ok (.iconst 1, 1) := by decide +kernel
theorem dX10_give_31 : decode cX10_give 31 = .ok (.aload_n 0, 1) := by decide +kernel
theorem dX10_give_32 : decode cX10_give 32 = .ok (.iload_n 3, 1) := by decide +kernel
theorem dX10_give_33 : decode cX10_give 33 = .ok (.invokevirtual 249, 3) := by decide +kernel
theorem dX10_give_36 : decode cX10_give 36 = .ok (.invokevirtual 150, 3) := by decide +kernel
theorem dX10_give_39 : decode cX10_give 39 = .ok (.iinc 3 1, 3) := by decide +kernel
theorem dX10_give_42 : decode cX10_give 42 = .ok (.goto (-40), 3) := by decide +kernel
theorem dX10_give_45 : decode cX10_give 45 = .ok (.return_, 1) := by decide +kernel
def F_X10_give_2  : Nat → Int32 → Int32 → Int32 → eMem → Option eMem
  | 0, _, _, _, _ => none
  | n + 1, v1, v2, v3, M =>
    if v3 < (M.1 1 9) then
      if ((v1 >>> (v3 &&& 31)) &&& 1) = 1 then
        (F_X10_show v3 1 M).bind fun q1 =>
        (F_X10_giveOf v3 M).bind fun q2 =>
        (F_X10_more v2 q1 1 q2 M).bind fun q3 =>
        F_X10_give_2 n v1 v2 (v3 + 1) q3
      else
        F_X10_give_2 n v1 v2 (v3 + 1) M
    else
      some M
set_option maxRecDepth 100000 in
set_option maxHeartbeats 4000000 in
theorem ev_X10_give_2  (q : eMem)  : ∀ (fuel : Nat) (v1 : Int32) (v2 : Int32) (v3 : Int32) (M : eMem), F_X10_give_2 fuel v1 v2 v3 M = some q → Ev layR 2 m_X10_give 2 [some (.ref 0), some (.int v1), some (.int v2), some (.int v3)] [] M (none, q) := by
  intro fuel
  induction fuel with
  | zero => intro v1 v2 v3 M h; rw [F_X10_give_2] at h; cases h
  | succ n ih =>
    intro v1 v2 v3 M h
    rw [F_X10_give_2] at h
    refine Ev.iload_n (pc := 2) dX10_give_2 rfl ?_
    refine Ev.aload_n (pc := 3) dX10_give_3 rfl ?_
    refine Ev.getR (pc := 4) dX10_give_4 fl_RX10_7 lR_0 rfl ?_
    refine Ev.bipush (pc := 7) dX10_give_7 (v := 9) (by decide) ?_
    refine Ev.ialdj (pc := 9) dX10_give_9 (j := 9) lR_1 (by decide) (by decide) ?_
    refine Ev.icmp_ge (pc := 10) (tgt := 45) dX10_give_10 (by decide) (fun c9 => ?_) (fun c9 => ?_)
    · have h := eF h c9
      obtain rfl := Option.some.inj h
      exact Ev.vret (pc := 45) dX10_give_45 rfl
    · have h := eT h c9
      refine Ev.iload_n (pc := 13) dX10_give_13 rfl ?_
      refine Ev.iload_n (pc := 14) dX10_give_14 rfl ?_
      refine Ev.ishr (pc := 15) dX10_give_15 ?_
      refine Ev.iconst (pc := 16) dX10_give_16 (v := 1) (by decide) ?_
      refine Ev.iand (pc := 17) dX10_give_17 ?_
      refine Ev.iconst (pc := 18) dX10_give_18 (v := 1) (by decide) ?_
      refine Ev.icmp_ne (pc := 19) (tgt := 39) dX10_give_19 (by decide) (fun c9 => ?_) (fun c9 => ?_)
      · have h := eF h c9
        refine Ev.iincv (pc := 39) dX10_give_39 (v := 1) (by decide) rfl (by decide) rfl rfl ?_
        refine Ev.goto (pc := 42) (tgt := 2) dX10_give_42 (by decide) ?_
        exact Ev.fg (ih _ _ _ _ h) (And.intro rfl (And.intro rfl (And.intro rfl (And.intro rfl trivial))))
      · have h := eT h c9
        refine Ev.aload_n (pc := 22) dX10_give_22 rfl ?_
        refine Ev.iload_n (pc := 23) dX10_give_23 rfl ?_
        refine Ev.aload_n (pc := 24) dX10_give_24 rfl ?_
        refine Ev.iload_n (pc := 25) dX10_give_25 rfl ?_
        refine Ev.iconst (pc := 26) dX10_give_26 (v := 1) (by decide) ?_
        refine eBk h (fun q1 hq1 h => ?_)
        refine Ev.callV (pc := 27) (as := [.int v3, .int 1]) (st := [.int v2, .ref 0]) (z := 0) dX10_give_27 wc_X10_show ml_RX10_77 im_X10_show se_X10_show lR_0 rfl rfl (ev_X10_show v3 1 M _ hq1) rfl rfl (by decide) rfl rfl (Nat.le_of_ble_eq_true rfl) ?_
        refine Ev.iconst (pc := 30) dX10_give_30 (v := 1) (by decide) ?_
        refine Ev.aload_n (pc := 31) dX10_give_31 rfl ?_
        refine Ev.iload_n (pc := 32) dX10_give_32 rfl ?_
        refine eBk h (fun q2 hq2 h => ?_)
        refine Ev.callV (pc := 33) (as := [.int v3]) (st := [.int 1, .int q1, .int v2, .ref 0]) (z := 1) dX10_give_33 wc_X10_giveOf ml_RX10_249 im_X10_giveOf se_X10_giveOf lR_0 rfl rfl (ev_X10_giveOf v3 M _ hq2) rfl rfl (by decide) rfl rfl (Nat.le_of_ble_eq_true rfl) ?_
        refine eBk h (fun q3 hq3 h => ?_)
        refine Ev.callV (pc := 36) (as := [.int v2, .int q1, .int 1, .int q2]) (st := []) (z := 1) dX10_give_36 wc_X10_more ml_RX10_150 im_X10_more se_X10_more lR_0 rfl rfl (ev_X10_more v2 q1 1 q2 M _ hq3) rfl rfl (by decide) rfl rfl (Nat.le_of_ble_eq_true rfl) ?_
        refine Ev.iincv (pc := 39) dX10_give_39 (v := 1) (by decide) rfl (by decide) rfl rfl ?_
        refine Ev.goto (pc := 42) (tgt := 2) dX10_give_42 (by decide) ?_
        exact Ev.fg (ih _ _ _ _ h) (And.intro rfl (And.intro rfl (And.intro rfl (And.intro rfl trivial))))
def F_X10_give (x1 : Int32) (x2 : Int32) (M : eMem) : Option eMem :=
  F_X10_give_2 eFuel x1 x2 0 M
set_option maxRecDepth 100000 in
set_option maxHeartbeats 4000000 in
theorem ev_X10_give (x1 : Int32) (x2 : Int32) (M : eMem) (q : eMem) (h : F_X10_give x1 x2 M = some q) : Ev layR 2 m_X10_give 0 [some (.ref 0), some (.int x1), some (.int x2), none] [] M (none, q) := by
  rw [F_X10_give] at h
  refine Ev.iconst (pc := 0) dX10_give_0 (v := 0) (by decide) ?_
  refine Ev.istore_n (pc := 1) dX10_give_1 (by decide) rfl rfl ?_
  exact Ev.fg (ev_X10_give_2 _ _ _ _ _ _ h) (And.intro rfl (And.intro rfl (And.intro rfl (And.intro rfl trivial))))
theorem dX10_plan_0 : decode cX10_plan 0 = .ok (.iload_n 1, 1) := by decide +kernel
theorem dX10_plan_1 : decode cX10_plan 1 = .ok (.invokestatic 99, 3) := by decide +kernel
theorem dX10_plan_4 : decode cX10_plan 4 = .ok (.ifCond .eq 20, 3) := by decide +kernel
theorem dX10_plan_7 : decode cX10_plan 7 = .ok (.aload_n 0, 1) := by decide +kernel
theorem dX10_plan_8 : decode cX10_plan 8 = .ok (.iload_n 2, 1) := by decide +kernel
theorem dX10_plan_9 : decode cX10_plan 9 = .ok (.invokevirtual 252, 3) := by decide +kernel
theorem dX10_plan_12 : decode cX10_plan 12 = .ok (.ifCond .eq 12, 3) := by decide +kernel
theorem dX10_plan_15 : decode cX10_plan 15 = .ok (.iload_n 3, 1) := by decide +kernel
theorem dX10_plan_16 : decode cX10_plan 16 = .ok (.ifCond .lt 8, 3) := by decide +kernel
theorem dX10_plan_19 : decode cX10_plan 19 = .ok (.iload 4, 2) := by decide +kernel
theorem dX10_plan_21 : decode cX10_plan 21 = .ok (.ifCond .ge 9, 3) := by decide +kernel
theorem dX10_plan_24 : decode cX10_plan 24 = .ok (.aload_n 0, 1) := by decide +kernel
theorem dX10_plan_25 : decode cX10_plan 25 = .ok (.iconst 1, 1) := by decide +kernel
theorem dX10_plan_26 : decode cX10_plan 26 = .ok (.invokevirtual 66, 3) := by decide +kernel
theorem dX10_plan_29 : decode cX10_plan 29 = .ok (.ireturn, 1) := by decide +kernel
theorem dX10_plan_30 : decode cX10_plan 30 = .ok (.iload_n 2, 1) := by decide +kernel
theorem dX10_plan_31 : decode cX10_plan 31 = .ok (.invokestatic 255, 3) := by decide +kernel
theorem dX10_plan_34 : decode cX10_plan 34 = .ok (.bipush 9, 2) := by decide +kernel
theorem dX10_plan_36 : decode cX10_plan 36 = .ok (.if_icmp .le 10, 3) := by decide +kernel
theorem dX10_plan_39 : decode cX10_plan 39 = .ok (.aload_n 0, 1) := by decide +kernel
theorem dX10_plan_40 : decode cX10_plan 40 = .ok (.bipush 7, 2) := by decide +kernel
theorem dX10_plan_42 : decode cX10_plan 42 = .ok (.invokevirtual 66, 3) := by decide +kernel
theorem dX10_plan_45 : decode cX10_plan 45 = .ok (.ireturn, 1) := by decide +kernel
theorem dX10_plan_46 : decode cX10_plan 46 = .ok (.iconst (-1), 1) := by decide +kernel
theorem dX10_plan_47 : decode cX10_plan 47 = .ok (.istore 5, 2) := by decide +kernel
theorem dX10_plan_49 : decode cX10_plan 49 = .ok (.lconst 0, 1) := by decide +kernel
theorem dX10_plan_50 : decode cX10_plan 50 = .ok (.lstore 6, 2) := by decide +kernel
theorem dX10_plan_52 : decode cX10_plan 52 = .ok (.lconst 1, 1) := by decide +kernel
theorem dX10_plan_53 : decode cX10_plan 53 = .ok (.lstore 8, 2) := by decide +kernel
theorem dX10_plan_55 : decode cX10_plan 55 = .ok (.iconst 0, 1) := by decide +kernel
theorem dX10_plan_56 : decode cX10_plan 56 = .ok (.istore 10, 2) := by decide +kernel
theorem dX10_plan_58 : decode cX10_plan 58 = .ok (.iconst 1, 1) := by decide +kernel
theorem dX10_plan_59 : decode cX10_plan 59 = .ok (.istore 11, 2) := by decide +kernel
theorem dX10_plan_61 : decode cX10_plan 61 = .ok (.iload 11, 2) := by decide +kernel
theorem dX10_plan_63 : decode cX10_plan 63 = .ok (.ifCond .eq 134, 3) := by decide +kernel
theorem dX10_plan_66 : decode cX10_plan 66 = .ok (.aload_n 0, 1) := by decide +kernel
theorem dX10_plan_67 : decode cX10_plan 67 = .ok (.iload 10, 2) := by decide +kernel
theorem dX10_plan_69 : decode cX10_plan 69 = .ok (.iload_n 3, 1) := by decide +kernel
theorem dX10_plan_70 : decode cX10_plan 70 = .ok (.iload 4, 2) := by decide +kernel
theorem dX10_plan_72 : decode cX10_plan 72 = .ok (.invokevirtual 258, 3) := by decide +kernel
theorem dX10_plan_75 : decode cX10_plan 75 = .ok (.ifCond .eq 98, 3) := by decide +kernel
theorem dX10_plan_78 : decode cX10_plan 78 = .ok (.aload_n 0, 1) := by decide +kernel
theorem dX10_plan_79 : decode cX10_plan 79 = .ok (.aload_n 0, 1) := by decide +kernel
theorem dX10_plan_80 : decode cX10_plan 80 = .ok (.getfield 7, 3) := by decide +kernel
theorem dX10_plan_83 : decode cX10_plan 83 = .ok (.iconst 0, 1) := by decide +kernel
theorem dX10_plan_84 : decode cX10_plan 84 = .ok (.iaload, 1) := by decide +kernel
theorem dX10_plan_85 : decode cX10_plan 85 = .ok (.invokevirtual 154, 3) := by decide +kernel
theorem dX10_plan_88 : decode cX10_plan 88 = .ok (.aload_n 0, 1) := by decide +kernel
theorem dX10_plan_89 : decode cX10_plan 89 = .ok (.iload 10, 2) := by decide +kernel
theorem dX10_plan_91 : decode cX10_plan 91 = .ok (.aload_n 0, 1) := by decide +kernel
theorem dX10_plan_92 : decode cX10_plan 92 = .ok (.getfield 7, 3) := by decide +kernel
theorem dX10_plan_95 : decode cX10_plan 95 = .ok (.iconst 0, 1) := by decide +kernel
theorem dX10_plan_96 : decode cX10_plan 96 = .ok (.iaload, 1) := by decide +kernel
theorem dX10_plan_97 : decode cX10_plan 97 = .ok (.invokevirtual 261, 3) := by decide +kernel
theorem dX10_plan_100 : decode cX10_plan 100 = .ok (.aload_n 0, 1) := by decide +kernel
theorem dX10_plan_101 : decode cX10_plan 101 = .ok (.invokevirtual 158, 3) := by decide +kernel
theorem dX10_plan_104 : decode cX10_plan 104 = .ok (.aload_n 0, 1) := by decide +kernel
theorem dX10_plan_105 : decode cX10_plan 105 = .ok (.getfield 44, 3) := by decide +kernel
theorem dX10_plan_108 : decode cX10_plan 108 = .ok (.iload_n 1, 1) := by decide +kernel
theorem dX10_plan_109 : decode cX10_plan 109 = .ok (.laload, 1) := by decide +kernel
theorem dX10_plan_110 : decode cX10_plan 110 = .ok (.lload 8, 2) := by decide +kernel
theorem dX10_plan_112 : decode cX10_plan 112 = .ok (.lmul, 1) := by decide +kernel
theorem dX10_plan_113 : decode cX10_plan 113 = .ok (.lload 6, 2) := by decide +kernel
theorem dX10_plan_115 : decode cX10_plan 115 = .ok (.aload_n 0, 1) := by decide +kernel
theorem dX10_plan_116 : decode cX10_plan 116 = .ok (.invokevirtual 161, 3) := by decide +kernel
theorem dX10_plan_119 : decode cX10_plan 119 = .ok (.lmul, 1) := by decide +kernel
theorem dX10_plan_120 : decode cX10_plan 120 = .ok (.lsub, 1) := by decide +kernel
theorem dX10_plan_121 : decode cX10_plan 121 = .ok (.lstore 12, 2) := by decide +kernel
theorem dX10_plan_123 : decode cX10_plan 123 = .ok (.iload 5, 2) := by decide +kernel
theorem dX10_plan_125 : decode cX10_plan 125 = .ok (.ifCond .lt 30, 3) := by decide +kernel
theorem dX10_plan_128 : decode cX10_plan 128 = .ok (.lload 12, 2) := by decide +kernel
theorem dX10_plan_130 : decode cX10_plan 130 = .ok (.lconst 0, 1) := by decide +kernel
theorem dX10_plan_131 : decode cX10_plan 131 = .ok (.lcmp, 1) := by decide +kernel
theorem dX10_plan_132 : decode cX10_plan 132 = .ok (.ifCond .gt 23, 3) := by decide +kernel
theorem dX10_plan_135 : decode cX10_plan 135 = .ok (.lload 12, 2) := by decide +kernel
theorem dX10_plan_137 : decode cX10_plan 137 = .ok (.lconst 0, 1) := by decide +kernel
theorem dX10_plan_138 : decode cX10_plan 138 = .ok (.lcmp, 1) := by decide +kernel
theorem dX10_plan_139 : decode cX10_plan 139 = .ok (.ifCond .ne 34, 3) := by decide +kernel
theorem dX10_plan_142 : decode cX10_plan 142 = .ok (.iload 10, 2) := by decide +kernel
theorem dX10_plan_144 : decode cX10_plan 144 = .ok (.invokestatic 255, 3) := by decide +kernel
theorem dX10_plan_147 : decode cX10_plan 147 = .ok (.iload 5, 2) := by decide +kernel
theorem dX10_plan_149 : decode cX10_plan 149 = .ok (.invokestatic 255, 3) := by decide +kernel
theorem dX10_plan_152 : decode cX10_plan 152 = .ok (.if_icmp .ge 21, 3) := by decide +kernel
theorem dX10_plan_155 : decode cX10_plan 155 = .ok (.iload 10, 2) := by decide +kernel
theorem dX10_plan_157 : decode cX10_plan 157 = .ok (.istore 5, 2) := by decide +kernel
theorem dX10_plan_159 : decode cX10_plan 159 = .ok (.aload_n 0, 1) := by decide +kernel
theorem dX10_plan_160 : decode cX10_plan 160 = .ok (.getfield 44, 3) := by decide +kernel
theorem dX10_plan_163 : decode cX10_plan 163 = .ok (.iload_n 1, 1) := by decide +kernel
theorem dX10_plan_164 : decode cX10_plan 164 = .ok (.laload, 1) := by decide +kernel
theorem dX10_plan_165 : decode cX10_plan 165 = .ok (.lstore 6, 2) := by decide +kernel
theorem dX10_plan_167 : decode cX10_plan 167 = .ok (.aload_n 0, 1) := by decide +kernel
theorem dX10_plan_168 : decode cX10_plan 168 = .ok (.invokevirtual 161, 3) := by decide +kernel
theorem dX10_plan_171 : decode cX10_plan 171 = .ok (.lstore 8, 2) := by decide +kernel
theorem dX10_plan_173 : decode cX10_plan 173 = .ok (.iload 10, 2) := by decide +kernel
theorem dX10_plan_175 : decode cX10_plan 175 = .ok (.iload_n 2, 1) := by decide +kernel
theorem dX10_plan_176 : decode cX10_plan 176 = .ok (.if_icmp .eq 7, 3) := by decide +kernel
theorem dX10_plan_179 : decode cX10_plan 179 = .ok (.iconst 1, 1) := by decide +kernel
theorem dX10_plan_180 : decode cX10_plan 180 = .ok (.goto 4, 3) := by decide +kernel
theorem dX10_plan_183 : decode cX10_plan 183 = .ok (.iconst 0, 1) := by decide +kernel
theorem dX10_plan_184 : decode cX10_plan 184 = .ok (.istore 11, 2) := by decide +kernel
theorem dX10_plan_186 : decode cX10_plan 186 = .ok (.iload 10, 2) := by decide +kernel
theorem dX10_plan_188 : decode cX10_plan 188 = .ok (.iload_n 2, 1) := by decide +kernel
theorem dX10_plan_189 : decode cX10_plan 189 = .ok (.isub, 1) := by decide +kernel
theorem dX10_plan_190 : decode cX10_plan 190 = .ok (.iload_n 2, 1) := by decide +kernel
theorem dX10_plan_191 : decode cX10_plan 191 = .ok (.iand, 1) := by decide +kernel
theorem dX10_plan_192 : decode cX10_plan 192 = .ok (.istore 10, 2) := by decide +kernel
theorem dX10_plan_194 : decode cX10_plan 194 = .ok (.goto (-133), 3) := by decide +kernel
theorem dX10_plan_197 : decode cX10_plan 197 = .ok (.iload 5, 2) := by decide +kernel
theorem dX10_plan_199 : decode cX10_plan 199 = .ok (.ireturn, 1) := by decide +kernel
def F_X10_plan_184 (rec : Int32 → Int32 → Int32 → Int32 → Int32 → Int64 → Int64 → Int32 → Int32 → eMem → Option (Int32 × eMem)) (v1 : Int32) (v2 : Int32) (v3 : Int32) (v4 : Int32) (v5 : Int32) (v6 : Int64) (v8 : Int64) (v10 : Int32) (s0 : Int32) (M : eMem) : Option (Int32 × eMem) :=
  rec v1 v2 v3 v4 v5 v6 v8 ((v10 - v2) &&& v2) s0 M
set_option maxRecDepth 100000 in
set_option maxHeartbeats 4000000 in
theorem ev_X10_plan_184 (rec : Int32 → Int32 → Int32 → Int32 → Int32 → Int64 → Int64 → Int32 → Int32 → eMem → Option (Int32 × eMem)) (q : (Int32 × eMem)) (hrec : ∀ (v1 : Int32) (v2 : Int32) (v3 : Int32) (v4 : Int32) (v5 : Int32) (v6 : Int64) (v8 : Int64) (v10 : Int32) (v11 : Int32) (M : eMem), rec v1 v2 v3 v4 v5 v6 v8 v10 v11 M = some q → Ev layR 3 m_X10_plan 61 [some (.ref 0), some (.int v1), some (.int v2), some (.int v3), some (.int v4), some (.int v5), some (.long v6), none, some (.long v8), none, some (.int v10), some (.int v11), none, none] [] M (some (.int q.1), q.2)) (v1 : Int32) (v2 : Int32) (v3 : Int32) (v4 : Int32) (v5 : Int32) (v6 : Int64) (v8 : Int64) (v10 : Int32) (s0 : Int32) (M : eMem) (h : F_X10_plan_184 rec v1 v2 v3 v4 v5 v6 v8 v10 s0 M = some q) : Ev layR 3 m_X10_plan 184 [some (.ref 0), some (.int v1), some (.int v2), some (.int v3), some (.int v4), some (.int v5), some (.long v6), none, some (.long v8), none, some (.int v10), none, none, none] [.int s0] M (some (.int q.1), q.2) := by
  rw [F_X10_plan_184] at h
  refine Ev.istore (pc := 184) dX10_plan_184 (by decide) rfl rfl ?_
  refine Ev.iload (pc := 186) dX10_plan_186 rfl ?_
  refine Ev.iload_n (pc := 188) dX10_plan_188 rfl ?_
  refine Ev.isub (pc := 189) dX10_plan_189 ?_
  refine Ev.iload_n (pc := 190) dX10_plan_190 rfl ?_
  refine Ev.iand (pc := 191) dX10_plan_191 ?_
  refine Ev.istore (pc := 192) dX10_plan_192 (by decide) rfl rfl ?_
  refine Ev.goto (pc := 194) (tgt := 61) dX10_plan_194 (by decide) ?_
  exact Ev.fg (hrec _ _ _ _ _ _ _ _ _ _ h) (And.intro rfl (And.intro rfl (And.intro rfl (And.intro rfl (And.intro rfl (And.intro rfl (And.intro rfl (And.intro rfl (And.intro rfl (And.intro rfl trivial))))))))))
def F_X10_plan_173 (rec : Int32 → Int32 → Int32 → Int32 → Int32 → Int64 → Int64 → Int32 → Int32 → eMem → Option (Int32 × eMem)) (v1 : Int32) (v2 : Int32) (v3 : Int32) (v4 : Int32) (v5 : Int32) (v6 : Int64) (v8 : Int64) (v10 : Int32) (M : eMem) : Option (Int32 × eMem) :=
  if v10 = v2 then
    F_X10_plan_184 (fun v1 v2 v3 v4 v5 v6 v8 v10 v11 M => rec v1 v2 v3 v4 v5 v6 v8 v10 v11 M) v1 v2 v3 v4 v5 v6 v8 v10 0 M
  else
    F_X10_plan_184 (fun v1 v2 v3 v4 v5 v6 v8 v10 v11 M => rec v1 v2 v3 v4 v5 v6 v8 v10 v11 M) v1 v2 v3 v4 v5 v6 v8 v10 1 M
set_option maxRecDepth 100000 in
set_option maxHeartbeats 4000000 in
theorem ev_X10_plan_173 (rec : Int32 → Int32 → Int32 → Int32 → Int32 → Int64 → Int64 → Int32 → Int32 → eMem → Option (Int32 × eMem)) (q : (Int32 × eMem)) (hrec : ∀ (v1 : Int32) (v2 : Int32) (v3 : Int32) (v4 : Int32) (v5 : Int32) (v6 : Int64) (v8 : Int64) (v10 : Int32) (v11 : Int32) (M : eMem), rec v1 v2 v3 v4 v5 v6 v8 v10 v11 M = some q → Ev layR 3 m_X10_plan 61 [some (.ref 0), some (.int v1), some (.int v2), some (.int v3), some (.int v4), some (.int v5), some (.long v6), none, some (.long v8), none, some (.int v10), some (.int v11), none, none] [] M (some (.int q.1), q.2)) (v1 : Int32) (v2 : Int32) (v3 : Int32) (v4 : Int32) (v5 : Int32) (v6 : Int64) (v8 : Int64) (v10 : Int32) (M : eMem) (h : F_X10_plan_173 rec v1 v2 v3 v4 v5 v6 v8 v10 M = some q) : Ev layR 3 m_X10_plan 173 [some (.ref 0), some (.int v1), some (.int v2), some (.int v3), some (.int v4), some (.int v5), some (.long v6), none, some (.long v8), none, some (.int v10), none, none, none] [] M (some (.int q.1), q.2) := by
  rw [F_X10_plan_173] at h
  refine Ev.iload (pc := 173) dX10_plan_173 rfl ?_
  refine Ev.iload_n (pc := 175) dX10_plan_175 rfl ?_
  refine Ev.icmp_eq (pc := 176) (tgt := 183) dX10_plan_176 (by decide) (fun c9 => ?_) (fun c9 => ?_)
  · have h := eT h c9
    refine Ev.iconst (pc := 183) dX10_plan_183 (v := 0) (by decide) ?_
    exact Ev.fg (ev_X10_plan_184 _ _ hrec _ _ _ _ _ _ _ _ _ _ h) (And.intro rfl (And.intro rfl (And.intro rfl (And.intro rfl (And.intro rfl (And.intro rfl (And.intro rfl (And.intro rfl (And.intro rfl trivial)))))))))
  · have h := eF h c9
    refine Ev.iconst (pc := 179) dX10_plan_179 (v := 1) (by decide) ?_
    refine Ev.goto (pc := 180) (tgt := 184) dX10_plan_180 (by decide) ?_
    exact Ev.fg (ev_X10_plan_184 _ _ hrec _ _ _ _ _ _ _ _ _ _ h) (And.intro rfl (And.intro rfl (And.intro rfl (And.intro rfl (And.intro rfl (And.intro rfl (And.intro rfl (And.intro rfl (And.intro rfl trivial)))))))))
def F_X10_plan_155 (rec : Int32 → Int32 → Int32 → Int32 → Int32 → Int64 → Int64 → Int32 → Int32 → eMem → Option (Int32 × eMem)) (v1 : Int32) (v2 : Int32) (v3 : Int32) (v4 : Int32) (v10 : Int32) (M : eMem) : Option (Int32 × eMem) :=
  eG (eIn v1 4) <|
  (F_X10_all M).bind fun q12 =>
  F_X10_plan_173 (fun v1 v2 v3 v4 v5 v6 v8 v10 v11 M => rec v1 v2 v3 v4 v5 v6 v8 v10 v11 M) v1 v2 v3 v4 v10 (M.2 12 v1.toNatClampNeg) q12 v10 M
set_option maxRecDepth 100000 in
set_option maxHeartbeats 4000000 in
theorem ev_X10_plan_155 (rec : Int32 → Int32 → Int32 → Int32 → Int32 → Int64 → Int64 → Int32 → Int32 → eMem → Option (Int32 × eMem)) (q : (Int32 × eMem)) (hrec : ∀ (v1 : Int32) (v2 : Int32) (v3 : Int32) (v4 : Int32) (v5 : Int32) (v6 : Int64) (v8 : Int64) (v10 : Int32) (v11 : Int32) (M : eMem), rec v1 v2 v3 v4 v5 v6 v8 v10 v11 M = some q → Ev layR 3 m_X10_plan 61 [some (.ref 0), some (.int v1), some (.int v2), some (.int v3), some (.int v4), some (.int v5), some (.long v6), none, some (.long v8), none, some (.int v10), some (.int v11), none, none] [] M (some (.int q.1), q.2)) (v1 : Int32) (v2 : Int32) (v3 : Int32) (v4 : Int32) (v10 : Int32) (M : eMem) (h : F_X10_plan_155 rec v1 v2 v3 v4 v10 M = some q) : Ev layR 3 m_X10_plan 155 [some (.ref 0), some (.int v1), some (.int v2), some (.int v3), some (.int v4), none, none, none, none, none, some (.int v10), none, none, none] [] M (some (.int q.1), q.2) := by
  rw [F_X10_plan_155] at h
  refine Ev.iload (pc := 155) dX10_plan_155 rfl ?_
  refine Ev.istore (pc := 157) dX10_plan_157 (by decide) rfl rfl ?_
  refine Ev.aload_n (pc := 159) dX10_plan_159 rfl ?_
  refine Ev.getR (pc := 160) dX10_plan_160 fl_RX10_44 lR_0 rfl ?_
  refine Ev.iload_n (pc := 163) dX10_plan_163 rfl ?_
  obtain ⟨g9, h⟩ := eGdB h
  refine Ev.laldj (pc := 164) dX10_plan_164 (j := v1.toNatClampNeg) lR_12 g9 rfl ?_
  refine Ev.lstore (pc := 165) dX10_plan_165 (by decide) rfl rfl ?_
  refine Ev.aload_n (pc := 167) dX10_plan_167 rfl ?_
  refine eBk h (fun q12 hq12 h => ?_)
  refine Ev.callV (pc := 168) (as := []) (st := []) (z := 0) dX10_plan_168 wc_X10_all ml_RX10_161 im_X10_all se_X10_all lR_0 rfl rfl (ev_X10_all  M _ hq12) rfl rfl (by decide) rfl rfl (Nat.le_of_ble_eq_true rfl) ?_
  refine Ev.lstore (pc := 171) dX10_plan_171 (by decide) rfl rfl ?_
  exact Ev.fg (ev_X10_plan_173 _ _ hrec _ _ _ _ _ _ _ _ _ h) (And.intro rfl (And.intro rfl (And.intro rfl (And.intro rfl (And.intro rfl (And.intro rfl (And.intro rfl (And.intro rfl (And.intro rfl trivial)))))))))
def F_X10_plan_61  : Nat → Int32 → Int32 → Int32 → Int32 → Int32 → Int64 → Int64 → Int32 → Int32 → eMem → Option (Int32 × eMem)
  | 0, _, _, _, _, _, _, _, _, _, _ => none
  | n + 1, v1, v2, v3, v4, v5, v6, v8, v10, v11, M =>
    if v11 = 0 then
      some (v5, M)
    else
      (F_X10_lasts v10 v3 v4 M).bind fun q7 =>
      if q7 = 0 then
        F_X10_plan_173 (fun v1 v2 v3 v4 v5 v6 v8 v10 v11 M => F_X10_plan_61 n v1 v2 v3 v4 v5 v6 v8 v10 v11 M) v1 v2 v3 v4 v5 v6 v8 v10 M
      else
        (F_X10_gather (M.1 1 0) M).bind fun q8 =>
        (F_X10_give v10 (q8.1 1 0) q8).bind fun q9 =>
        (F_X10_weigh q9).bind fun q10 =>
        eG (eIn v1 4) <|
        (F_X10_all q10).bind fun q11 =>
        if v5 < 0 then
          F_X10_plan_155 (fun v1 v2 v3 v4 v5 v6 v8 v10 v11 M => F_X10_plan_61 n v1 v2 v3 v4 v5 v6 v8 v10 v11 M) v1 v2 v3 v4 v10 q10
        else
          if 0 < (lg_cmp (((q10.2 12 v1.toNatClampNeg) * v8) - (v6 * q11)) 0) then
            F_X10_plan_155 (fun v1 v2 v3 v4 v5 v6 v8 v10 v11 M => F_X10_plan_61 n v1 v2 v3 v4 v5 v6 v8 v10 v11 M) v1 v2 v3 v4 v10 q10
          else
            if (lg_cmp (((q10.2 12 v1.toNatClampNeg) * v8) - (v6 * q11)) 0) = 0 then
              (F_X10_ones v10).bind fun q13 =>
              (F_X10_ones v5).bind fun q14 =>
              if q13 < q14 then
                F_X10_plan_155 (fun v1 v2 v3 v4 v5 v6 v8 v10 v11 M => F_X10_plan_61 n v1 v2 v3 v4 v5 v6 v8 v10 v11 M) v1 v2 v3 v4 v10 q10
              else
                F_X10_plan_173 (fun v1 v2 v3 v4 v5 v6 v8 v10 v11 M => F_X10_plan_61 n v1 v2 v3 v4 v5 v6 v8 v10 v11 M) v1 v2 v3 v4 v5 v6 v8 v10 q10
            else
              F_X10_plan_173 (fun v1 v2 v3 v4 v5 v6 v8 v10 v11 M => F_X10_plan_61 n v1 v2 v3 v4 v5 v6 v8 v10 v11 M) v1 v2 v3 v4 v5 v6 v8 v10 q10
set_option maxRecDepth 100000 in
set_option maxHeartbeats 4000000 in
theorem ev_X10_plan_61  (q : (Int32 × eMem))  : ∀ (fuel : Nat) (v1 : Int32) (v2 : Int32) (v3 : Int32) (v4 : Int32) (v5 : Int32) (v6 : Int64) (v8 : Int64) (v10 : Int32) (v11 : Int32) (M : eMem), F_X10_plan_61 fuel v1 v2 v3 v4 v5 v6 v8 v10 v11 M = some q → Ev layR 3 m_X10_plan 61 [some (.ref 0), some (.int v1), some (.int v2), some (.int v3), some (.int v4), some (.int v5), some (.long v6), none, some (.long v8), none, some (.int v10), some (.int v11), none, none] [] M (some (.int q.1), q.2) := by
  intro fuel
  induction fuel with
  | zero => intro v1 v2 v3 v4 v5 v6 v8 v10 v11 M h; rw [F_X10_plan_61] at h; cases h
  | succ n ih =>
    intro v1 v2 v3 v4 v5 v6 v8 v10 v11 M h
    rw [F_X10_plan_61] at h
    refine Ev.iload (pc := 61) dX10_plan_61 rfl ?_
    refine Ev.if_eq (pc := 63) (tgt := 197) dX10_plan_63 (by decide) (fun c9 => ?_) (fun c9 => ?_)
    · have h := eT h c9
      refine Ev.iload (pc := 197) dX10_plan_197 rfl ?_
      obtain rfl := Option.some.inj h
      exact Ev.iret (pc := 199) dX10_plan_199 rfl rfl
    · have h := eF h c9
      refine Ev.aload_n (pc := 66) dX10_plan_66 rfl ?_
      refine Ev.iload (pc := 67) dX10_plan_67 rfl ?_
      refine Ev.iload_n (pc := 69) dX10_plan_69 rfl ?_
      refine Ev.iload (pc := 70) dX10_plan_70 rfl ?_
      refine eBk h (fun q7 hq7 h => ?_)
      refine Ev.callV (pc := 72) (as := [.int v10, .int v3, .int v4]) (st := []) (z := 3) dX10_plan_72 wc_X10_lasts ml_RX10_258 im_X10_lasts se_X10_lasts lR_0 rfl rfl (ev_X10_lasts v10 v3 v4 M _ hq7) rfl rfl (by decide) rfl rfl (Nat.le_of_ble_eq_true rfl) ?_
      refine Ev.if_eq (pc := 75) (tgt := 173) dX10_plan_75 (by decide) (fun c9 => ?_) (fun c9 => ?_)
      · have h := eT h c9
        exact Ev.fg (ev_X10_plan_173 _ _ ih _ _ _ _ _ _ _ _ _ h) (And.intro rfl (And.intro rfl (And.intro rfl (And.intro rfl (And.intro rfl (And.intro rfl (And.intro rfl (And.intro rfl (And.intro rfl trivial)))))))))
      · have h := eF h c9
        refine Ev.aload_n (pc := 78) dX10_plan_78 rfl ?_
        refine Ev.aload_n (pc := 79) dX10_plan_79 rfl ?_
        refine Ev.getR (pc := 80) dX10_plan_80 fl_RX10_7 lR_0 rfl ?_
        refine Ev.iconst (pc := 83) dX10_plan_83 (v := 0) (by decide) ?_
        refine Ev.ialdj (pc := 84) dX10_plan_84 (j := 0) lR_1 (by decide) (by decide) ?_
        refine eBk h (fun q8 hq8 h => ?_)
        refine Ev.callV (pc := 85) (as := [.int (M.1 1 0)]) (st := []) (z := 1) dX10_plan_85 wc_X10_gather ml_RX10_154 im_X10_gather se_X10_gather lR_0 rfl rfl (ev_X10_gather (M.1 1 0) M _ hq8) rfl rfl (by decide) rfl rfl (Nat.le_of_ble_eq_true rfl) ?_
        refine Ev.aload_n (pc := 88) dX10_plan_88 rfl ?_
        refine Ev.iload (pc := 89) dX10_plan_89 rfl ?_
        refine Ev.aload_n (pc := 91) dX10_plan_91 rfl ?_
        refine Ev.getR (pc := 92) dX10_plan_92 fl_RX10_7 lR_0 rfl ?_
        refine Ev.iconst (pc := 95) dX10_plan_95 (v := 0) (by decide) ?_
        refine Ev.ialdj (pc := 96) dX10_plan_96 (j := 0) lR_1 (by decide) (by decide) ?_
        refine eBk h (fun q9 hq9 h => ?_)
        refine Ev.callV (pc := 97) (as := [.int v10, .int (q8.1 1 0)]) (st := []) (z := 1) dX10_plan_97 wc_X10_give ml_RX10_261 im_X10_give se_X10_give lR_0 rfl rfl (ev_X10_give v10 (q8.1 1 0) q8 _ hq9) rfl rfl (by decide) rfl rfl (Nat.le_of_ble_eq_true rfl) ?_
        refine Ev.aload_n (pc := 100) dX10_plan_100 rfl ?_
        refine eBk h (fun q10 hq10 h => ?_)
        refine Ev.callV (pc := 101) (as := []) (st := []) (z := 4) dX10_plan_101 wc_X10_weigh ml_RX10_158 im_X10_weigh se_X10_weigh lR_0 rfl rfl (ev_X10_weigh  q9 _ hq10) rfl rfl (by decide) rfl rfl (Nat.le_of_ble_eq_true rfl) ?_
        refine Ev.aload_n (pc := 104) dX10_plan_104 rfl ?_
        refine Ev.getR (pc := 105) dX10_plan_105 fl_RX10_44 lR_0 rfl ?_
        refine Ev.iload_n (pc := 108) dX10_plan_108 rfl ?_
        obtain ⟨g9, h⟩ := eGdB h
        refine Ev.laldj (pc := 109) dX10_plan_109 (j := v1.toNatClampNeg) lR_12 g9 rfl ?_
        refine Ev.lload (pc := 110) dX10_plan_110 rfl ?_
        refine Ev.lmul (pc := 112) dX10_plan_112 ?_
        refine Ev.lload (pc := 113) dX10_plan_113 rfl ?_
        refine Ev.aload_n (pc := 115) dX10_plan_115 rfl ?_
        refine eBk h (fun q11 hq11 h => ?_)
        refine Ev.callV (pc := 116) (as := []) (st := [.long v6, .long ((q10.2 12 v1.toNatClampNeg) * v8)]) (z := 0) dX10_plan_116 wc_X10_all ml_RX10_161 im_X10_all se_X10_all lR_0 rfl rfl (ev_X10_all  q10 _ hq11) rfl rfl (by decide) rfl rfl (Nat.le_of_ble_eq_true rfl) ?_
        refine Ev.lmul (pc := 119) dX10_plan_119 ?_
        refine Ev.lsub (pc := 120) dX10_plan_120 ?_
        refine Ev.lstore (pc := 121) dX10_plan_121 (by decide) rfl rfl ?_
        refine Ev.iload (pc := 123) dX10_plan_123 rfl ?_
        refine Ev.if_lt (pc := 125) (tgt := 155) dX10_plan_125 (by decide) (fun c9 => ?_) (fun c9 => ?_)
        · have h := eT h c9
          exact Ev.fg (ev_X10_plan_155 _ _ ih _ _ _ _ _ _ h) (And.intro rfl (And.intro rfl (And.intro rfl (And.intro rfl (And.intro rfl (And.intro rfl trivial))))))
        · have h := eF h c9
          refine Ev.lload (pc := 128) dX10_plan_128 rfl ?_
          refine Ev.lconst (pc := 130) dX10_plan_130 (v := 0) (by decide) ?_
          refine Ev.lcmp (pc := 131) dX10_plan_131 ?_
          refine Ev.if_gt (pc := 132) (tgt := 155) dX10_plan_132 (by decide) (fun c9 => ?_) (fun c9 => ?_)
          · have h := eT h c9
            exact Ev.fg (ev_X10_plan_155 _ _ ih _ _ _ _ _ _ h) (And.intro rfl (And.intro rfl (And.intro rfl (And.intro rfl (And.intro rfl (And.intro rfl trivial))))))
          · have h := eF h c9
            refine Ev.lload (pc := 135) dX10_plan_135 rfl ?_
            refine Ev.lconst (pc := 137) dX10_plan_137 (v := 0) (by decide) ?_
            refine Ev.lcmp (pc := 138) dX10_plan_138 ?_
            refine Ev.if_ne (pc := 139) (tgt := 173) dX10_plan_139 (by decide) (fun c9 => ?_) (fun c9 => ?_)
            · have h := eF h c9
              exact Ev.fg (ev_X10_plan_173 _ _ ih _ _ _ _ _ _ _ _ _ h) (And.intro rfl (And.intro rfl (And.intro rfl (And.intro rfl (And.intro rfl (And.intro rfl (And.intro rfl (And.intro rfl (And.intro rfl trivial)))))))))
            · have h := eT h c9
              refine Ev.iload (pc := 142) dX10_plan_142 rfl ?_
              refine eBk h (fun q13 hq13 h => ?_)
              refine Ev.callS (pc := 144) (as := [.int v10]) (st := []) (z := 2) dX10_plan_144 wc_X10_ones ml_RX10_255 sm_X10_ones (ev_X10_ones v10 q10 _ hq13) rfl rfl (by decide) rfl rfl (Nat.le_of_ble_eq_true rfl) ?_
              refine Ev.iload (pc := 147) dX10_plan_147 rfl ?_
              refine eBk h (fun q14 hq14 h => ?_)
              refine Ev.callS (pc := 149) (as := [.int v5]) (st := [.int q13]) (z := 2) dX10_plan_149 wc_X10_ones ml_RX10_255 sm_X10_ones (ev_X10_ones v5 q10 _ hq14) rfl rfl (by decide) rfl rfl (Nat.le_of_ble_eq_true rfl) ?_
              refine Ev.icmp_ge (pc := 152) (tgt := 173) dX10_plan_152 (by decide) (fun c9 => ?_) (fun c9 => ?_)
              · have h := eF h c9
                exact Ev.fg (ev_X10_plan_173 _ _ ih _ _ _ _ _ _ _ _ _ h) (And.intro rfl (And.intro rfl (And.intro rfl (And.intro rfl (And.intro rfl (And.intro rfl (And.intro rfl (And.intro rfl (And.intro rfl trivial)))))))))
              · have h := eT h c9
                exact Ev.fg (ev_X10_plan_155 _ _ ih _ _ _ _ _ _ h) (And.intro rfl (And.intro rfl (And.intro rfl (And.intro rfl (And.intro rfl (And.intro rfl trivial))))))
def F_X10_plan (x1 : Int32) (x2 : Int32) (x3 : Int32) (x4 : Int32) (M : eMem) : Option (Int32 × eMem) :=
  (F_X10_isStory x1).bind fun q1 =>
  if q1 = 0 then
    (F_X10_finding 1 M).bind fun q2 =>
    some (q2.1, q2.2)
  else
    (F_X10_isSet x2 M).bind fun q3 =>
    if q3 = 0 then
      (F_X10_finding 1 M).bind fun q4 =>
      some (q4.1, q4.2)
    else
      if x3 < 0 then
        (F_X10_finding 1 M).bind fun q5 =>
        some (q5.1, q5.2)
      else
        if x4 < 0 then
          (F_X10_finding 1 M).bind fun q16 =>
          some (q16.1, q16.2)
        else
          (F_X10_ones x2).bind fun q6 =>
          if 9 < q6 then
            (F_X10_finding 7 M).bind fun q15 =>
            some (q15.1, q15.2)
          else
            F_X10_plan_61 eFuel x1 x2 x3 x4 (-1) 0 1 0 1 M
set_option maxRecDepth 100000 in
set_option maxHeartbeats 4000000 in
theorem ev_X10_plan (x1 : Int32) (x2 : Int32) (x3 : Int32) (x4 : Int32) (M : eMem) (q : (Int32 × eMem)) (h : F_X10_plan x1 x2 x3 x4 M = some q) : Ev layR 3 m_X10_plan 0 [some (.ref 0), some (.int x1), some (.int x2), some (.int x3), some (.int x4), none, none, none, none, none, none, none, none, none] [] M (some (.int q.1), q.2) := by
  rw [F_X10_plan] at h
  refine Ev.iload_n (pc := 0) dX10_plan_0 rfl ?_
  refine eBk h (fun q1 hq1 h => ?_)
  refine Ev.callS (pc := 1) (as := [.int x1]) (st := []) (z := 0) dX10_plan_1 wc_X10_isStory ml_RX10_99 sm_X10_isStory (ev_X10_isStory x1 M _ hq1) rfl rfl (by decide) rfl rfl (Nat.le_of_ble_eq_true rfl) ?_
  refine Ev.if_eq (pc := 4) (tgt := 24) dX10_plan_4 (by decide) (fun c9 => ?_) (fun c9 => ?_)
  · have h := eT h c9
    refine Ev.aload_n (pc := 24) dX10_plan_24 rfl ?_
    refine Ev.iconst (pc := 25) dX10_plan_25 (v := 1) (by decide) ?_
    refine eBk h (fun q2 hq2 h => ?_)
    refine Ev.callV (pc := 26) (as := [.int 1]) (st := []) (z := 0) dX10_plan_26 wc_X10_finding ml_RX10_66 im_X10_finding se_X10_finding lR_0 rfl rfl (ev_X10_finding 1 M _ hq2) rfl rfl (by decide) rfl rfl (Nat.le_of_ble_eq_true rfl) ?_
    obtain rfl := Option.some.inj h
    exact Ev.iret (pc := 29) dX10_plan_29 rfl rfl
  · have h := eF h c9
    refine Ev.aload_n (pc := 7) dX10_plan_7 rfl ?_
    refine Ev.iload_n (pc := 8) dX10_plan_8 rfl ?_
    refine eBk h (fun q3 hq3 h => ?_)
    refine Ev.callV (pc := 9) (as := [.int x2]) (st := []) (z := 0) dX10_plan_9 wc_X10_isSet ml_RX10_252 im_X10_isSet se_X10_isSet lR_0 rfl rfl (ev_X10_isSet x2 M _ hq3) rfl rfl (by decide) rfl rfl (Nat.le_of_ble_eq_true rfl) ?_
    refine Ev.if_eq (pc := 12) (tgt := 24) dX10_plan_12 (by decide) (fun c9 => ?_) (fun c9 => ?_)
    · have h := eT h c9
      refine Ev.aload_n (pc := 24) dX10_plan_24 rfl ?_
      refine Ev.iconst (pc := 25) dX10_plan_25 (v := 1) (by decide) ?_
      refine eBk h (fun q4 hq4 h => ?_)
      refine Ev.callV (pc := 26) (as := [.int 1]) (st := []) (z := 0) dX10_plan_26 wc_X10_finding ml_RX10_66 im_X10_finding se_X10_finding lR_0 rfl rfl (ev_X10_finding 1 M _ hq4) rfl rfl (by decide) rfl rfl (Nat.le_of_ble_eq_true rfl) ?_
      obtain rfl := Option.some.inj h
      exact Ev.iret (pc := 29) dX10_plan_29 rfl rfl
    · have h := eF h c9
      refine Ev.iload_n (pc := 15) dX10_plan_15 rfl ?_
      refine Ev.if_lt (pc := 16) (tgt := 24) dX10_plan_16 (by decide) (fun c9 => ?_) (fun c9 => ?_)
      · have h := eT h c9
        refine Ev.aload_n (pc := 24) dX10_plan_24 rfl ?_
        refine Ev.iconst (pc := 25) dX10_plan_25 (v := 1) (by decide) ?_
        refine eBk h (fun q5 hq5 h => ?_)
        refine Ev.callV (pc := 26) (as := [.int 1]) (st := []) (z := 0) dX10_plan_26 wc_X10_finding ml_RX10_66 im_X10_finding se_X10_finding lR_0 rfl rfl (ev_X10_finding 1 M _ hq5) rfl rfl (by decide) rfl rfl (Nat.le_of_ble_eq_true rfl) ?_
        obtain rfl := Option.some.inj h
        exact Ev.iret (pc := 29) dX10_plan_29 rfl rfl
      · have h := eF h c9
        refine Ev.iload (pc := 19) dX10_plan_19 rfl ?_
        refine Ev.if_ge (pc := 21) (tgt := 30) dX10_plan_21 (by decide) (fun c9 => ?_) (fun c9 => ?_)
        · have h := eF h c9
          refine Ev.iload_n (pc := 30) dX10_plan_30 rfl ?_
          refine eBk h (fun q6 hq6 h => ?_)
          refine Ev.callS (pc := 31) (as := [.int x2]) (st := []) (z := 2) dX10_plan_31 wc_X10_ones ml_RX10_255 sm_X10_ones (ev_X10_ones x2 M _ hq6) rfl rfl (by decide) rfl rfl (Nat.le_of_ble_eq_true rfl) ?_
          refine Ev.bipush (pc := 34) dX10_plan_34 (v := 9) (by decide) ?_
          refine Ev.icmp_le (pc := 36) (tgt := 46) dX10_plan_36 (by decide) (fun c9 => ?_) (fun c9 => ?_)
          · have h := eF h c9
            refine Ev.iconst (pc := 46) dX10_plan_46 (v := (-1)) (by decide) ?_
            refine Ev.istore (pc := 47) dX10_plan_47 (by decide) rfl rfl ?_
            refine Ev.lconst (pc := 49) dX10_plan_49 (v := 0) (by decide) ?_
            refine Ev.lstore (pc := 50) dX10_plan_50 (by decide) rfl rfl ?_
            refine Ev.lconst (pc := 52) dX10_plan_52 (v := 1) (by decide) ?_
            refine Ev.lstore (pc := 53) dX10_plan_53 (by decide) rfl rfl ?_
            refine Ev.iconst (pc := 55) dX10_plan_55 (v := 0) (by decide) ?_
            refine Ev.istore (pc := 56) dX10_plan_56 (by decide) rfl rfl ?_
            refine Ev.iconst (pc := 58) dX10_plan_58 (v := 1) (by decide) ?_
            refine Ev.istore (pc := 59) dX10_plan_59 (by decide) rfl rfl ?_
            exact Ev.fg (ev_X10_plan_61 _ _ _ _ _ _ _ _ _ _ _ _ h) (And.intro rfl (And.intro rfl (And.intro rfl (And.intro rfl (And.intro rfl (And.intro rfl (And.intro rfl (And.intro rfl (And.intro rfl (And.intro rfl trivial))))))))))
          · have h := eT h c9
            refine Ev.aload_n (pc := 39) dX10_plan_39 rfl ?_
            refine Ev.bipush (pc := 40) dX10_plan_40 (v := 7) (by decide) ?_
            refine eBk h (fun q15 hq15 h => ?_)
            refine Ev.callV (pc := 42) (as := [.int 7]) (st := []) (z := 0) dX10_plan_42 wc_X10_finding ml_RX10_66 im_X10_finding se_X10_finding lR_0 rfl rfl (ev_X10_finding 7 M _ hq15) rfl rfl (by decide) rfl rfl (Nat.le_of_ble_eq_true rfl) ?_
            obtain rfl := Option.some.inj h
            exact Ev.iret (pc := 45) dX10_plan_45 rfl rfl
        · have h := eT h c9
          refine Ev.aload_n (pc := 24) dX10_plan_24 rfl ?_
          refine Ev.iconst (pc := 25) dX10_plan_25 (v := 1) (by decide) ?_
          refine eBk h (fun q16 hq16 h => ?_)
          refine Ev.callV (pc := 26) (as := [.int 1]) (st := []) (z := 0) dX10_plan_26 wc_X10_finding ml_RX10_66 im_X10_finding se_X10_finding lR_0 rfl rfl (ev_X10_finding 1 M _ hq16) rfl rfl (by decide) rfl rfl (Nat.le_of_ble_eq_true rfl) ?_
          obtain rfl := Option.some.inj h
          exact Ev.iret (pc := 29) dX10_plan_29 rfl rfl
theorem dX9_judge_0 : decode cX9_judge 0 = .ok (.iload_n 1, 1) := by decide +kernel
theorem dX9_judge_1 : decode cX9_judge 1 = .ok (.iconst 4, 1) := by decide +kernel
theorem dX9_judge_2 : decode cX9_judge 2 = .ok (.invokestatic 37, 3) := by decide +kernel
theorem dX9_judge_5 : decode cX9_judge 5 = .ok (.ifCond .eq 17, 3) := by decide +kernel
theorem dX9_judge_8 : decode cX9_judge 8 = .ok (.aload_n 0, 1) := by decide +kernel
theorem dX9_judge_9 : decode cX9_judge 9 = .ok (.getfield 12, 3) := by decide +kernel
theorem dX9_judge_12 : decode cX9_judge 12 = .ok (.getfield 130, 3) := by decide +kernel
theorem dX9_judge_15 : decode cX9_judge 15 = .ok (.iload_n 2, 1) := by decide +kernel
theorem dX9_judge_16 : decode cX9_judge 16 = .ok (.invokevirtual 350, 3) := by decide +kernel
theorem dX9_judge_19 : decode cX9_judge 19 = .ok (.ifCond .ne 11, 3) := by decide +kernel
theorem dX9_judge_22 : decode cX9_judge 22 = .ok (.aload_n 0, 1) := by decide +kernel
theorem dX9_judge_23 : decode cX9_judge 23 = .ok (.ldc 41, 2) := by decide +kernel
theorem dX9_judge_25 : decode cX9_judge 25 = .ok (.invokevirtual 42, 3) := by decide +kernel
theorem dX9_judge_28 : decode cX9_judge 28 = .ok (.i2l, 1) := by decide +kernel
theorem dX9_judge_29 : decode cX9_judge 29 = .ok (.lreturn, 1) := by decide +kernel
theorem dX9_judge_30 : decode cX9_judge 30 = .ok (.iload_n 2, 1) := by decide +kernel
theorem dX9_judge_31 : decode cX9_judge 31 = .ok (.invokestatic 353, 3) := by decide +kernel
theorem dX9_judge_34 : decode cX9_judge 34 = .ok (.bipush 9, 2) := by decide +kernel
theorem dX9_judge_36 : decode cX9_judge 36 = .ok (.if_icmp .le 11, 3) := by decide +kernel
theorem dX9_judge_39 : decode cX9_judge 39 = .ok (.aload_n 0, 1) := by decide +kernel
theorem dX9_judge_40 : decode cX9_judge 40 = .ok (.ldc 192, 2) := by decide +kernel
theorem dX9_judge_42 : decode cX9_judge 42 = .ok (.invokevirtual 42, 3) := by decide +kernel
theorem dX9_judge_45 : decode cX9_judge 45 = .ok (.i2l, 1) := by decide +kernel
theorem dX9_judge_46 : decode cX9_judge 46 = .ok (.lreturn, 1) := by decide +kernel
theorem dX9_judge_47 : decode cX9_judge 47 = .ok (.aload_n 0, 1) := by decide +kernel
theorem dX9_judge_48 : decode cX9_judge 48 = .ok (.getfield 12, 3) := by decide +kernel
theorem dX9_judge_51 : decode cX9_judge 51 = .ok (.aload_n 0, 1) := by decide +kernel
theorem dX9_judge_52 : decode cX9_judge 52 = .ok (.getfield 12, 3) := by decide +kernel
theorem dX9_judge_55 : decode cX9_judge 55 = .ok (.getfield 46, 3) := by decide +kernel
theorem dX9_judge_58 : decode cX9_judge 58 = .ok (.getfield 99, 3) := by decide +kernel
theorem dX9_judge_61 : decode cX9_judge 61 = .ok (.invokevirtual 271, 3) := by decide +kernel
theorem dX9_judge_64 : decode cX9_judge 64 = .ok (.astore 4, 2) := by decide +kernel
theorem dX9_judge_66 : decode cX9_judge 66 = .ok (.aload 4, 2) := by decide +kernel
theorem dX9_judge_68 : decode cX9_judge 68 = .ok (.iload_n 2, 1) := by decide +kernel
theorem dX9_judge_69 : decode cX9_judge 69 = .ok (.aload_n 0, 1) := by decide +kernel
theorem dX9_judge_70 : decode cX9_judge 70 = .ok (.getfield 12, 3) := by decide +kernel
theorem dX9_judge_73 : decode cX9_judge 73 = .ok (.getfield 130, 3) := by decide +kernel
theorem dX9_judge_76 : decode cX9_judge 76 = .ok (.invokevirtual 361, 3) := by decide +kernel
theorem dX9_judge_79 : decode cX9_judge 79 = .ok (.aload 4, 2) := by decide +kernel
theorem dX9_judge_81 : decode cX9_judge 81 = .ok (.iload_n 1, 1) := by decide +kernel
theorem dX9_judge_82 : decode cX9_judge 82 = .ok (.iload_n 3, 1) := by decide +kernel
theorem dX9_judge_83 : decode cX9_judge 83 = .ok (.invokevirtual 281, 3) := by decide +kernel
theorem dX9_judge_86 : decode cX9_judge 86 = .ok (.lreturn, 1) := by decide +kernel
def F_X9_judge (x1 : Int32) (x2 : Int32) (x3 : Int32) (M : eMem) : Option (Int64 × eMem) :=
  (F_X9_isIn x1 4).bind fun q1 =>
  if q1 = 0 then
    (F_X9_found (-1000001) M).bind fun q2 =>
    some (q2.1.toInt64, q2.2)
  else
    (F_X5_hasAll x2 M).bind fun q3 =>
    if q3 = 0 then
      (F_X9_found (-1000001) M).bind fun q9 =>
      some (q9.1.toInt64, q9.2)
    else
      (F_J6_bitCount_0f7a4 x2).bind fun q4 =>
      if 9 < q4 then
        (F_X9_found (-1000007) M).bind fun q8 =>
        some (q8.1.toInt64, q8.2)
      else
        (F_X8_scalesAt (M.1 2 11) M).bind fun q5 =>
        (F_X3_putGiven x2 q5).bind fun q6 =>
        (F_X3_cleared x1 x3 q6).bind fun q7 =>
        some (q7, q6)
set_option maxRecDepth 100000 in
set_option maxHeartbeats 4000000 in
theorem ev_X9_judge (x1 : Int32) (x2 : Int32) (x3 : Int32) (M : eMem) (q : (Int64 × eMem)) (h : F_X9_judge x1 x2 x3 M = some q) : Ev layC 5 m_X9_judge 0 [some (.ref 0), some (.int x1), some (.int x2), some (.int x3), none] [] M (some (.long q.1), q.2) := by
  rw [F_X9_judge] at h
  refine Ev.iload_n (pc := 0) dX9_judge_0 rfl ?_
  refine Ev.iconst (pc := 1) dX9_judge_1 (v := 4) (by decide) ?_
  refine eBk h (fun q1 hq1 h => ?_)
  refine Ev.callS (pc := 2) (as := [.int x1, .int 4]) (st := []) (z := 0) dX9_judge_2 wc_X9_isIn ml_RX9_37 sm_X9_isIn (ev_X9_isIn x1 4 M _ hq1) rfl rfl (by decide) rfl rfl (Nat.le_of_ble_eq_true rfl) ?_
  refine Ev.if_eq (pc := 5) (tgt := 22) dX9_judge_5 (by decide) (fun c9 => ?_) (fun c9 => ?_)
  · have h := eT h c9
    refine Ev.aload_n (pc := 22) dX9_judge_22 rfl ?_
    refine Ev.ldc (pc := 23) dX9_judge_23 ld_RX9_41 ?_
    refine eBk h (fun q2 hq2 h => ?_)
    refine Ev.callV (pc := 25) (as := [.int (-1000001)]) (st := []) (z := 1) dX9_judge_25 wc_X9_found ml_RX9_42 im_X9_found se_X9_found lC_0 rfl rfl (ev_X9_found (-1000001) M _ hq2) rfl rfl (by decide) rfl rfl (Nat.le_of_ble_eq_true rfl) ?_
    refine Ev.i2l (pc := 28) dX9_judge_28 ?_
    obtain rfl := Option.some.inj h
    exact Ev.lret (pc := 29) dX9_judge_29 rfl
  · have h := eF h c9
    refine Ev.aload_n (pc := 8) dX9_judge_8 rfl ?_
    refine Ev.getR (pc := 9) dX9_judge_9 fl_RX9_12 lC_0 rfl ?_
    refine Ev.getR (pc := 12) dX9_judge_12 fl_RX9_130 lC_1 rfl ?_
    refine Ev.iload_n (pc := 15) dX9_judge_15 rfl ?_
    refine eBk h (fun q3 hq3 h => ?_)
    refine Ev.callV (pc := 16) (as := [.int x2]) (st := []) (z := 0) dX9_judge_16 wc_X5_hasAll ml_RX9_350 im_X5_hasAll se_X5_hasAll lC_12 rfl rfl (ev_X5_hasAll x2 M _ hq3) rfl rfl (by decide) rfl rfl (Nat.le_of_ble_eq_true rfl) ?_
    refine Ev.if_ne (pc := 19) (tgt := 30) dX9_judge_19 (by decide) (fun c9 => ?_) (fun c9 => ?_)
    · have h := eF h c9
      refine Ev.iload_n (pc := 30) dX9_judge_30 rfl ?_
      refine eBk h (fun q4 hq4 h => ?_)
      refine Ev.callS (pc := 31) (as := [.int x2]) (st := []) (z := 0) dX9_judge_31 wc_J6_bitCount_0f7a4 ml_RX9_353 sm_J6_bitCount_0f7a4 (ev_J6_bitCount_0f7a4 x2 M _ hq4) rfl rfl (by decide) rfl rfl (Nat.le_of_ble_eq_true rfl) ?_
      refine Ev.bipush (pc := 34) dX9_judge_34 (v := 9) (by decide) ?_
      refine Ev.icmp_le (pc := 36) (tgt := 47) dX9_judge_36 (by decide) (fun c9 => ?_) (fun c9 => ?_)
      · have h := eF h c9
        refine Ev.aload_n (pc := 47) dX9_judge_47 rfl ?_
        refine Ev.getR (pc := 48) dX9_judge_48 fl_RX9_12 lC_0 rfl ?_
        refine Ev.aload_n (pc := 51) dX9_judge_51 rfl ?_
        refine Ev.getR (pc := 52) dX9_judge_52 fl_RX9_12 lC_0 rfl ?_
        refine Ev.getR (pc := 55) dX9_judge_55 fl_RX9_46 lC_1 rfl ?_
        refine Ev.getI (pc := 58) dX9_judge_58 fl_RX9_99 lC_2 rfl ?_
        refine eBk h (fun q5 hq5 h => ?_)
        refine Ev.callV (pc := 61) (as := [.int (M.1 2 11)]) (st := []) (z := 0) dX9_judge_61 wc_X8_scalesAt ml_RX9_271 im_X8_scalesAt se_X8_scalesAt lC_1 rfl rfl (ev_X8_scalesAt (M.1 2 11) M _ hq5) rfl rfl (by decide) rfl rfl (Nat.le_of_ble_eq_true rfl) ?_
        refine Ev.astore (pc := 64) dX9_judge_64 (by decide) rfl rfl ?_
        refine Ev.aload (pc := 66) dX9_judge_66 rfl ?_
        refine Ev.iload_n (pc := 68) dX9_judge_68 rfl ?_
        refine Ev.aload_n (pc := 69) dX9_judge_69 rfl ?_
        refine Ev.getR (pc := 70) dX9_judge_70 fl_RX9_12 lC_0 rfl ?_
        refine Ev.getR (pc := 73) dX9_judge_73 fl_RX9_130 lC_1 rfl ?_
        refine eBk h (fun q6 hq6 h => ?_)
        refine Ev.callV (pc := 76) (as := [.int x2, .ref 12]) (st := []) (z := 1) dX9_judge_76 wc_X3_putGiven ml_RX9_361 im_X3_putGiven se_X3_putGiven lC_55 rfl rfl (ev_X3_putGiven x2 q5 _ hq6) rfl rfl (by decide) rfl rfl (Nat.le_of_ble_eq_true rfl) ?_
        refine Ev.aload (pc := 79) dX9_judge_79 rfl ?_
        refine Ev.iload_n (pc := 81) dX9_judge_81 rfl ?_
        refine Ev.iload_n (pc := 82) dX9_judge_82 rfl ?_
        refine eBk h (fun q7 hq7 h => ?_)
        refine Ev.callV (pc := 83) (as := [.int x1, .int x3]) (st := []) (z := 7) dX9_judge_83 wc_X3_cleared ml_RX9_281 im_X3_cleared se_X3_cleared lC_55 rfl rfl (ev_X3_cleared x1 x3 q6 _ hq7) rfl rfl (by decide) rfl rfl (Nat.le_of_ble_eq_true rfl) ?_
        obtain rfl := Option.some.inj h
        exact Ev.lret (pc := 86) dX9_judge_86 rfl
      · have h := eT h c9
        refine Ev.aload_n (pc := 39) dX9_judge_39 rfl ?_
        refine Ev.ldc (pc := 40) dX9_judge_40 ld_RX9_192 ?_
        refine eBk h (fun q8 hq8 h => ?_)
        refine Ev.callV (pc := 42) (as := [.int (-1000007)]) (st := []) (z := 1) dX9_judge_42 wc_X9_found ml_RX9_42 im_X9_found se_X9_found lC_0 rfl rfl (ev_X9_found (-1000007) M _ hq8) rfl rfl (by decide) rfl rfl (Nat.le_of_ble_eq_true rfl) ?_
        refine Ev.i2l (pc := 45) dX9_judge_45 ?_
        obtain rfl := Option.some.inj h
        exact Ev.lret (pc := 46) dX9_judge_46 rfl
    · have h := eT h c9
      refine Ev.aload_n (pc := 22) dX9_judge_22 rfl ?_
      refine Ev.ldc (pc := 23) dX9_judge_23 ld_RX9_41 ?_
      refine eBk h (fun q9 hq9 h => ?_)
      refine Ev.callV (pc := 25) (as := [.int (-1000001)]) (st := []) (z := 1) dX9_judge_25 wc_X9_found ml_RX9_42 im_X9_found se_X9_found lC_0 rfl rfl (ev_X9_found (-1000001) M _ hq9) rfl rfl (by decide) rfl rfl (Nat.le_of_ble_eq_true rfl) ?_
      refine Ev.i2l (pc := 28) dX9_judge_28 ?_
      obtain rfl := Option.some.inj h
      exact Ev.lret (pc := 29) dX9_judge_29 rfl
theorem dX10_judge_0 : decode cX10_judge 0 = .ok (.iload_n 1, 1) := by decide +kernel
theorem dX10_judge_1 : decode cX10_judge 1 = .ok (.invokestatic 99, 3) := by decide +kernel
theorem dX10_judge_4 : decode cX10_judge 4 = .ok (.ifCond .eq 11, 3) := by decide +kernel
theorem dX10_judge_7 : decode cX10_judge 7 = .ok (.aload_n 0, 1) := by decide +kernel
theorem dX10_judge_8 : decode cX10_judge 8 = .ok (.iload_n 2, 1) := by decide +kernel
theorem dX10_judge_9 : decode cX10_judge 9 = .ok (.invokevirtual 252, 3) := by decide +kernel
theorem dX10_judge_12 : decode cX10_judge 12 = .ok (.ifCond .ne 10, 3) := by decide +kernel
theorem dX10_judge_15 : decode cX10_judge 15 = .ok (.aload_n 0, 1) := by decide +kernel
theorem dX10_judge_16 : decode cX10_judge 16 = .ok (.iconst 1, 1) := by decide +kernel
theorem dX10_judge_17 : decode cX10_judge 17 = .ok (.invokevirtual 66, 3) := by decide +kernel
theorem dX10_judge_20 : decode cX10_judge 20 = .ok (.i2l, 1) := by decide +kernel
theorem dX10_judge_21 : decode cX10_judge 21 = .ok (.lreturn, 1) := by decide +kernel
theorem dX10_judge_22 : decode cX10_judge 22 = .ok (.iload_n 2, 1) := by decide +kernel
theorem dX10_judge_23 : decode cX10_judge 23 = .ok (.invokestatic 255, 3) := by decide +kernel
theorem dX10_judge_26 : decode cX10_judge 26 = .ok (.bipush 9, 2) := by decide +kernel
theorem dX10_judge_28 : decode cX10_judge 28 = .ok (.if_icmp .le 11, 3) := by decide +kernel
theorem dX10_judge_31 : decode cX10_judge 31 = .ok (.aload_n 0, 1) := by decide +kernel
theorem dX10_judge_32 : decode cX10_judge 32 = .ok (.bipush 7, 2) := by decide +kernel
theorem dX10_judge_34 : decode cX10_judge 34 = .ok (.invokevirtual 66, 3) := by decide +kernel
theorem dX10_judge_37 : decode cX10_judge 37 = .ok (.i2l, 1) := by decide +kernel
theorem dX10_judge_38 : decode cX10_judge 38 = .ok (.lreturn, 1) := by decide +kernel
theorem dX10_judge_39 : decode cX10_judge 39 = .ok (.aload_n 0, 1) := by decide +kernel
theorem dX10_judge_40 : decode cX10_judge 40 = .ok (.aload_n 0, 1) := by decide +kernel
theorem dX10_judge_41 : decode cX10_judge 41 = .ok (.getfield 7, 3) := by decide +kernel
theorem dX10_judge_44 : decode cX10_judge 44 = .ok (.iconst 0, 1) := by decide +kernel
theorem dX10_judge_45 : decode cX10_judge 45 = .ok (.iaload, 1) := by decide +kernel
theorem dX10_judge_46 : decode cX10_judge 46 = .ok (.invokevirtual 154, 3) := by decide +kernel
theorem dX10_judge_49 : decode cX10_judge 49 = .ok (.aload_n 0, 1) := by decide +kernel
theorem dX10_judge_50 : decode cX10_judge 50 = .ok (.iload_n 2, 1) := by decide +kernel
theorem dX10_judge_51 : decode cX10_judge 51 = .ok (.aload_n 0, 1) := by decide +kernel
theorem dX10_judge_52 : decode cX10_judge 52 = .ok (.getfield 7, 3) := by decide +kernel
theorem dX10_judge_55 : decode cX10_judge 55 = .ok (.iconst 0, 1) := by decide +kernel
theorem dX10_judge_56 : decode cX10_judge 56 = .ok (.iaload, 1) := by decide +kernel
theorem dX10_judge_57 : decode cX10_judge 57 = .ok (.invokevirtual 261, 3) := by decide +kernel
theorem dX10_judge_60 : decode cX10_judge 60 = .ok (.aload_n 0, 1) := by decide +kernel
theorem dX10_judge_61 : decode cX10_judge 61 = .ok (.invokevirtual 158, 3) := by decide +kernel
theorem dX10_judge_64 : decode cX10_judge 64 = .ok (.aload_n 0, 1) := by decide +kernel
theorem dX10_judge_65 : decode cX10_judge 65 = .ok (.iload_n 1, 1) := by decide +kernel
theorem dX10_judge_66 : decode cX10_judge 66 = .ok (.iload_n 3, 1) := by decide +kernel
theorem dX10_judge_67 : decode cX10_judge 67 = .ok (.invokevirtual 169, 3) := by decide +kernel
theorem dX10_judge_70 : decode cX10_judge 70 = .ok (.lreturn, 1) := by decide +kernel
def F_X10_judge (x1 : Int32) (x2 : Int32) (x3 : Int32) (M : eMem) : Option (Int64 × eMem) :=
  (F_X10_isStory x1).bind fun q1 =>
  if q1 = 0 then
    (F_X10_finding 1 M).bind fun q2 =>
    some (q2.1.toInt64, q2.2)
  else
    (F_X10_isSet x2 M).bind fun q3 =>
    if q3 = 0 then
      (F_X10_finding 1 M).bind fun q10 =>
      some (q10.1.toInt64, q10.2)
    else
      (F_X10_ones x2).bind fun q4 =>
      if 9 < q4 then
        (F_X10_finding 7 M).bind fun q9 =>
        some (q9.1.toInt64, q9.2)
      else
        (F_X10_gather (M.1 1 0) M).bind fun q5 =>
        (F_X10_give x2 (q5.1 1 0) q5).bind fun q6 =>
        (F_X10_weigh q6).bind fun q7 =>
        (F_X10_likelyOf x1 x3 q7).bind fun q8 =>
        some (q8, q7)
set_option maxRecDepth 100000 in
set_option maxHeartbeats 4000000 in
theorem ev_X10_judge (x1 : Int32) (x2 : Int32) (x3 : Int32) (M : eMem) (q : (Int64 × eMem)) (h : F_X10_judge x1 x2 x3 M = some q) : Ev layR 3 m_X10_judge 0 [some (.ref 0), some (.int x1), some (.int x2), some (.int x3)] [] M (some (.long q.1), q.2) := by
  rw [F_X10_judge] at h
  refine Ev.iload_n (pc := 0) dX10_judge_0 rfl ?_
  refine eBk h (fun q1 hq1 h => ?_)
  refine Ev.callS (pc := 1) (as := [.int x1]) (st := []) (z := 0) dX10_judge_1 wc_X10_isStory ml_RX10_99 sm_X10_isStory (ev_X10_isStory x1 M _ hq1) rfl rfl (by decide) rfl rfl (Nat.le_of_ble_eq_true rfl) ?_
  refine Ev.if_eq (pc := 4) (tgt := 15) dX10_judge_4 (by decide) (fun c9 => ?_) (fun c9 => ?_)
  · have h := eT h c9
    refine Ev.aload_n (pc := 15) dX10_judge_15 rfl ?_
    refine Ev.iconst (pc := 16) dX10_judge_16 (v := 1) (by decide) ?_
    refine eBk h (fun q2 hq2 h => ?_)
    refine Ev.callV (pc := 17) (as := [.int 1]) (st := []) (z := 0) dX10_judge_17 wc_X10_finding ml_RX10_66 im_X10_finding se_X10_finding lR_0 rfl rfl (ev_X10_finding 1 M _ hq2) rfl rfl (by decide) rfl rfl (Nat.le_of_ble_eq_true rfl) ?_
    refine Ev.i2l (pc := 20) dX10_judge_20 ?_
    obtain rfl := Option.some.inj h
    exact Ev.lret (pc := 21) dX10_judge_21 rfl
  · have h := eF h c9
    refine Ev.aload_n (pc := 7) dX10_judge_7 rfl ?_
    refine Ev.iload_n (pc := 8) dX10_judge_8 rfl ?_
    refine eBk h (fun q3 hq3 h => ?_)
    refine Ev.callV (pc := 9) (as := [.int x2]) (st := []) (z := 0) dX10_judge_9 wc_X10_isSet ml_RX10_252 im_X10_isSet se_X10_isSet lR_0 rfl rfl (ev_X10_isSet x2 M _ hq3) rfl rfl (by decide) rfl rfl (Nat.le_of_ble_eq_true rfl) ?_
    refine Ev.if_ne (pc := 12) (tgt := 22) dX10_judge_12 (by decide) (fun c9 => ?_) (fun c9 => ?_)
    · have h := eF h c9
      refine Ev.iload_n (pc := 22) dX10_judge_22 rfl ?_
      refine eBk h (fun q4 hq4 h => ?_)
      refine Ev.callS (pc := 23) (as := [.int x2]) (st := []) (z := 2) dX10_judge_23 wc_X10_ones ml_RX10_255 sm_X10_ones (ev_X10_ones x2 M _ hq4) rfl rfl (by decide) rfl rfl (Nat.le_of_ble_eq_true rfl) ?_
      refine Ev.bipush (pc := 26) dX10_judge_26 (v := 9) (by decide) ?_
      refine Ev.icmp_le (pc := 28) (tgt := 39) dX10_judge_28 (by decide) (fun c9 => ?_) (fun c9 => ?_)
      · have h := eF h c9
        refine Ev.aload_n (pc := 39) dX10_judge_39 rfl ?_
        refine Ev.aload_n (pc := 40) dX10_judge_40 rfl ?_
        refine Ev.getR (pc := 41) dX10_judge_41 fl_RX10_7 lR_0 rfl ?_
        refine Ev.iconst (pc := 44) dX10_judge_44 (v := 0) (by decide) ?_
        refine Ev.ialdj (pc := 45) dX10_judge_45 (j := 0) lR_1 (by decide) (by decide) ?_
        refine eBk h (fun q5 hq5 h => ?_)
        refine Ev.callV (pc := 46) (as := [.int (M.1 1 0)]) (st := []) (z := 1) dX10_judge_46 wc_X10_gather ml_RX10_154 im_X10_gather se_X10_gather lR_0 rfl rfl (ev_X10_gather (M.1 1 0) M _ hq5) rfl rfl (by decide) rfl rfl (Nat.le_of_ble_eq_true rfl) ?_
        refine Ev.aload_n (pc := 49) dX10_judge_49 rfl ?_
        refine Ev.iload_n (pc := 50) dX10_judge_50 rfl ?_
        refine Ev.aload_n (pc := 51) dX10_judge_51 rfl ?_
        refine Ev.getR (pc := 52) dX10_judge_52 fl_RX10_7 lR_0 rfl ?_
        refine Ev.iconst (pc := 55) dX10_judge_55 (v := 0) (by decide) ?_
        refine Ev.ialdj (pc := 56) dX10_judge_56 (j := 0) lR_1 (by decide) (by decide) ?_
        refine eBk h (fun q6 hq6 h => ?_)
        refine Ev.callV (pc := 57) (as := [.int x2, .int (q5.1 1 0)]) (st := []) (z := 1) dX10_judge_57 wc_X10_give ml_RX10_261 im_X10_give se_X10_give lR_0 rfl rfl (ev_X10_give x2 (q5.1 1 0) q5 _ hq6) rfl rfl (by decide) rfl rfl (Nat.le_of_ble_eq_true rfl) ?_
        refine Ev.aload_n (pc := 60) dX10_judge_60 rfl ?_
        refine eBk h (fun q7 hq7 h => ?_)
        refine Ev.callV (pc := 61) (as := []) (st := []) (z := 4) dX10_judge_61 wc_X10_weigh ml_RX10_158 im_X10_weigh se_X10_weigh lR_0 rfl rfl (ev_X10_weigh  q6 _ hq7) rfl rfl (by decide) rfl rfl (Nat.le_of_ble_eq_true rfl) ?_
        refine Ev.aload_n (pc := 64) dX10_judge_64 rfl ?_
        refine Ev.iload_n (pc := 65) dX10_judge_65 rfl ?_
        refine Ev.iload_n (pc := 66) dX10_judge_66 rfl ?_
        refine eBk h (fun q8 hq8 h => ?_)
        refine Ev.callV (pc := 67) (as := [.int x1, .int x3]) (st := []) (z := 2) dX10_judge_67 wc_X10_likelyOf ml_RX10_169 im_X10_likelyOf se_X10_likelyOf lR_0 rfl rfl (ev_X10_likelyOf x1 x3 q7 _ hq8) rfl rfl (by decide) rfl rfl (Nat.le_of_ble_eq_true rfl) ?_
        obtain rfl := Option.some.inj h
        exact Ev.lret (pc := 70) dX10_judge_70 rfl
      · have h := eT h c9
        refine Ev.aload_n (pc := 31) dX10_judge_31 rfl ?_
        refine Ev.bipush (pc := 32) dX10_judge_32 (v := 7) (by decide) ?_
        refine eBk h (fun q9 hq9 h => ?_)
        refine Ev.callV (pc := 34) (as := [.int 7]) (st := []) (z := 0) dX10_judge_34 wc_X10_finding ml_RX10_66 im_X10_finding se_X10_finding lR_0 rfl rfl (ev_X10_finding 7 M _ hq9) rfl rfl (by decide) rfl rfl (Nat.le_of_ble_eq_true rfl) ?_
        refine Ev.i2l (pc := 37) dX10_judge_37 ?_
        obtain rfl := Option.some.inj h
        exact Ev.lret (pc := 38) dX10_judge_38 rfl
    · have h := eT h c9
      refine Ev.aload_n (pc := 15) dX10_judge_15 rfl ?_
      refine Ev.iconst (pc := 16) dX10_judge_16 (v := 1) (by decide) ?_
      refine eBk h (fun q10 hq10 h => ?_)
      refine Ev.callV (pc := 17) (as := [.int 1]) (st := []) (z := 0) dX10_judge_17 wc_X10_finding ml_RX10_66 im_X10_finding se_X10_finding lR_0 rfl rfl (ev_X10_finding 1 M _ hq10) rfl rfl (by decide) rfl rfl (Nat.le_of_ble_eq_true rfl) ?_
      refine Ev.i2l (pc := 20) dX10_judge_20 ?_
      obtain rfl := Option.some.inj h
      exact Ev.lret (pc := 21) dX10_judge_21 rfl
