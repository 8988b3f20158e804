theorem dX9_flight_0 : decode cX9_flight 0 = .ok (.iload_n 2, 1) := by decide +kernel
theorem dX9_flight_1 : decode cX9_flight 1 = .ok (.ifCond .lt 15, 3) := by decide +kernel
theorem dX9_flight_4 : decode cX9_flight 4 = .ok (.iload_n 2, 1) := by decide +kernel
theorem dX9_flight_5 : decode cX9_flight 5 = .ok (.bipush 10, 2) := by decide +kernel
theorem dX9_flight_7 : decode cX9_flight 7 = .ok (.idiv, 1) := by decide +kernel
theorem dX9_flight_8 : decode cX9_flight 8 = .ok (.bipush 96, 2) := by decide +kernel
theorem dX9_flight_10 : decode cX9_flight 10 = .ok (.invokestatic 37, 3) := by decide +kernel
theorem dX9_flight_13 : decode cX9_flight 13 = .ok (.ifCond .ne 10, 3) := by decide +kernel
theorem dX9_flight_16 : decode cX9_flight 16 = .ok (.aload_n 0, 1) := by decide +kernel
theorem dX9_flight_17 : decode cX9_flight 17 = .ok (.ldc 41, 2) := by decide +kernel
theorem dX9_flight_19 : decode cX9_flight 19 = .ok (.invokevirtual 42, 3) := by decide +kernel
theorem dX9_flight_22 : decode cX9_flight 22 = .ok (.ireturn, 1) := by decide +kernel
theorem dX9_flight_23 : decode cX9_flight 23 = .ok (.iload_n 1, 1) := by decide +kernel
theorem dX9_flight_24 : decode cX9_flight 24 = .ok (.iconst 0, 1) := by decide +kernel
theorem dX9_flight_25 : decode cX9_flight 25 = .ok (.sipush 1943, 3) := by decide +kernel
theorem dX9_flight_28 : decode cX9_flight 28 = .ok (.invokestatic 55, 3) := by decide +kernel
theorem dX9_flight_31 : decode cX9_flight 31 = .ok (.ifCond .eq 13, 3) := by decide +kernel
theorem dX9_flight_34 : decode cX9_flight 34 = .ok (.iload_n 3, 1) := by decide +kernel
theorem dX9_flight_35 : decode cX9_flight 35 = .ok (.iconst 0, 1) := by decide +kernel
theorem dX9_flight_36 : decode cX9_flight 36 = .ok (.bipush 48, 2) := by decide +kernel
theorem dX9_flight_38 : decode cX9_flight 38 = .ok (.invokestatic 55, 3) := by decide +kernel
theorem dX9_flight_41 : decode cX9_flight 41 = .ok (.ifCond .ne 10, 3) := by decide +kernel
theorem dX9_flight_44 : decode cX9_flight 44 = .ok (.aload_n 0, 1) := by decide +kernel
theorem dX9_flight_45 : decode cX9_flight 45 = .ok (.ldc 41, 2) := by decide +kernel
theorem dX9_flight_47 : decode cX9_flight 47 = .ok (.invokevirtual 42, 3) := by decide +kernel
theorem dX9_flight_50 : decode cX9_flight 50 = .ok (.ireturn, 1) := by decide +kernel
theorem dX9_flight_51 : decode cX9_flight 51 = .ok (.iload_n 1, 1) := by decide +kernel
theorem dX9_flight_52 : decode cX9_flight 52 = .ok (.aload_n 0, 1) := by decide +kernel
theorem dX9_flight_53 : decode cX9_flight 53 = .ok (.getfield 12, 3) := by decide +kernel
theorem dX9_flight_56 : decode cX9_flight 56 = .ok (.getfield 46, 3) := by decide +kernel
theorem dX9_flight_59 : decode cX9_flight 59 = .ok (.getfield 99, 3) := by decide +kernel
theorem dX9_flight_62 : decode cX9_flight 62 = .ok (.if_icmp .ge 10, 3) := by decide +kernel
theorem dX9_flight_65 : decode cX9_flight 65 = .ok (.aload_n 0, 1) := by decide +kernel
theorem dX9_flight_66 : decode cX9_flight 66 = .ok (.ldc 82, 2) := by decide +kernel
theorem dX9_flight_68 : decode cX9_flight 68 = .ok (.invokevirtual 42, 3) := by decide +kernel
theorem dX9_flight_71 : decode cX9_flight 71 = .ok (.ireturn, 1) := by decide +kernel
theorem dX9_flight_72 : decode cX9_flight 72 = .ok (.aload_n 0, 1) := by decide +kernel
theorem dX9_flight_73 : decode cX9_flight 73 = .ok (.getfield 12, 3) := by decide +kernel
theorem dX9_flight_76 : decode cX9_flight 76 = .ok (.getfield 193, 3) := by decide +kernel
theorem dX9_flight_79 : decode cX9_flight 79 = .ok (.getfield 197, 3) := by decide +kernel
theorem dX9_flight_82 : decode cX9_flight 82 = .ok (.bipush 30, 2) := by decide +kernel
theorem dX9_flight_84 : decode cX9_flight 84 = .ok (.if_icmp .lt 10, 3) := by decide +kernel
theorem dX9_flight_87 : decode cX9_flight 87 = .ok (.aload_n 0, 1) := by decide +kernel
theorem dX9_flight_88 : decode cX9_flight 88 = .ok (.ldc 63, 2) := by decide +kernel
theorem dX9_flight_90 : decode cX9_flight 90 = .ok (.invokevirtual 42, 3) := by decide +kernel
theorem dX9_flight_93 : decode cX9_flight 93 = .ok (.ireturn, 1) := by decide +kernel
theorem dX9_flight_94 : decode cX9_flight 94 = .ok (.aload_n 0, 1) := by decide +kernel
theorem dX9_flight_95 : decode cX9_flight 95 = .ok (.getfield 12, 3) := by decide +kernel
theorem dX9_flight_98 : decode cX9_flight 98 = .ok (.getfield 193, 3) := by decide +kernel
theorem dX9_flight_101 : decode cX9_flight 101 = .ok (.iload_n 1, 1) := by decide +kernel
theorem dX9_flight_102 : decode cX9_flight 102 = .ok (.iload_n 2, 1) := by decide +kernel
theorem dX9_flight_103 : decode cX9_flight 103 = .ok (.bipush 10, 2) := by decide +kernel
theorem dX9_flight_105 : decode cX9_flight 105 = .ok (.idiv, 1) := by decide +kernel
theorem dX9_flight_106 : decode cX9_flight 106 = .ok (.iload_n 2, 1) := by decide +kernel
theorem dX9_flight_107 : decode cX9_flight 107 = .ok (.bipush 10, 2) := by decide +kernel
theorem dX9_flight_109 : decode cX9_flight 109 = .ok (.irem, 1) := by decide +kernel
theorem dX9_flight_110 : decode cX9_flight 110 = .ok (.iload_n 3, 1) := by decide +kernel
theorem dX9_flight_111 : decode cX9_flight 111 = .ok (.invokevirtual 202, 3) := by decide +kernel
theorem dX9_flight_114 : decode cX9_flight 114 = .ok (.ireturn, 1) := by decide +kernel
def F_X9_flight (x1 : Int32) (x2 : Int32) (x3 : Int32) (M : eMem) : Option (Int32 × eMem) :=
  if x2 < 0 then
    (F_X9_found (-1000001) M).bind fun q1 =>
    some (q1.1, q1.2)
  else
    (F_X9_isIn (x2 / 10) 96).bind fun q2 =>
    if q2 = 0 then
      (F_X9_found (-1000001) M).bind fun q10 =>
      some (q10.1, q10.2)
    else
      (F_X9_isBetween x1 0 1943).bind fun q3 =>
      if q3 = 0 then
        (F_X9_found (-1000001) M).bind fun q4 =>
        some (q4.1, q4.2)
      else
        (F_X9_isBetween x3 0 48).bind fun q5 =>
        if q5 = 0 then
          (F_X9_found (-1000001) M).bind fun q9 =>
          some (q9.1, q9.2)
        else
          if x1 < (M.1 2 11) then
            (F_X9_found (-1000005) M).bind fun q8 =>
            some (q8.1, q8.2)
          else
            if (M.1 23 4) < 30 then
              (F_X2_addFlight x1 (x2 / 10) (x2 - x2 / 10 * 10) x3 M).bind fun q6 =>
              some (q6.1, q6.2)
            else
              (F_X9_found (-1000002) M).bind fun q7 =>
              some (q7.1, q7.2)
set_option maxRecDepth 100000 in
set_option maxHeartbeats 4000000 in
theorem ev_X9_flight (x1 : Int32) (x2 : Int32) (x3 : Int32) (M : eMem) (q : (Int32 × eMem)) (h : F_X9_flight x1 x2 x3 M = some q) : Ev layC 2 m_X9_flight 0 [some (.ref 0), some (.int x1), some (.int x2), some (.int x3)] [] M (some (.int q.1), q.2) := by
  rw [F_X9_flight] at h
  refine Ev.iload_n (pc := 0) dX9_flight_0 rfl ?_
  refine Ev.if_lt (pc := 1) (tgt := 16) dX9_flight_1 (by decide) (fun c9 => ?_) (fun c9 => ?_)
  · have h := eT h c9
    refine Ev.aload_n (pc := 16) dX9_flight_16 rfl ?_
    refine Ev.ldc (pc := 17) dX9_flight_17 ld_RX9_41 ?_
    refine eBk h (fun q1 hq1 h => ?_)
    refine Ev.callV (pc := 19) (as := [.int (-1000001)]) (st := []) (z := 1) dX9_flight_19 wc_X9_found ml_RX9_42 im_X9_found se_X9_found lC_0 rfl rfl (ev_X9_found (-1000001) M _ hq1) rfl rfl (by decide) rfl rfl (Nat.le_of_ble_eq_true rfl) ?_
    obtain rfl := Option.some.inj h
    exact Ev.iret (pc := 22) dX9_flight_22 rfl rfl
  · have h := eF h c9
    refine Ev.iload_n (pc := 4) dX9_flight_4 rfl ?_
    refine Ev.bipush (pc := 5) dX9_flight_5 (v := 10) (by decide) ?_
    refine Ev.idiv (pc := 7) dX9_flight_7 (by decide) ?_
    refine Ev.bipush (pc := 8) dX9_flight_8 (v := 96) (by decide) ?_
    refine eBk h (fun q2 hq2 h => ?_)
    refine Ev.callS (pc := 10) (as := [.int (x2 / 10), .int 96]) (st := []) (z := 0) dX9_flight_10 wc_X9_isIn ml_RX9_37 sm_X9_isIn (ev_X9_isIn (x2 / 10) 96 M _ hq2) rfl rfl (by decide) rfl rfl (Nat.le_of_ble_eq_true rfl) ?_
    refine Ev.if_ne (pc := 13) (tgt := 23) dX9_flight_13 (by decide) (fun c9 => ?_) (fun c9 => ?_)
    · have h := eF h c9
      refine Ev.iload_n (pc := 23) dX9_flight_23 rfl ?_
      refine Ev.iconst (pc := 24) dX9_flight_24 (v := 0) (by decide) ?_
      refine Ev.sipush (pc := 25) dX9_flight_25 (v := 1943) (by decide) ?_
      refine eBk h (fun q3 hq3 h => ?_)
      refine Ev.callS (pc := 28) (as := [.int x1, .int 0, .int 1943]) (st := []) (z := 0) dX9_flight_28 wc_X9_isBetween ml_RX9_55 sm_X9_isBetween (ev_X9_isBetween x1 0 1943 M _ hq3) rfl rfl (by decide) rfl rfl (Nat.le_of_ble_eq_true rfl) ?_
      refine Ev.if_eq (pc := 31) (tgt := 44) dX9_flight_31 (by decide) (fun c9 => ?_) (fun c9 => ?_)
      · have h := eT h c9
        refine Ev.aload_n (pc := 44) dX9_flight_44 rfl ?_
        refine Ev.ldc (pc := 45) dX9_flight_45 ld_RX9_41 ?_
        refine eBk h (fun q4 hq4 h => ?_)
        refine Ev.callV (pc := 47) (as := [.int (-1000001)]) (st := []) (z := 1) dX9_flight_47 wc_X9_found ml_RX9_42 im_X9_found se_X9_found lC_0 rfl rfl (ev_X9_found (-1000001) M _ hq4) rfl rfl (by decide) rfl rfl (Nat.le_of_ble_eq_true rfl) ?_
        obtain rfl := Option.some.inj h
        exact Ev.iret (pc := 50) dX9_flight_50 rfl rfl
      · have h := eF h c9
        refine Ev.iload_n (pc := 34) dX9_flight_34 rfl ?_
        refine Ev.iconst (pc := 35) dX9_flight_35 (v := 0) (by decide) ?_
        refine Ev.bipush (pc := 36) dX9_flight_36 (v := 48) (by decide) ?_
        refine eBk h (fun q5 hq5 h => ?_)
        refine Ev.callS (pc := 38) (as := [.int x3, .int 0, .int 48]) (st := []) (z := 0) dX9_flight_38 wc_X9_isBetween ml_RX9_55 sm_X9_isBetween (ev_X9_isBetween x3 0 48 M _ hq5) rfl rfl (by decide) rfl rfl (Nat.le_of_ble_eq_true rfl) ?_
        refine Ev.if_ne (pc := 41) (tgt := 51) dX9_flight_41 (by decide) (fun c9 => ?_) (fun c9 => ?_)
        · have h := eF h c9
          refine Ev.iload_n (pc := 51) dX9_flight_51 rfl ?_
          refine Ev.aload_n (pc := 52) dX9_flight_52 rfl ?_
          refine Ev.getR (pc := 53) dX9_flight_53 fl_RX9_12 lC_0 rfl ?_
          refine Ev.getR (pc := 56) dX9_flight_56 fl_RX9_46 lC_1 rfl ?_
          refine Ev.getI (pc := 59) dX9_flight_59 fl_RX9_99 lC_2 rfl ?_
          refine Ev.icmp_ge (pc := 62) (tgt := 72) dX9_flight_62 (by decide) (fun c9 => ?_) (fun c9 => ?_)
          · have h := eF h c9
            refine Ev.aload_n (pc := 72) dX9_flight_72 rfl ?_
            refine Ev.getR (pc := 73) dX9_flight_73 fl_RX9_12 lC_0 rfl ?_
            refine Ev.getR (pc := 76) dX9_flight_76 fl_RX9_193 lC_1 rfl ?_
            refine Ev.getI (pc := 79) dX9_flight_79 fl_RX9_197 lC_23 rfl ?_
            refine Ev.bipush (pc := 82) dX9_flight_82 (v := 30) (by decide) ?_
            refine Ev.icmp_lt (pc := 84) (tgt := 94) dX9_flight_84 (by decide) (fun c9 => ?_) (fun c9 => ?_)
            · have h := eT h c9
              refine Ev.aload_n (pc := 94) dX9_flight_94 rfl ?_
              refine Ev.getR (pc := 95) dX9_flight_95 fl_RX9_12 lC_0 rfl ?_
              refine Ev.getR (pc := 98) dX9_flight_98 fl_RX9_193 lC_1 rfl ?_
              refine Ev.iload_n (pc := 101) dX9_flight_101 rfl ?_
              refine Ev.iload_n (pc := 102) dX9_flight_102 rfl ?_
              refine Ev.bipush (pc := 103) dX9_flight_103 (v := 10) (by decide) ?_
              refine Ev.idiv (pc := 105) dX9_flight_105 (by decide) ?_
              refine Ev.iload_n (pc := 106) dX9_flight_106 rfl ?_
              refine Ev.bipush (pc := 107) dX9_flight_107 (v := 10) (by decide) ?_
              refine Ev.irem (pc := 109) dX9_flight_109 (by decide) ?_
              refine Ev.iload_n (pc := 110) dX9_flight_110 rfl ?_
              refine eBk h (fun q6 hq6 h => ?_)
              refine Ev.callV (pc := 111) (as := [.int x1, .int (x2 / 10), .int (x2 - x2 / 10 * 10), .int x3]) (st := []) (z := 0) dX9_flight_111 wc_X2_addFlight ml_RX9_202 im_X2_addFlight se_X2_addFlight lC_23 rfl rfl (ev_X2_addFlight x1 (x2 / 10) (x2 - x2 / 10 * 10) x3 M _ hq6) rfl rfl (by decide) rfl rfl (Nat.le_of_ble_eq_true rfl) ?_
              obtain rfl := Option.some.inj h
              exact Ev.iret (pc := 114) dX9_flight_114 rfl rfl
            · have h := eF h c9
              refine Ev.aload_n (pc := 87) dX9_flight_87 rfl ?_
              refine Ev.ldc (pc := 88) dX9_flight_88 ld_RX9_63 ?_
              refine eBk h (fun q7 hq7 h => ?_)
              refine Ev.callV (pc := 90) (as := [.int (-1000002)]) (st := []) (z := 1) dX9_flight_90 wc_X9_found ml_RX9_42 im_X9_found se_X9_found lC_0 rfl rfl (ev_X9_found (-1000002) M _ hq7) rfl rfl (by decide) rfl rfl (Nat.le_of_ble_eq_true rfl) ?_
              obtain rfl := Option.some.inj h
              exact Ev.iret (pc := 93) dX9_flight_93 rfl rfl
          · have h := eT h c9
            refine Ev.aload_n (pc := 65) dX9_flight_65 rfl ?_
            refine Ev.ldc (pc := 66) dX9_flight_66 ld_RX9_82 ?_
            refine eBk h (fun q8 hq8 h => ?_)
            refine Ev.callV (pc := 68) (as := [.int (-1000005)]) (st := []) (z := 1) dX9_flight_68 wc_X9_found ml_RX9_42 im_X9_found se_X9_found lC_0 rfl rfl (ev_X9_found (-1000005) M _ hq8) rfl rfl (by decide) rfl rfl (Nat.le_of_ble_eq_true rfl) ?_
            obtain rfl := Option.some.inj h
            exact Ev.iret (pc := 71) dX9_flight_71 rfl rfl
        · have h := eT h c9
          refine Ev.aload_n (pc := 44) dX9_flight_44 rfl ?_
          refine Ev.ldc (pc := 45) dX9_flight_45 ld_RX9_41 ?_
          refine eBk h (fun q9 hq9 h => ?_)
          refine Ev.callV (pc := 47) (as := [.int (-1000001)]) (st := []) (z := 1) dX9_flight_47 wc_X9_found ml_RX9_42 im_X9_found se_X9_found lC_0 rfl rfl (ev_X9_found (-1000001) M _ hq9) rfl rfl (by decide) rfl rfl (Nat.le_of_ble_eq_true rfl) ?_
          obtain rfl := Option.some.inj h
          exact Ev.iret (pc := 50) dX9_flight_50 rfl rfl
    · have h := eT h c9
      refine Ev.aload_n (pc := 16) dX9_flight_16 rfl ?_
      refine Ev.ldc (pc := 17) dX9_flight_17 ld_RX9_41 ?_
      refine eBk h (fun q10 hq10 h => ?_)
      refine Ev.callV (pc := 19) (as := [.int (-1000001)]) (st := []) (z := 1) dX9_flight_19 wc_X9_found ml_RX9_42 im_X9_found se_X9_found lC_0 rfl rfl (ev_X9_found (-1000001) M _ hq10) rfl rfl (by decide) rfl rfl (Nat.le_of_ble_eq_true rfl) ?_
      obtain rfl := Option.some.inj h
      exact Ev.iret (pc := 22) dX9_flight_22 rfl rfl
theorem dX10_isHour_0 : decode cX10_isHour 0 = .ok (.iload_n 0, 1) := by decide +kernel
theorem dX10_isHour_1 : decode cX10_isHour 1 = .ok (.iconst 0, 1) := by decide +kernel
theorem dX10_isHour_2 : decode cX10_isHour 2 = .ok (.sipush 1943, 3) := by decide +kernel
theorem dX10_isHour_5 : decode cX10_isHour 5 = .ok (.invokestatic 58, 3) := by decide +kernel
theorem dX10_isHour_8 : decode cX10_isHour 8 = .ok (.ireturn, 1) := by decide +kernel
def F_X10_isHour (x0 : Int32) : Option Int32 :=
  (F_X10_in x0 0 1943).bind fun q1 =>
  eG (decide (vp_nar .boolean q1 = q1)) <|
  some q1
set_option maxRecDepth 100000 in
set_option maxHeartbeats 4000000 in
theorem ev_X10_isHour {lay : List eLC} (x0 : Int32) (M : eMem) (q : Int32) (h : F_X10_isHour x0 = some q) : Ev lay 1 m_X10_isHour 0 [some (.int x0)] [] M (some (.int q), M) := by
  rw [F_X10_isHour] at h
  refine Ev.iload_n (pc := 0) dX10_isHour_0 rfl ?_
  refine Ev.iconst (pc := 1) dX10_isHour_1 (v := 0) (by decide) ?_
  refine Ev.sipush (pc := 2) dX10_isHour_2 (v := 1943) (by decide) ?_
  refine eBk h (fun q1 hq1 h => ?_)
  refine Ev.callS (pc := 5) (as := [.int x0, .int 0, .int 1943]) (st := []) (z := 0) dX10_isHour_5 wc_X10_in ml_RX10_58 sm_X10_in (ev_X10_in x0 0 1943 M _ hq1) rfl rfl (by decide) rfl rfl (Nat.le_of_ble_eq_true rfl) ?_
  obtain ⟨g9, h⟩ := eGdB h
  have g9 := of_decide_eq_true g9
  obtain rfl := Option.some.inj h
  exact Ev.iret (pc := 8) dX10_isHour_8 rfl (eNar_boolean g9)
theorem dX10_flight_0 : decode cX10_flight 0 = .ok (.iload_n 1, 1) := by decide +kernel
theorem dX10_flight_1 : decode cX10_flight 1 = .ok (.invokestatic 127, 3) := by decide +kernel
theorem dX10_flight_4 : decode cX10_flight 4 = .ok (.ifCond .eq 27, 3) := by decide +kernel
theorem dX10_flight_7 : decode cX10_flight 7 = .ok (.iload_n 2, 1) := by decide +kernel
theorem dX10_flight_8 : decode cX10_flight 8 = .ok (.ifCond .lt 23, 3) := by decide +kernel
theorem dX10_flight_11 : decode cX10_flight 11 = .ok (.iload_n 2, 1) := by decide +kernel
theorem dX10_flight_12 : decode cX10_flight 12 = .ok (.bipush 10, 2) := by decide +kernel
theorem dX10_flight_14 : decode cX10_flight 14 = .ok (.idiv, 1) := by decide +kernel
theorem dX10_flight_15 : decode cX10_flight 15 = .ok (.invokestatic 62, 3) := by decide +kernel
theorem dX10_flight_18 : decode cX10_flight 18 = .ok (.ifCond .eq 13, 3) := by decide +kernel
theorem dX10_flight_21 : decode cX10_flight 21 = .ok (.iload_n 3, 1) := by decide +kernel
theorem dX10_flight_22 : decode cX10_flight 22 = .ok (.iconst 0, 1) := by decide +kernel
theorem dX10_flight_23 : decode cX10_flight 23 = .ok (.bipush 48, 2) := by decide +kernel
theorem dX10_flight_25 : decode cX10_flight 25 = .ok (.invokestatic 58, 3) := by decide +kernel
theorem dX10_flight_28 : decode cX10_flight 28 = .ok (.ifCond .ne 9, 3) := by decide +kernel
theorem dX10_flight_31 : decode cX10_flight 31 = .ok (.aload_n 0, 1) := by decide +kernel
theorem dX10_flight_32 : decode cX10_flight 32 = .ok (.iconst 1, 1) := by decide +kernel
theorem dX10_flight_33 : decode cX10_flight 33 = .ok (.invokevirtual 66, 3) := by decide +kernel
theorem dX10_flight_36 : decode cX10_flight 36 = .ok (.ireturn, 1) := by decide +kernel
theorem dX10_flight_37 : decode cX10_flight 37 = .ok (.iload_n 1, 1) := by decide +kernel
theorem dX10_flight_38 : decode cX10_flight 38 = .ok (.aload_n 0, 1) := by decide +kernel
theorem dX10_flight_39 : decode cX10_flight 39 = .ok (.getfield 7, 3) := by decide +kernel
theorem dX10_flight_42 : decode cX10_flight 42 = .ok (.iconst 0, 1) := by decide +kernel
theorem dX10_flight_43 : decode cX10_flight 43 = .ok (.iaload, 1) := by decide +kernel
theorem dX10_flight_44 : decode cX10_flight 44 = .ok (.if_icmp .ge 9, 3) := by decide +kernel
theorem dX10_flight_47 : decode cX10_flight 47 = .ok (.aload_n 0, 1) := by decide +kernel
theorem dX10_flight_48 : decode cX10_flight 48 = .ok (.iconst 5, 1) := by decide +kernel
theorem dX10_flight_49 : decode cX10_flight 49 = .ok (.invokevirtual 66, 3) := by decide +kernel
theorem dX10_flight_52 : decode cX10_flight 52 = .ok (.ireturn, 1) := by decide +kernel
theorem dX10_flight_53 : decode cX10_flight 53 = .ok (.aload_n 0, 1) := by decide +kernel
theorem dX10_flight_54 : decode cX10_flight 54 = .ok (.getfield 7, 3) := by decide +kernel
theorem dX10_flight_57 : decode cX10_flight 57 = .ok (.bipush 12, 2) := by decide +kernel
theorem dX10_flight_59 : decode cX10_flight 59 = .ok (.iaload, 1) := by decide +kernel
theorem dX10_flight_60 : decode cX10_flight 60 = .ok (.bipush 30, 2) := by decide +kernel
theorem dX10_flight_62 : decode cX10_flight 62 = .ok (.if_icmp .ne 9, 3) := by decide +kernel
theorem dX10_flight_65 : decode cX10_flight 65 = .ok (.aload_n 0, 1) := by decide +kernel
theorem dX10_flight_66 : decode cX10_flight 66 = .ok (.iconst 2, 1) := by decide +kernel
theorem dX10_flight_67 : decode cX10_flight 67 = .ok (.invokevirtual 66, 3) := by decide +kernel
theorem dX10_flight_70 : decode cX10_flight 70 = .ok (.ireturn, 1) := by decide +kernel
theorem dX10_flight_71 : decode cX10_flight 71 = .ok (.sipush 1128, 3) := by decide +kernel
theorem dX10_flight_74 : decode cX10_flight 74 = .ok (.iconst 4, 1) := by decide +kernel
theorem dX10_flight_75 : decode cX10_flight 75 = .ok (.aload_n 0, 1) := by decide +kernel
theorem dX10_flight_76 : decode cX10_flight 76 = .ok (.getfield 7, 3) := by decide +kernel
theorem dX10_flight_79 : decode cX10_flight 79 = .ok (.bipush 12, 2) := by decide +kernel
theorem dX10_flight_81 : decode cX10_flight 81 = .ok (.iaload, 1) := by decide +kernel
theorem dX10_flight_82 : decode cX10_flight 82 = .ok (.imul, 1) := by decide +kernel
theorem dX10_flight_83 : decode cX10_flight 83 = .ok (.iadd, 1) := by decide +kernel
theorem dX10_flight_84 : decode cX10_flight 84 = .ok (.istore 4, 2) := by decide +kernel
theorem dX10_flight_86 : decode cX10_flight 86 = .ok (.aload_n 0, 1) := by decide +kernel
theorem dX10_flight_87 : decode cX10_flight 87 = .ok (.getfield 7, 3) := by decide +kernel
theorem dX10_flight_90 : decode cX10_flight 90 = .ok (.iload 4, 2) := by decide +kernel
theorem dX10_flight_92 : decode cX10_flight 92 = .ok (.iload_n 1, 1) := by decide +kernel
theorem dX10_flight_93 : decode cX10_flight 93 = .ok (.iastore, 1) := by decide +kernel
theorem dX10_flight_94 : decode cX10_flight 94 = .ok (.aload_n 0, 1) := by decide +kernel
theorem dX10_flight_95 : decode cX10_flight 95 = .ok (.getfield 7, 3) := by decide +kernel
theorem dX10_flight_98 : decode cX10_flight 98 = .ok (.iload 4, 2) := by decide +kernel
theorem dX10_flight_100 : decode cX10_flight 100 = .ok (.iconst 1, 1) := by decide +kernel
theorem dX10_flight_101 : decode cX10_flight 101 = .ok (.iadd, 1) := by decide +kernel
theorem dX10_flight_102 : decode cX10_flight 102 = .ok (.iload_n 2, 1) := by decide +kernel
theorem dX10_flight_103 : decode cX10_flight 103 = .ok (.bipush 10, 2) := by decide +kernel
theorem dX10_flight_105 : decode cX10_flight 105 = .ok (.idiv, 1) := by decide +kernel
theorem dX10_flight_106 : decode cX10_flight 106 = .ok (.iastore, 1) := by decide +kernel
theorem dX10_flight_107 : decode cX10_flight 107 = .ok (.aload_n 0, 1) := by decide +kernel
theorem dX10_flight_108 : decode cX10_flight 108 = .ok (.getfield 7, 3) := by decide +kernel
theorem dX10_flight_111 : decode cX10_flight 111 = .ok (.iload 4, 2) := by decide +kernel
theorem dX10_flight_113 : decode cX10_flight 113 = .ok (.iconst 2, 1) := by decide +kernel
theorem dX10_flight_114 : decode cX10_flight 114 = .ok (.iadd, 1) := by decide +kernel
theorem dX10_flight_115 : decode cX10_flight 115 = .ok (.iload_n 2, 1) := by decide +kernel
theorem dX10_flight_116 : decode cX10_flight 116 = .ok (.bipush 10, 2) := by decide +kernel
theorem dX10_flight_118 : decode cX10_flight 118 = .ok (.irem, 1) := by decide +kernel
theorem dX10_flight_119 : decode cX10_flight 119 = .ok (.iastore, 1) := by decide +kernel
theorem dX10_flight_120 : decode cX10_flight 120 = .ok (.aload_n 0, 1) := by decide +kernel
theorem dX10_flight_121 : decode cX10_flight 121 = .ok (.getfield 7, 3) := by decide +kernel
theorem dX10_flight_124 : decode cX10_flight 124 = .ok (.iload 4, 2) := by decide +kernel
theorem dX10_flight_126 : decode cX10_flight 126 = .ok (.iconst 3, 1) := by decide +kernel
theorem dX10_flight_127 : decode cX10_flight 127 = .ok (.iadd, 1) := by decide +kernel
theorem dX10_flight_128 : decode cX10_flight 128 = .ok (.iload_n 3, 1) := by decide +kernel
theorem dX10_flight_129 : decode cX10_flight 129 = .ok (.iastore, 1) := by decide +kernel
theorem dX10_flight_130 : decode cX10_flight 130 = .ok (.aload_n 0, 1) := by decide +kernel
theorem dX10_flight_131 : decode cX10_flight 131 = .ok (.getfield 7, 3) := by decide +kernel
theorem dX10_flight_134 : decode cX10_flight 134 = .ok (.bipush 12, 2) := by decide +kernel
theorem dX10_flight_136 : decode cX10_flight 136 = .ok (.dup2, 1) := by decide +kernel
theorem dX10_flight_137 : decode cX10_flight 137 = .ok (.iaload, 1) := by decide +kernel
theorem dX10_flight_138 : decode cX10_flight 138 = .ok (.iconst 1, 1) := by decide +kernel
theorem dX10_flight_139 : decode cX10_flight 139 = .ok (.iadd, 1) := by decide +kernel
theorem dX10_flight_140 : decode cX10_flight 140 = .ok (.iastore, 1) := by decide +kernel
theorem dX10_flight_141 : decode cX10_flight 141 = .ok (.aload_n 0, 1) := by decide +kernel
theorem dX10_flight_142 : decode cX10_flight 142 = .ok (.getfield 7, 3) := by decide +kernel
theorem dX10_flight_145 : decode cX10_flight 145 = .ok (.bipush 12, 2) := by decide +kernel
theorem dX10_flight_147 : decode cX10_flight 147 = .ok (.iaload, 1) := by decide +kernel
theorem dX10_flight_148 : decode cX10_flight 148 = .ok (.iconst 1, 1) := by decide +kernel
theorem dX10_flight_149 : decode cX10_flight 149 = .ok (.isub, 1) := by decide +kernel
theorem dX10_flight_150 : decode cX10_flight 150 = .ok (.ireturn, 1) := by decide +kernel
def F_X10_flight (x1 : Int32) (x2 : Int32) (x3 : Int32) (M : eMem) : Option (Int32 × eMem) :=
  (F_X10_isHour x1).bind fun q1 =>
  if q1 = 0 then
    (F_X10_finding 1 M).bind fun q2 =>
    some (q2.1, q2.2)
  else
    if x2 < 0 then
      (F_X10_finding 1 M).bind fun q3 =>
      some (q3.1, q3.2)
    else
      (F_X10_isCell (x2 / 10)).bind fun q4 =>
      if q4 = 0 then
        (F_X10_finding 1 M).bind fun q5 =>
        some (q5.1, q5.2)
      else
        (F_X10_in x3 0 48).bind fun q6 =>
        if q6 = 0 then
          (F_X10_finding 1 M).bind fun q9 =>
          some (q9.1, q9.2)
        else
          if x1 < (M.1 1 0) then
            (F_X10_finding 5 M).bind fun q8 =>
            some (q8.1, q8.2)
          else
            if (M.1 1 12) = 30 then
              (F_X10_finding 2 M).bind fun q7 =>
              some (q7.1, q7.2)
            else
              eG (eIn (1128 + (4 * (M.1 1 12))) 2900) <|
              eG (eIn ((1128 + (4 * (M.1 1 12))) + 1) 2900) <|
              eG (eIn ((1128 + (4 * (M.1 1 12))) + 2) 2900) <|
              eG (eIn ((1128 + (4 * (M.1 1 12))) + 3) 2900) <|
              some (((((eI (eI (eI (eI M 1 (1128 + (4 * (M.1 1 12))).toNatClampNeg x1) 1 ((1128 + (4 * (M.1 1 12))) + 1).toNatClampNeg (x2 / 10)) 1 ((1128 + (4 * (M.1 1 12))) + 2).toNatClampNeg (x2 - x2 / 10 * 10)) 1 ((1128 + (4 * (M.1 1 12))) + 3).toNatClampNeg x3).1 1 12) + 1) - 1), (eI (eI (eI (eI (eI M 1 (1128 + (4 * (M.1 1 12))).toNatClampNeg x1) 1 ((1128 + (4 * (M.1 1 12))) + 1).toNatClampNeg (x2 / 10)) 1 ((1128 + (4 * (M.1 1 12))) + 2).toNatClampNeg (x2 - x2 / 10 * 10)) 1 ((1128 + (4 * (M.1 1 12))) + 3).toNatClampNeg x3) 1 12 (((eI (eI (eI (eI M 1 (1128 + (4 * (M.1 1 12))).toNatClampNeg x1) 1 ((1128 + (4 * (M.1 1 12))) + 1).toNatClampNeg (x2 / 10)) 1 ((1128 + (4 * (M.1 1 12))) + 2).toNatClampNeg (x2 - x2 / 10 * 10)) 1 ((1128 + (4 * (M.1 1 12))) + 3).toNatClampNeg x3).1 1 12) + 1)))
set_option maxRecDepth 100000 in
set_option maxHeartbeats 4000000 in
theorem ev_X10_flight (x1 : Int32) (x2 : Int32) (x3 : Int32) (M : eMem) (q : (Int32 × eMem)) (h : F_X10_flight x1 x2 x3 M = some q) : Ev layR 2 m_X10_flight 0 [some (.ref 0), some (.int x1), some (.int x2), some (.int x3), none] [] M (some (.int q.1), q.2) := by
  rw [F_X10_flight] at h
  refine Ev.iload_n (pc := 0) dX10_flight_0 rfl ?_
  refine eBk h (fun q1 hq1 h => ?_)
  refine Ev.callS (pc := 1) (as := [.int x1]) (st := []) (z := 0) dX10_flight_1 wc_X10_isHour ml_RX10_127 sm_X10_isHour (ev_X10_isHour x1 M _ hq1) rfl rfl (by decide) rfl rfl (Nat.le_of_ble_eq_true rfl) ?_
  refine Ev.if_eq (pc := 4) (tgt := 31) dX10_flight_4 (by decide) (fun c9 => ?_) (fun c9 => ?_)
  · have h := eT h c9
    refine Ev.aload_n (pc := 31) dX10_flight_31 rfl ?_
    refine Ev.iconst (pc := 32) dX10_flight_32 (v := 1) (by decide) ?_
    refine eBk h (fun q2 hq2 h => ?_)
    refine Ev.callV (pc := 33) (as := [.int 1]) (st := []) (z := 0) dX10_flight_33 wc_X10_finding ml_RX10_66 im_X10_finding se_X10_finding lR_0 rfl rfl (ev_X10_finding 1 M _ hq2) rfl rfl (by decide) rfl rfl (Nat.le_of_ble_eq_true rfl) ?_
    obtain rfl := Option.some.inj h
    exact Ev.iret (pc := 36) dX10_flight_36 rfl rfl
  · have h := eF h c9
    refine Ev.iload_n (pc := 7) dX10_flight_7 rfl ?_
    refine Ev.if_lt (pc := 8) (tgt := 31) dX10_flight_8 (by decide) (fun c9 => ?_) (fun c9 => ?_)
    · have h := eT h c9
      refine Ev.aload_n (pc := 31) dX10_flight_31 rfl ?_
      refine Ev.iconst (pc := 32) dX10_flight_32 (v := 1) (by decide) ?_
      refine eBk h (fun q3 hq3 h => ?_)
      refine Ev.callV (pc := 33) (as := [.int 1]) (st := []) (z := 0) dX10_flight_33 wc_X10_finding ml_RX10_66 im_X10_finding se_X10_finding lR_0 rfl rfl (ev_X10_finding 1 M _ hq3) rfl rfl (by decide) rfl rfl (Nat.le_of_ble_eq_true rfl) ?_
      obtain rfl := Option.some.inj h
      exact Ev.iret (pc := 36) dX10_flight_36 rfl rfl
    · have h := eF h c9
      refine Ev.iload_n (pc := 11) dX10_flight_11 rfl ?_
      refine Ev.bipush (pc := 12) dX10_flight_12 (v := 10) (by decide) ?_
      refine Ev.idiv (pc := 14) dX10_flight_14 (by decide) ?_
      refine eBk h (fun q4 hq4 h => ?_)
      refine Ev.callS (pc := 15) (as := [.int (x2 / 10)]) (st := []) (z := 0) dX10_flight_15 wc_X10_isCell ml_RX10_62 sm_X10_isCell (ev_X10_isCell (x2 / 10) M _ hq4) rfl rfl (by decide) rfl rfl (Nat.le_of_ble_eq_true rfl) ?_
      refine Ev.if_eq (pc := 18) (tgt := 31) dX10_flight_18 (by decide) (fun c9 => ?_) (fun c9 => ?_)
      · have h := eT h c9
        refine Ev.aload_n (pc := 31) dX10_flight_31 rfl ?_
        refine Ev.iconst (pc := 32) dX10_flight_32 (v := 1) (by decide) ?_
        refine eBk h (fun q5 hq5 h => ?_)
        refine Ev.callV (pc := 33) (as := [.int 1]) (st := []) (z := 0) dX10_flight_33 wc_X10_finding ml_RX10_66 im_X10_finding se_X10_finding lR_0 rfl rfl (ev_X10_finding 1 M _ hq5) rfl rfl (by decide) rfl rfl (Nat.le_of_ble_eq_true rfl) ?_
        obtain rfl := Option.some.inj h
        exact Ev.iret (pc := 36) dX10_flight_36 rfl rfl
      · have h := eF h c9
        refine Ev.iload_n (pc := 21) dX10_flight_21 rfl ?_
        refine Ev.iconst (pc := 22) dX10_flight_22 (v := 0) (by decide) ?_
        refine Ev.bipush (pc := 23) dX10_flight_23 (v := 48) (by decide) ?_
        refine eBk h (fun q6 hq6 h => ?_)
        refine Ev.callS (pc := 25) (as := [.int x3, .int 0, .int 48]) (st := []) (z := 0) dX10_flight_25 wc_X10_in ml_RX10_58 sm_X10_in (ev_X10_in x3 0 48 M _ hq6) rfl rfl (by decide) rfl rfl (Nat.le_of_ble_eq_true rfl) ?_
        refine Ev.if_ne (pc := 28) (tgt := 37) dX10_flight_28 (by decide) (fun c9 => ?_) (fun c9 => ?_)
        · have h := eF h c9
          refine Ev.iload_n (pc := 37) dX10_flight_37 rfl ?_
          refine Ev.aload_n (pc := 38) dX10_flight_38 rfl ?_
          refine Ev.getR (pc := 39) dX10_flight_39 fl_RX10_7 lR_0 rfl ?_
          refine Ev.iconst (pc := 42) dX10_flight_42 (v := 0) (by decide) ?_
          refine Ev.ialdj (pc := 43) dX10_flight_43 (j := 0) lR_1 (by decide) (by decide) ?_
          refine Ev.icmp_ge (pc := 44) (tgt := 53) dX10_flight_44 (by decide) (fun c9 => ?_) (fun c9 => ?_)
          · have h := eF h c9
            refine Ev.aload_n (pc := 53) dX10_flight_53 rfl ?_
            refine Ev.getR (pc := 54) dX10_flight_54 fl_RX10_7 lR_0 rfl ?_
            refine Ev.bipush (pc := 57) dX10_flight_57 (v := 12) (by decide) ?_
            refine Ev.ialdj (pc := 59) dX10_flight_59 (j := 12) lR_1 (by decide) (by decide) ?_
            refine Ev.bipush (pc := 60) dX10_flight_60 (v := 30) (by decide) ?_
            refine Ev.icmp_ne (pc := 62) (tgt := 71) dX10_flight_62 (by decide) (fun c9 => ?_) (fun c9 => ?_)
            · have h := eF h c9
              refine Ev.sipush (pc := 71) dX10_flight_71 (v := 1128) (by decide) ?_
              refine Ev.iconst (pc := 74) dX10_flight_74 (v := 4) (by decide) ?_
              refine Ev.aload_n (pc := 75) dX10_flight_75 rfl ?_
              refine Ev.getR (pc := 76) dX10_flight_76 fl_RX10_7 lR_0 rfl ?_
              refine Ev.bipush (pc := 79) dX10_flight_79 (v := 12) (by decide) ?_
              refine Ev.ialdj (pc := 81) dX10_flight_81 (j := 12) lR_1 (by decide) (by decide) ?_
              refine Ev.imul (pc := 82) dX10_flight_82 ?_
              refine Ev.iadd (pc := 83) dX10_flight_83 ?_
              refine Ev.istore (pc := 84) dX10_flight_84 (by decide) rfl rfl ?_
              refine Ev.aload_n (pc := 86) dX10_flight_86 rfl ?_
              refine Ev.getR (pc := 87) dX10_flight_87 fl_RX10_7 lR_0 rfl ?_
              refine Ev.iload (pc := 90) dX10_flight_90 rfl ?_
              refine Ev.iload_n (pc := 92) dX10_flight_92 rfl ?_
              obtain ⟨g9, h⟩ := eGdB h
              refine Ev.iastj (pc := 93) dX10_flight_93 (j := (1128 + (4 * (M.1 1 12))).toNatClampNeg) lR_1 g9 rfl ?_
              refine Ev.aload_n (pc := 94) dX10_flight_94 rfl ?_
              refine Ev.getR (pc := 95) dX10_flight_95 fl_RX10_7 lR_0 rfl ?_
              refine Ev.iload (pc := 98) dX10_flight_98 rfl ?_
              refine Ev.iconst (pc := 100) dX10_flight_100 (v := 1) (by decide) ?_
              refine Ev.iadd (pc := 101) dX10_flight_101 ?_
              refine Ev.iload_n (pc := 102) dX10_flight_102 rfl ?_
              refine Ev.bipush (pc := 103) dX10_flight_103 (v := 10) (by decide) ?_
              refine Ev.idiv (pc := 105) dX10_flight_105 (by decide) ?_
              obtain ⟨g9, h⟩ := eGdB h
              refine Ev.iastj (pc := 106) dX10_flight_106 (j := ((1128 + (4 * (M.1 1 12))) + 1).toNatClampNeg) lR_1 g9 rfl ?_
              refine Ev.aload_n (pc := 107) dX10_flight_107 rfl ?_
              refine Ev.getR (pc := 108) dX10_flight_108 fl_RX10_7 lR_0 rfl ?_
              refine Ev.iload (pc := 111) dX10_flight_111 rfl ?_
              refine Ev.iconst (pc := 113) dX10_flight_113 (v := 2) (by decide) ?_
              refine Ev.iadd (pc := 114) dX10_flight_114 ?_
              refine Ev.iload_n (pc := 115) dX10_flight_115 rfl ?_
              refine Ev.bipush (pc := 116) dX10_flight_116 (v := 10) (by decide) ?_
              refine Ev.irem (pc := 118) dX10_flight_118 (by decide) ?_
              obtain ⟨g9, h⟩ := eGdB h
              refine Ev.iastj (pc := 119) dX10_flight_119 (j := ((1128 + (4 * (M.1 1 12))) + 2).toNatClampNeg) lR_1 g9 rfl ?_
              refine Ev.aload_n (pc := 120) dX10_flight_120 rfl ?_
              refine Ev.getR (pc := 121) dX10_flight_121 fl_RX10_7 lR_0 rfl ?_
              refine Ev.iload (pc := 124) dX10_flight_124 rfl ?_
              refine Ev.iconst (pc := 126) dX10_flight_126 (v := 3) (by decide) ?_
              refine Ev.iadd (pc := 127) dX10_flight_127 ?_
              refine Ev.iload_n (pc := 128) dX10_flight_128 rfl ?_
              obtain ⟨g9, h⟩ := eGdB h
              refine Ev.iastj (pc := 129) dX10_flight_129 (j := ((1128 + (4 * (M.1 1 12))) + 3).toNatClampNeg) lR_1 g9 rfl ?_
              refine Ev.aload_n (pc := 130) dX10_flight_130 rfl ?_
              refine Ev.getR (pc := 131) dX10_flight_131 fl_RX10_7 lR_0 rfl ?_
              refine Ev.bipush (pc := 134) dX10_flight_134 (v := 12) (by decide) ?_
              refine Ev.dup2 (pc := 136) dX10_flight_136 rfl rfl ?_
              refine Ev.ialdj (pc := 137) dX10_flight_137 (j := 12) lR_1 (by decide) (by decide) ?_
              refine Ev.iconst (pc := 138) dX10_flight_138 (v := 1) (by decide) ?_
              refine Ev.iadd (pc := 139) dX10_flight_139 ?_
              refine Ev.iastj (pc := 140) dX10_flight_140 (j := 12) lR_1 (by decide) (by decide) ?_
              refine Ev.aload_n (pc := 141) dX10_flight_141 rfl ?_
              refine Ev.getR (pc := 142) dX10_flight_142 fl_RX10_7 lR_0 rfl ?_
              refine Ev.bipush (pc := 145) dX10_flight_145 (v := 12) (by decide) ?_
              refine Ev.ialdv (pc := 147) dX10_flight_147 (v := (((eI (eI (eI (eI M 1 (1128 + (4 * (M.1 1 12))).toNatClampNeg x1) 1 ((1128 + (4 * (M.1 1 12))) + 1).toNatClampNeg (x2 / 10)) 1 ((1128 + (4 * (M.1 1 12))) + 2).toNatClampNeg (x2 - x2 / 10 * 10)) 1 ((1128 + (4 * (M.1 1 12))) + 3).toNatClampNeg x3).1 1 12) + 1)) (j := 12) lR_1 (by decide) (by decide) eI_e ?_
              refine Ev.iconst (pc := 148) dX10_flight_148 (v := 1) (by decide) ?_
              refine Ev.isub (pc := 149) dX10_flight_149 ?_
              obtain rfl := Option.some.inj h
              exact Ev.iret (pc := 150) dX10_flight_150 rfl rfl
            · have h := eT h c9
              refine Ev.aload_n (pc := 65) dX10_flight_65 rfl ?_
              refine Ev.iconst (pc := 66) dX10_flight_66 (v := 2) (by decide) ?_
              refine eBk h (fun q7 hq7 h => ?_)
              refine Ev.callV (pc := 67) (as := [.int 2]) (st := []) (z := 0) dX10_flight_67 wc_X10_finding ml_RX10_66 im_X10_finding se_X10_finding lR_0 rfl rfl (ev_X10_finding 2 M _ hq7) rfl rfl (by decide) rfl rfl (Nat.le_of_ble_eq_true rfl) ?_
              obtain rfl := Option.some.inj h
              exact Ev.iret (pc := 70) dX10_flight_70 rfl rfl
          · have h := eT h c9
            refine Ev.aload_n (pc := 47) dX10_flight_47 rfl ?_
            refine Ev.iconst (pc := 48) dX10_flight_48 (v := 5) (by decide) ?_
            refine eBk h (fun q8 hq8 h => ?_)
            refine Ev.callV (pc := 49) (as := [.int 5]) (st := []) (z := 0) dX10_flight_49 wc_X10_finding ml_RX10_66 im_X10_finding se_X10_finding lR_0 rfl rfl (ev_X10_finding 5 M _ hq8) rfl rfl (by decide) rfl rfl (Nat.le_of_ble_eq_true rfl) ?_
            obtain rfl := Option.some.inj h
            exact Ev.iret (pc := 52) dX10_flight_52 rfl rfl
        · have h := eT h c9
          refine Ev.aload_n (pc := 31) dX10_flight_31 rfl ?_
          refine Ev.iconst (pc := 32) dX10_flight_32 (v := 1) (by decide) ?_
          refine eBk h (fun q9 hq9 h => ?_)
          refine Ev.callV (pc := 33) (as := [.int 1]) (st := []) (z := 0) dX10_flight_33 wc_X10_finding ml_RX10_66 im_X10_finding se_X10_finding lR_0 rfl rfl (ev_X10_finding 1 M _ hq9) rfl rfl (by decide) rfl rfl (Nat.le_of_ble_eq_true rfl) ?_
          obtain rfl := Option.some.inj h
          exact Ev.iret (pc := 36) dX10_flight_36 rfl rfl
theorem dX2_addListener_0 : decode cX2_addListener 0 = .ok (.aload_n 0, 1) := by decide +kernel
theorem dX2_addListener_1 : decode cX2_addListener 1 = .ok (.getfield 35, 3) := by decide +kernel
theorem dX2_addListener_4 : decode cX2_addListener 4 = .ok (.bipush 30, 2) := by decide +kernel
theorem dX2_addListener_6 : decode cX2_addListener 6 = .ok (.invokestatic 31, 3) := by decide +kernel
theorem dX2_addListener_9 : decode cX2_addListener 9 = .ok (.ifCond .ne 5, 3) := by decide +kernel
theorem dX2_addListener_12 : decode cX2_addListener 12 = .ok (.iconst (-1), 1) := by decide +kernel
theorem dX2_addListener_13 : decode cX2_addListener 13 = .ok (.ireturn, 1) := by decide +kernel
theorem dX2_addListener_14 : decode cX2_addListener 14 = .ok (.aload_n 0, 1) := by decide +kernel
theorem dX2_addListener_15 : decode cX2_addListener 15 = .ok (.getfield 24, 3) := by decide +kernel
theorem dX2_addListener_18 : decode cX2_addListener 18 = .ok (.aload_n 0, 1) := by decide +kernel
theorem dX2_addListener_19 : decode cX2_addListener 19 = .ok (.getfield 35, 3) := by decide +kernel
theorem dX2_addListener_22 : decode cX2_addListener 22 = .ok (.iload_n 1, 1) := by decide +kernel
theorem dX2_addListener_23 : decode cX2_addListener 23 = .ok (.iastore, 1) := by decide +kernel
theorem dX2_addListener_24 : decode cX2_addListener 24 = .ok (.aload_n 0, 1) := by decide +kernel
theorem dX2_addListener_25 : decode cX2_addListener 25 = .ok (.dup, 1) := by decide +kernel
theorem dX2_addListener_26 : decode cX2_addListener 26 = .ok (.getfield 35, 3) := by decide +kernel
theorem dX2_addListener_29 : decode cX2_addListener 29 = .ok (.iconst 1, 1) := by decide +kernel
theorem dX2_addListener_30 : decode cX2_addListener 30 = .ok (.iadd, 1) := by decide +kernel
theorem dX2_addListener_31 : decode cX2_addListener 31 = .ok (.dup_x1, 1) := by decide +kernel
theorem dX2_addListener_32 : decode cX2_addListener 32 = .ok (.putfield 35, 3) := by decide +kernel
theorem dX2_addListener_35 : decode cX2_addListener 35 = .ok (.ireturn, 1) := by decide +kernel
def F_X2_addListener (x1 : Int32) (M : eMem) : Option (Int32 × eMem) :=
  (F_X9_isIn (M.1 23 6) 30).bind fun q1 =>
  if q1 = 0 then
    some ((-1), M)
  else
    eG (eIn (M.1 23 6) 30) <|
    some (((M.1 23 6) + 1), (eI (eI M 28 (M.1 23 6).toNatClampNeg x1) 23 6 ((M.1 23 6) + 1)))
set_option maxRecDepth 100000 in
set_option maxHeartbeats 4000000 in
theorem ev_X2_addListener (x1 : Int32) (M : eMem) (q : (Int32 × eMem)) (h : F_X2_addListener x1 M = some q) : Ev layC 1 m_X2_addListener 0 [some (.ref 23), some (.int x1)] [] M (some (.int q.1), q.2) := by
  rw [F_X2_addListener] at h
  refine Ev.aload_n (pc := 0) dX2_addListener_0 rfl ?_
  refine Ev.getI (pc := 1) dX2_addListener_1 fl_RX2_35 lC_23 rfl ?_
  refine Ev.bipush (pc := 4) dX2_addListener_4 (v := 30) (by decide) ?_
  refine eBk h (fun q1 hq1 h => ?_)
  refine Ev.callSN (host := "GhostCoast") (pc := 6) (as := [.int (M.1 23 6), .int 30]) (st := []) (z := 0) dX2_addListener_6 wc_X9_isIn mn_RX2_31 sm_X9_isIn (ev_X9_isIn (M.1 23 6) 30 M _ hq1) rfl rfl (by decide) rfl rfl (Nat.le_of_ble_eq_true rfl) ?_
  refine Ev.if_ne (pc := 9) (tgt := 14) dX2_addListener_9 (by decide) (fun c9 => ?_) (fun c9 => ?_)
  · have h := eF h c9
    refine Ev.aload_n (pc := 14) dX2_addListener_14 rfl ?_
    refine Ev.getR (pc := 15) dX2_addListener_15 fl_RX2_24 lC_23 rfl ?_
    refine Ev.aload_n (pc := 18) dX2_addListener_18 rfl ?_
    refine Ev.getI (pc := 19) dX2_addListener_19 fl_RX2_35 lC_23 rfl ?_
    refine Ev.iload_n (pc := 22) dX2_addListener_22 rfl ?_
    obtain ⟨g9, h⟩ := eGdB h
    refine Ev.iastj (pc := 23) dX2_addListener_23 (j := (M.1 23 6).toNatClampNeg) lC_28 g9 rfl ?_
    refine Ev.aload_n (pc := 24) dX2_addListener_24 rfl ?_
    refine Ev.dup (pc := 25) dX2_addListener_25 rfl ?_
    refine Ev.getIv (pc := 26) dX2_addListener_26 (v := (M.1 23 6)) fl_RX2_35 lC_23 rfl (eI_n (by decide)) ?_
    refine Ev.iconst (pc := 29) dX2_addListener_29 (v := 1) (by decide) ?_
    refine Ev.iadd (pc := 30) dX2_addListener_30 ?_
    refine Ev.dup_x1 (pc := 31) dX2_addListener_31 rfl rfl ?_
    refine Ev.putI (pc := 32) dX2_addListener_32 fp_RX2_35 lC_23 rfl rfl rfl ?_
    obtain rfl := Option.some.inj h
    exact Ev.iret (pc := 35) dX2_addListener_35 rfl rfl
  · have h := eT h c9
    refine Ev.iconst (pc := 12) dX2_addListener_12 (v := (-1)) (by decide) ?_
    obtain rfl := Option.some.inj h
    exact Ev.iret (pc := 13) dX2_addListener_13 rfl rfl
theorem dX9_listen_0 : decode cX9_listen 0 = .ok (.iload_n 1, 1) := by decide +kernel
theorem dX9_listen_1 : decode cX9_listen 1 = .ok (.iconst 0, 1) := by decide +kernel
theorem dX9_listen_2 : decode cX9_listen 2 = .ok (.sipush 1943, 3) := by decide +kernel
theorem dX9_listen_5 : decode cX9_listen 5 = .ok (.invokestatic 55, 3) := by decide +kernel
theorem dX9_listen_8 : decode cX9_listen 8 = .ok (.ifCond .ne 10, 3) := by decide +kernel
theorem dX9_listen_11 : decode cX9_listen 11 = .ok (.aload_n 0, 1) := by decide +kernel
theorem dX9_listen_12 : decode cX9_listen 12 = .ok (.ldc 41, 2) := by decide +kernel
theorem dX9_listen_14 : decode cX9_listen 14 = .ok (.invokevirtual 42, 3) := by decide +kernel
theorem dX9_listen_17 : decode cX9_listen 17 = .ok (.ireturn, 1) := by decide +kernel
theorem dX9_listen_18 : decode cX9_listen 18 = .ok (.iload_n 1, 1) := by decide +kernel
theorem dX9_listen_19 : decode cX9_listen 19 = .ok (.aload_n 0, 1) := by decide +kernel
theorem dX9_listen_20 : decode cX9_listen 20 = .ok (.getfield 12, 3) := by decide +kernel
theorem dX9_listen_23 : decode cX9_listen 23 = .ok (.getfield 46, 3) := by decide +kernel
theorem dX9_listen_26 : decode cX9_listen 26 = .ok (.getfield 99, 3) := by decide +kernel
theorem dX9_listen_29 : decode cX9_listen 29 = .ok (.if_icmp .ge 10, 3) := by decide +kernel
theorem dX9_listen_32 : decode cX9_listen 32 = .ok (.aload_n 0, 1) := by decide +kernel
theorem dX9_listen_33 : decode cX9_listen 33 = .ok (.ldc 82, 2) := by decide +kernel
theorem dX9_listen_35 : decode cX9_listen 35 = .ok (.invokevirtual 42, 3) := by decide +kernel
theorem dX9_listen_38 : decode cX9_listen 38 = .ok (.ireturn, 1) := by decide +kernel
theorem dX9_listen_39 : decode cX9_listen 39 = .ok (.aload_n 0, 1) := by decide +kernel
theorem dX9_listen_40 : decode cX9_listen 40 = .ok (.getfield 12, 3) := by decide +kernel
theorem dX9_listen_43 : decode cX9_listen 43 = .ok (.getfield 193, 3) := by decide +kernel
theorem dX9_listen_46 : decode cX9_listen 46 = .ok (.getfield 206, 3) := by decide +kernel
theorem dX9_listen_49 : decode cX9_listen 49 = .ok (.bipush 30, 2) := by decide +kernel
theorem dX9_listen_51 : decode cX9_listen 51 = .ok (.if_icmp .lt 10, 3) := by decide +kernel
theorem dX9_listen_54 : decode cX9_listen 54 = .ok (.aload_n 0, 1) := by decide +kernel
theorem dX9_listen_55 : decode cX9_listen 55 = .ok (.ldc 63, 2) := by decide +kernel
theorem dX9_listen_57 : decode cX9_listen 57 = .ok (.invokevirtual 42, 3) := by decide +kernel
theorem dX9_listen_60 : decode cX9_listen 60 = .ok (.ireturn, 1) := by decide +kernel
theorem dX9_listen_61 : decode cX9_listen 61 = .ok (.aload_n 0, 1) := by decide +kernel
theorem dX9_listen_62 : decode cX9_listen 62 = .ok (.getfield 12, 3) := by decide +kernel
theorem dX9_listen_65 : decode cX9_listen 65 = .ok (.getfield 193, 3) := by decide +kernel
theorem dX9_listen_68 : decode cX9_listen 68 = .ok (.iload_n 1, 1) := by decide +kernel
theorem dX9_listen_69 : decode cX9_listen 69 = .ok (.invokevirtual 209, 3) := by decide +kernel
theorem dX9_listen_72 : decode cX9_listen 72 = .ok (.ireturn, 1) := by decide +kernel
def F_X9_listen (x1 : Int32) (M : eMem) : Option (Int32 × eMem) :=
  (F_X9_isBetween x1 0 1943).bind fun q1 =>
  if q1 = 0 then
    (F_X9_found (-1000001) M).bind fun q5 =>
    some (q5.1, q5.2)
  else
    if x1 < (M.1 2 11) then
      (F_X9_found (-1000005) M).bind fun q4 =>
      some (q4.1, q4.2)
    else
      if (M.1 23 6) < 30 then
        (F_X2_addListener x1 M).bind fun q2 =>
        some (q2.1, q2.2)
      else
        (F_X9_found (-1000002) M).bind fun q3 =>
        some (q3.1, q3.2)
set_option maxRecDepth 100000 in
set_option maxHeartbeats 4000000 in
theorem ev_X9_listen (x1 : Int32) (M : eMem) (q : (Int32 × eMem)) (h : F_X9_listen x1 M = some q) : Ev layC 2 m_X9_listen 0 [some (.ref 0), some (.int x1)] [] M (some (.int q.1), q.2) := by
  rw [F_X9_listen] at h
  refine Ev.iload_n (pc := 0) dX9_listen_0 rfl ?_
  refine Ev.iconst (pc := 1) dX9_listen_1 (v := 0) (by decide) ?_
  refine Ev.sipush (pc := 2) dX9_listen_2 (v := 1943) (by decide) ?_
  refine eBk h (fun q1 hq1 h => ?_)
  refine Ev.callS (pc := 5) (as := [.int x1, .int 0, .int 1943]) (st := []) (z := 0) dX9_listen_5 wc_X9_isBetween ml_RX9_55 sm_X9_isBetween (ev_X9_isBetween x1 0 1943 M _ hq1) rfl rfl (by decide) rfl rfl (Nat.le_of_ble_eq_true rfl) ?_
  refine Ev.if_ne (pc := 8) (tgt := 18) dX9_listen_8 (by decide) (fun c9 => ?_) (fun c9 => ?_)
  · have h := eF h c9
    refine Ev.iload_n (pc := 18) dX9_listen_18 rfl ?_
    refine Ev.aload_n (pc := 19) dX9_listen_19 rfl ?_
    refine Ev.getR (pc := 20) dX9_listen_20 fl_RX9_12 lC_0 rfl ?_
    refine Ev.getR (pc := 23) dX9_listen_23 fl_RX9_46 lC_1 rfl ?_
    refine Ev.getI (pc := 26) dX9_listen_26 fl_RX9_99 lC_2 rfl ?_
    refine Ev.icmp_ge (pc := 29) (tgt := 39) dX9_listen_29 (by decide) (fun c9 => ?_) (fun c9 => ?_)
    · have h := eF h c9
      refine Ev.aload_n (pc := 39) dX9_listen_39 rfl ?_
      refine Ev.getR (pc := 40) dX9_listen_40 fl_RX9_12 lC_0 rfl ?_
      refine Ev.getR (pc := 43) dX9_listen_43 fl_RX9_193 lC_1 rfl ?_
      refine Ev.getI (pc := 46) dX9_listen_46 fl_RX9_206 lC_23 rfl ?_
      refine Ev.bipush (pc := 49) dX9_listen_49 (v := 30) (by decide) ?_
      refine Ev.icmp_lt (pc := 51) (tgt := 61) dX9_listen_51 (by decide) (fun c9 => ?_) (fun c9 => ?_)
      · have h := eT h c9
        refine Ev.aload_n (pc := 61) dX9_listen_61 rfl ?_
        refine Ev.getR (pc := 62) dX9_listen_62 fl_RX9_12 lC_0 rfl ?_
        refine Ev.getR (pc := 65) dX9_listen_65 fl_RX9_193 lC_1 rfl ?_
        refine Ev.iload_n (pc := 68) dX9_listen_68 rfl ?_
        refine eBk h (fun q2 hq2 h => ?_)
        refine Ev.callV (pc := 69) (as := [.int x1]) (st := []) (z := 0) dX9_listen_69 wc_X2_addListener ml_RX9_209 im_X2_addListener se_X2_addListener lC_23 rfl rfl (ev_X2_addListener x1 M _ hq2) rfl rfl (by decide) rfl rfl (Nat.le_of_ble_eq_true rfl) ?_
        obtain rfl := Option.some.inj h
        exact Ev.iret (pc := 72) dX9_listen_72 rfl rfl
      · have h := eF h c9
        refine Ev.aload_n (pc := 54) dX9_listen_54 rfl ?_
        refine Ev.ldc (pc := 55) dX9_listen_55 ld_RX9_63 ?_
        refine eBk h (fun q3 hq3 h => ?_)
        refine Ev.callV (pc := 57) (as := [.int (-1000002)]) (st := []) (z := 1) dX9_listen_57 wc_X9_found ml_RX9_42 im_X9_found se_X9_found lC_0 rfl rfl (ev_X9_found (-1000002) M _ hq3) rfl rfl (by decide) rfl rfl (Nat.le_of_ble_eq_true rfl) ?_
        obtain rfl := Option.some.inj h
        exact Ev.iret (pc := 60) dX9_listen_60 rfl rfl
    · have h := eT h c9
      refine Ev.aload_n (pc := 32) dX9_listen_32 rfl ?_
      refine Ev.ldc (pc := 33) dX9_listen_33 ld_RX9_82 ?_
      refine eBk h (fun q4 hq4 h => ?_)
      refine Ev.callV (pc := 35) (as := [.int (-1000005)]) (st := []) (z := 1) dX9_listen_35 wc_X9_found ml_RX9_42 im_X9_found se_X9_found lC_0 rfl rfl (ev_X9_found (-1000005) M _ hq4) rfl rfl (by decide) rfl rfl (Nat.le_of_ble_eq_true rfl) ?_
      obtain rfl := Option.some.inj h
      exact Ev.iret (pc := 38) dX9_listen_38 rfl rfl
  · have h := eT h c9
    refine Ev.aload_n (pc := 11) dX9_listen_11 rfl ?_
    refine Ev.ldc (pc := 12) dX9_listen_12 ld_RX9_41 ?_
    refine eBk h (fun q5 hq5 h => ?_)
    refine Ev.callV (pc := 14) (as := [.int (-1000001)]) (st := []) (z := 1) dX9_listen_14 wc_X9_found ml_RX9_42 im_X9_found se_X9_found lC_0 rfl rfl (ev_X9_found (-1000001) M _ hq5) rfl rfl (by decide) rfl rfl (Nat.le_of_ble_eq_true rfl) ?_
    obtain rfl := Option.some.inj h
    exact Ev.iret (pc := 17) dX9_listen_17 rfl rfl
theorem dX10_listen_0 : decode cX10_listen 0 = .ok (.iload_n 1, 1) := by decide +kernel
theorem dX10_listen_1 : decode cX10_listen 1 = .ok (.invokestatic 127, 3) := by decide +kernel
theorem dX10_listen_4 : decode cX10_listen 4 = .ok (.ifCond .ne 9, 3) := by decide +kernel
theorem dX10_listen_7 : decode cX10_listen 7 = .ok (.aload_n 0, 1) := by decide +kernel
theorem dX10_listen_8 : decode cX10_listen 8 = .ok (.iconst 1, 1) := by decide +kernel
theorem dX10_listen_9 : decode cX10_listen 9 = .ok (.invokevirtual 66, 3) := by decide +kernel
theorem dX10_listen_12 : decode cX10_listen 12 = .ok (.ireturn, 1) := by decide +kernel
theorem dX10_listen_13 : decode cX10_listen 13 = .ok (.iload_n 1, 1) := by decide +kernel
theorem dX10_listen_14 : decode cX10_listen 14 = .ok (.aload_n 0, 1) := by decide +kernel
theorem dX10_listen_15 : decode cX10_listen 15 = .ok (.getfield 7, 3) := by decide +kernel
theorem dX10_listen_18 : decode cX10_listen 18 = .ok (.iconst 0, 1) := by decide +kernel
theorem dX10_listen_19 : decode cX10_listen 19 = .ok (.iaload, 1) := by decide +kernel
theorem dX10_listen_20 : decode cX10_listen 20 = .ok (.if_icmp .ge 9, 3) := by decide +kernel
theorem dX10_listen_23 : decode cX10_listen 23 = .ok (.aload_n 0, 1) := by decide +kernel
theorem dX10_listen_24 : decode cX10_listen 24 = .ok (.iconst 5, 1) := by decide +kernel
theorem dX10_listen_25 : decode cX10_listen 25 = .ok (.invokevirtual 66, 3) := by decide +kernel
theorem dX10_listen_28 : decode cX10_listen 28 = .ok (.ireturn, 1) := by decide +kernel
theorem dX10_listen_29 : decode cX10_listen 29 = .ok (.aload_n 0, 1) := by decide +kernel
theorem dX10_listen_30 : decode cX10_listen 30 = .ok (.getfield 7, 3) := by decide +kernel
theorem dX10_listen_33 : decode cX10_listen 33 = .ok (.bipush 13, 2) := by decide +kernel
theorem dX10_listen_35 : decode cX10_listen 35 = .ok (.iaload, 1) := by decide +kernel
theorem dX10_listen_36 : decode cX10_listen 36 = .ok (.bipush 30, 2) := by decide +kernel
theorem dX10_listen_38 : decode cX10_listen 38 = .ok (.if_icmp .ne 9, 3) := by decide +kernel
theorem dX10_listen_41 : decode cX10_listen 41 = .ok (.aload_n 0, 1) := by decide +kernel
theorem dX10_listen_42 : decode cX10_listen 42 = .ok (.iconst 2, 1) := by decide +kernel
theorem dX10_listen_43 : decode cX10_listen 43 = .ok (.invokevirtual 66, 3) := by decide +kernel
theorem dX10_listen_46 : decode cX10_listen 46 = .ok (.ireturn, 1) := by decide +kernel
theorem dX10_listen_47 : decode cX10_listen 47 = .ok (.aload_n 0, 1) := by decide +kernel
theorem dX10_listen_48 : decode cX10_listen 48 = .ok (.getfield 7, 3) := by decide +kernel
theorem dX10_listen_51 : decode cX10_listen 51 = .ok (.sipush 1248, 3) := by decide +kernel
theorem dX10_listen_54 : decode cX10_listen 54 = .ok (.aload_n 0, 1) := by decide +kernel
theorem dX10_listen_55 : decode cX10_listen 55 = .ok (.getfield 7, 3) := by decide +kernel
theorem dX10_listen_58 : decode cX10_listen 58 = .ok (.bipush 13, 2) := by decide +kernel
theorem dX10_listen_60 : decode cX10_listen 60 = .ok (.iaload, 1) := by decide +kernel
theorem dX10_listen_61 : decode cX10_listen 61 = .ok (.iadd, 1) := by decide +kernel
theorem dX10_listen_62 : decode cX10_listen 62 = .ok (.iload_n 1, 1) := by decide +kernel
theorem dX10_listen_63 : decode cX10_listen 63 = .ok (.iastore, 1) := by decide +kernel
theorem dX10_listen_64 : decode cX10_listen 64 = .ok (.aload_n 0, 1) := by decide +kernel
theorem dX10_listen_65 : decode cX10_listen 65 = .ok (.getfield 7, 3) := by decide +kernel
theorem dX10_listen_68 : decode cX10_listen 68 = .ok (.bipush 13, 2) := by decide +kernel
theorem dX10_listen_70 : decode cX10_listen 70 = .ok (.dup2, 1) := by decide +kernel
theorem dX10_listen_71 : decode cX10_listen 71 = .ok (.iaload, 1) := by decide +kernel
theorem dX10_listen_72 : decode cX10_listen 72 = .ok (.iconst 1, 1) := by decide +kernel
theorem dX10_listen_73 : decode cX10_listen 73 = .ok (.iadd, 1) := by decide +kernel
theorem dX10_listen_74 : decode cX10_listen 74 = .ok (.iastore, 1) := by decide +kernel
theorem dX10_listen_75 : decode cX10_listen 75 = .ok (.aload_n 0, 1) := by decide +kernel
theorem dX10_listen_76 : decode cX10_listen 76 = .ok (.getfield 7, 3) := by decide +kernel
theorem dX10_listen_79 : decode cX10_listen 79 = .ok (.bipush 13, 2) := by decide +kernel
theorem dX10_listen_81 : decode cX10_listen 81 = .ok (.iaload, 1) := by decide +kernel
theorem dX10_listen_82 : decode cX10_listen 82 = .ok (.ireturn, 1) := by decide +kernel
def F_X10_listen (x1 : Int32) (M : eMem) : Option (Int32 × eMem) :=
  (F_X10_isHour x1).bind fun q1 =>
  if q1 = 0 then
    (F_X10_finding 1 M).bind fun q4 =>
    some (q4.1, q4.2)
  else
    if x1 < (M.1 1 0) then
      (F_X10_finding 5 M).bind fun q3 =>
      some (q3.1, q3.2)
    else
      if (M.1 1 13) = 30 then
        (F_X10_finding 2 M).bind fun q2 =>
        some (q2.1, q2.2)
      else
        eG (eIn (1248 + (M.1 1 13)) 2900) <|
        some ((((eI M 1 (1248 + (M.1 1 13)).toNatClampNeg x1).1 1 13) + 1), (eI (eI M 1 (1248 + (M.1 1 13)).toNatClampNeg x1) 1 13 (((eI M 1 (1248 + (M.1 1 13)).toNatClampNeg x1).1 1 13) + 1)))
set_option maxRecDepth 100000 in
set_option maxHeartbeats 4000000 in
theorem ev_X10_listen (x1 : Int32) (M : eMem) (q : (Int32 × eMem)) (h : F_X10_listen x1 M = some q) : Ev layR 2 m_X10_listen 0 [some (.ref 0), some (.int x1)] [] M (some (.int q.1), q.2) := by
  rw [F_X10_listen] at h
  refine Ev.iload_n (pc := 0) dX10_listen_0 rfl ?_
  refine eBk h (fun q1 hq1 h => ?_)
  refine Ev.callS (pc := 1) (as := [.int x1]) (st := []) (z := 0) dX10_listen_1 wc_X10_isHour ml_RX10_127 sm_X10_isHour (ev_X10_isHour x1 M _ hq1) rfl rfl (by decide) rfl rfl (Nat.le_of_ble_eq_true rfl) ?_
  refine Ev.if_ne (pc := 4) (tgt := 13) dX10_listen_4 (by decide) (fun c9 => ?_) (fun c9 => ?_)
  · have h := eF h c9
    refine Ev.iload_n (pc := 13) dX10_listen_13 rfl ?_
    refine Ev.aload_n (pc := 14) dX10_listen_14 rfl ?_
    refine Ev.getR (pc := 15) dX10_listen_15 fl_RX10_7 lR_0 rfl ?_
    refine Ev.iconst (pc := 18) dX10_listen_18 (v := 0) (by decide) ?_
    refine Ev.ialdj (pc := 19) dX10_listen_19 (j := 0) lR_1 (by decide) (by decide) ?_
    refine Ev.icmp_ge (pc := 20) (tgt := 29) dX10_listen_20 (by decide) (fun c9 => ?_) (fun c9 => ?_)
    · have h := eF h c9
      refine Ev.aload_n (pc := 29) dX10_listen_29 rfl ?_
      refine Ev.getR (pc := 30) dX10_listen_30 fl_RX10_7 lR_0 rfl ?_
      refine Ev.bipush (pc := 33) dX10_listen_33 (v := 13) (by decide) ?_
      refine Ev.ialdj (pc := 35) dX10_listen_35 (j := 13) lR_1 (by decide) (by decide) ?_
      refine Ev.bipush (pc := 36) dX10_listen_36 (v := 30) (by decide) ?_
      refine Ev.icmp_ne (pc := 38) (tgt := 47) dX10_listen_38 (by decide) (fun c9 => ?_) (fun c9 => ?_)
      · have h := eF h c9
        refine Ev.aload_n (pc := 47) dX10_listen_47 rfl ?_
        refine Ev.getR (pc := 48) dX10_listen_48 fl_RX10_7 lR_0 rfl ?_
        refine Ev.sipush (pc := 51) dX10_listen_51 (v := 1248) (by decide) ?_
        refine Ev.aload_n (pc := 54) dX10_listen_54 rfl ?_
        refine Ev.getR (pc := 55) dX10_listen_55 fl_RX10_7 lR_0 rfl ?_
        refine Ev.bipush (pc := 58) dX10_listen_58 (v := 13) (by decide) ?_
        refine Ev.ialdj (pc := 60) dX10_listen_60 (j := 13) lR_1 (by decide) (by decide) ?_
        refine Ev.iadd (pc := 61) dX10_listen_61 ?_
        refine Ev.iload_n (pc := 62) dX10_listen_62 rfl ?_
        obtain ⟨g9, h⟩ := eGdB h
        refine Ev.iastj (pc := 63) dX10_listen_63 (j := (1248 + (M.1 1 13)).toNatClampNeg) lR_1 g9 rfl ?_
        refine Ev.aload_n (pc := 64) dX10_listen_64 rfl ?_
        refine Ev.getR (pc := 65) dX10_listen_65 fl_RX10_7 lR_0 rfl ?_
        refine Ev.bipush (pc := 68) dX10_listen_68 (v := 13) (by decide) ?_
        refine Ev.dup2 (pc := 70) dX10_listen_70 rfl rfl ?_
        refine Ev.ialdj (pc := 71) dX10_listen_71 (j := 13) lR_1 (by decide) (by decide) ?_
        refine Ev.iconst (pc := 72) dX10_listen_72 (v := 1) (by decide) ?_
        refine Ev.iadd (pc := 73) dX10_listen_73 ?_
        refine Ev.iastj (pc := 74) dX10_listen_74 (j := 13) lR_1 (by decide) (by decide) ?_
        refine Ev.aload_n (pc := 75) dX10_listen_75 rfl ?_
        refine Ev.getR (pc := 76) dX10_listen_76 fl_RX10_7 lR_0 rfl ?_
        refine Ev.bipush (pc := 79) dX10_listen_79 (v := 13) (by decide) ?_
        refine Ev.ialdv (pc := 81) dX10_listen_81 (v := (((eI M 1 (1248 + (M.1 1 13)).toNatClampNeg x1).1 1 13) + 1)) (j := 13) lR_1 (by decide) (by decide) eI_e ?_
        obtain rfl := Option.some.inj h
        exact Ev.iret (pc := 82) dX10_listen_82 rfl rfl
      · have h := eT h c9
        refine Ev.aload_n (pc := 41) dX10_listen_41 rfl ?_
        refine Ev.iconst (pc := 42) dX10_listen_42 (v := 2) (by decide) ?_
        refine eBk h (fun q2 hq2 h => ?_)
        refine Ev.callV (pc := 43) (as := [.int 2]) (st := []) (z := 0) dX10_listen_43 wc_X10_finding ml_RX10_66 im_X10_finding se_X10_finding lR_0 rfl rfl (ev_X10_finding 2 M _ hq2) rfl rfl (by decide) rfl rfl (Nat.le_of_ble_eq_true rfl) ?_
        obtain rfl := Option.some.inj h
        exact Ev.iret (pc := 46) dX10_listen_46 rfl rfl
    · have h := eT h c9
      refine Ev.aload_n (pc := 23) dX10_listen_23 rfl ?_
      refine Ev.iconst (pc := 24) dX10_listen_24 (v := 5) (by decide) ?_
      refine eBk h (fun q3 hq3 h => ?_)
      refine Ev.callV (pc := 25) (as := [.int 5]) (st := []) (z := 0) dX10_listen_25 wc_X10_finding ml_RX10_66 im_X10_finding se_X10_finding lR_0 rfl rfl (ev_X10_finding 5 M _ hq3) rfl rfl (by decide) rfl rfl (Nat.le_of_ble_eq_true rfl) ?_
      obtain rfl := Option.some.inj h
      exact Ev.iret (pc := 28) dX10_listen_28 rfl rfl
  · have h := eT h c9
    refine Ev.aload_n (pc := 7) dX10_listen_7 rfl ?_
    refine Ev.iconst (pc := 8) dX10_listen_8 (v := 1) (by decide) ?_
    refine eBk h (fun q4 hq4 h => ?_)
    refine Ev.callV (pc := 9) (as := [.int 1]) (st := []) (z := 0) dX10_listen_9 wc_X10_finding ml_RX10_66 im_X10_finding se_X10_finding lR_0 rfl rfl (ev_X10_finding 1 M _ hq4) rfl rfl (by decide) rfl rfl (Nat.le_of_ble_eq_true rfl) ?_
    obtain rfl := Option.some.inj h
    exact Ev.iret (pc := 12) dX10_listen_12 rfl rfl
theorem dX1_room_0 : decode cX1_room 0 = .ok (.bipush 90, 2) := by decide +kernel
theorem dX1_room_2 : decode cX1_room 2 = .ok (.aload_n 0, 1) := by decide +kernel
theorem dX1_room_3 : decode cX1_room 3 = .ok (.getfield 48, 3) := by decide +kernel
theorem dX1_room_6 : decode cX1_room 6 = .ok (.isub, 1) := by decide +kernel
theorem dX1_room_7 : decode cX1_room 7 = .ok (.ireturn, 1) := by decide +kernel
def F_X1_room  (M : eMem) : Option Int32 :=
  some (90 - (M.1 29 7))
set_option maxRecDepth 100000 in
set_option maxHeartbeats 4000000 in
theorem ev_X1_room  (M : eMem) (q : Int32) (h : F_X1_room  M = some q) : Ev layC 0 m_X1_room 0 [some (.ref 29)] [] M (some (.int q), M) := by
  rw [F_X1_room] at h
  refine Ev.bipush (pc := 0) dX1_room_0 (v := 90) (by decide) ?_
  refine Ev.aload_n (pc := 2) dX1_room_2 rfl ?_
  refine Ev.getI (pc := 3) dX1_room_3 fl_RX1_48 lC_29 rfl ?_
  refine Ev.isub (pc := 6) dX1_room_6 ?_
  obtain rfl := Option.some.inj h
  exact Ev.iret (pc := 7) dX1_room_7 rfl rfl
theorem dX1_add_0 : decode cX1_add 0 = .ok (.aload_n 0, 1) := by decide +kernel
theorem dX1_add_1 : decode cX1_add 1 = .ok (.getfield 48, 3) := by decide +kernel
theorem dX1_add_4 : decode cX1_add 4 = .ok (.bipush 90, 2) := by decide +kernel
theorem dX1_add_6 : decode cX1_add 6 = .ok (.invokestatic 51, 3) := by decide +kernel
theorem dX1_add_9 : decode cX1_add 9 = .ok (.ifCond .ne 4, 3) := by decide +kernel
theorem dX1_add_12 : decode cX1_add 12 = .ok (.return_, 1) := by decide +kernel
theorem dX1_add_13 : decode cX1_add 13 = .ok (.aload_n 0, 1) := by decide +kernel
theorem dX1_add_14 : decode cX1_add 14 = .ok (.getfield 9, 3) := by decide +kernel
theorem dX1_add_17 : decode cX1_add 17 = .ok (.aload_n 0, 1) := by decide +kernel
theorem dX1_add_18 : decode cX1_add 18 = .ok (.getfield 48, 3) := by decide +kernel
theorem dX1_add_21 : decode cX1_add 21 = .ok (.iload_n 1, 1) := by decide +kernel
theorem dX1_add_22 : decode cX1_add 22 = .ok (.iastore, 1) := by decide +kernel
theorem dX1_add_23 : decode cX1_add 23 = .ok (.aload_n 0, 1) := by decide +kernel
theorem dX1_add_24 : decode cX1_add 24 = .ok (.getfield 15, 3) := by decide +kernel
theorem dX1_add_27 : decode cX1_add 27 = .ok (.aload_n 0, 1) := by decide +kernel
theorem dX1_add_28 : decode cX1_add 28 = .ok (.getfield 48, 3) := by decide +kernel
theorem dX1_add_31 : decode cX1_add 31 = .ok (.iload_n 2, 1) := by decide +kernel
theorem dX1_add_32 : decode cX1_add 32 = .ok (.iastore, 1) := by decide +kernel
theorem dX1_add_33 : decode cX1_add 33 = .ok (.aload_n 0, 1) := by decide +kernel
theorem dX1_add_34 : decode cX1_add 34 = .ok (.getfield 18, 3) := by decide +kernel
theorem dX1_add_37 : decode cX1_add 37 = .ok (.aload_n 0, 1) := by decide +kernel
theorem dX1_add_38 : decode cX1_add 38 = .ok (.getfield 48, 3) := by decide +kernel
theorem dX1_add_41 : decode cX1_add 41 = .ok (.iload_n 3, 1) := by decide +kernel
theorem dX1_add_42 : decode cX1_add 42 = .ok (.bastore, 1) := by decide +kernel
theorem dX1_add_43 : decode cX1_add 43 = .ok (.aload_n 0, 1) := by decide +kernel
theorem dX1_add_44 : decode cX1_add 44 = .ok (.getfield 22, 3) := by decide +kernel
theorem dX1_add_47 : decode cX1_add 47 = .ok (.aload_n 0, 1) := by decide +kernel
theorem dX1_add_48 : decode cX1_add 48 = .ok (.getfield 48, 3) := by decide +kernel
theorem dX1_add_51 : decode cX1_add 51 = .ok (.iload 4, 2) := by decide +kernel
theorem dX1_add_53 : decode cX1_add 53 = .ok (.iastore, 1) := by decide +kernel
theorem dX1_add_54 : decode cX1_add 54 = .ok (.aload_n 0, 1) := by decide +kernel
theorem dX1_add_55 : decode cX1_add 55 = .ok (.getfield 25, 3) := by decide +kernel
theorem dX1_add_58 : decode cX1_add 58 = .ok (.aload_n 0, 1) := by decide +kernel
theorem dX1_add_59 : decode cX1_add 59 = .ok (.getfield 48, 3) := by decide +kernel
theorem dX1_add_62 : decode cX1_add 62 = .ok (.iload 5, 2) := by decide +kernel
theorem dX1_add_64 : decode cX1_add 64 = .ok (.iastore, 1) := by decide +kernel
theorem dX1_add_65 : decode cX1_add 65 = .ok (.aload_n 0, 1) := by decide +kernel
theorem dX1_add_66 : decode cX1_add 66 = .ok (.getfield 28, 3) := by decide +kernel
theorem dX1_add_69 : decode cX1_add 69 = .ok (.aload_n 0, 1) := by decide +kernel
theorem dX1_add_70 : decode cX1_add 70 = .ok (.getfield 48, 3) := by decide +kernel
theorem dX1_add_73 : decode cX1_add 73 = .ok (.iload 6, 2) := by decide +kernel
theorem dX1_add_75 : decode cX1_add 75 = .ok (.iastore, 1) := by decide +kernel
theorem dX1_add_76 : decode cX1_add 76 = .ok (.aload_n 0, 1) := by decide +kernel
theorem dX1_add_77 : decode cX1_add 77 = .ok (.getfield 31, 3) := by decide +kernel
theorem dX1_add_80 : decode cX1_add 80 = .ok (.aload_n 0, 1) := by decide +kernel
theorem dX1_add_81 : decode cX1_add 81 = .ok (.getfield 48, 3) := by decide +kernel
theorem dX1_add_84 : decode cX1_add 84 = .ok (.iconst 0, 1) := by decide +kernel
theorem dX1_add_85 : decode cX1_add 85 = .ok (.bastore, 1) := by decide +kernel
theorem dX1_add_86 : decode cX1_add 86 = .ok (.aload_n 0, 1) := by decide +kernel
theorem dX1_add_87 : decode cX1_add 87 = .ok (.dup, 1) := by decide +kernel
theorem dX1_add_88 : decode cX1_add 88 = .ok (.getfield 48, 3) := by decide +kernel
theorem dX1_add_91 : decode cX1_add 91 = .ok (.iconst 1, 1) := by decide +kernel
theorem dX1_add_92 : decode cX1_add 92 = .ok (.iadd, 1) := by decide +kernel
theorem dX1_add_93 : decode cX1_add 93 = .ok (.putfield 48, 3) := by decide +kernel
theorem dX1_add_96 : decode cX1_add 96 = .ok (.return_, 1) := by decide +kernel
def F_X1_add (x1 : Int32) (x2 : Int32) (x3 : Int32) (x4 : Int32) (x5 : Int32) (x6 : Int32) (M : eMem) : Option eMem :=
  (F_X9_isIn (M.1 29 7) 90).bind fun q1 =>
  if q1 = 0 then
    some M
  else
    eG (eIn (M.1 29 7) 90) <|
    eG (eIn (M.1 29 7) 90) <|
    eG (eIn (M.1 29 7) 90) <|
    eG (eIn (M.1 29 7) 90) <|
    eG (eIn (M.1 29 7) 90) <|
    eG (eIn (M.1 29 7) 90) <|
    eG (eIn (M.1 29 7) 90) <|
    some (eI (eI (eI (eI (eI (eI (eI (eI M 30 (M.1 29 7).toNatClampNeg x1) 31 (M.1 29 7).toNatClampNeg x2) 32 (M.1 29 7).toNatClampNeg (vp_nar .boolean x3)) 33 (M.1 29 7).toNatClampNeg x4) 34 (M.1 29 7).toNatClampNeg x5) 35 (M.1 29 7).toNatClampNeg x6) 36 (M.1 29 7).toNatClampNeg (vp_nar .boolean 0)) 29 7 ((M.1 29 7) + 1))
set_option maxRecDepth 100000 in
set_option maxHeartbeats 4000000 in
theorem ev_X1_add (x1 : Int32) (x2 : Int32) (x3 : Int32) (x4 : Int32) (x5 : Int32) (x6 : Int32) (M : eMem) (q : eMem) (h : F_X1_add x1 x2 x3 x4 x5 x6 M = some q) : Ev layC 1 m_X1_add 0 [some (.ref 29), some (.int x1), some (.int x2), some (.int x3), some (.int x4), some (.int x5), some (.int x6)] [] M (none, q) := by
  rw [F_X1_add] at h
  refine Ev.aload_n (pc := 0) dX1_add_0 rfl ?_
  refine Ev.getI (pc := 1) dX1_add_1 fl_RX1_48 lC_29 rfl ?_
  refine Ev.bipush (pc := 4) dX1_add_4 (v := 90) (by decide) ?_
  refine eBk h (fun q1 hq1 h => ?_)
  refine Ev.callSN (host := "GhostCoast") (pc := 6) (as := [.int (M.1 29 7), .int 90]) (st := []) (z := 0) dX1_add_6 wc_X9_isIn mn_RX1_51 sm_X9_isIn (ev_X9_isIn (M.1 29 7) 90 M _ hq1) rfl rfl (by decide) rfl rfl (Nat.le_of_ble_eq_true rfl) ?_
  refine Ev.if_ne (pc := 9) (tgt := 13) dX1_add_9 (by decide) (fun c9 => ?_) (fun c9 => ?_)
  · have h := eF h c9
    refine Ev.aload_n (pc := 13) dX1_add_13 rfl ?_
    refine Ev.getR (pc := 14) dX1_add_14 fl_RX1_9 lC_29 rfl ?_
    refine Ev.aload_n (pc := 17) dX1_add_17 rfl ?_
    refine Ev.getI (pc := 18) dX1_add_18 fl_RX1_48 lC_29 rfl ?_
    refine Ev.iload_n (pc := 21) dX1_add_21 rfl ?_
    obtain ⟨g9, h⟩ := eGdB h
    refine Ev.iastj (pc := 22) dX1_add_22 (j := (M.1 29 7).toNatClampNeg) lC_30 g9 rfl ?_
    refine Ev.aload_n (pc := 23) dX1_add_23 rfl ?_
    refine Ev.getR (pc := 24) dX1_add_24 fl_RX1_15 lC_29 rfl ?_
    refine Ev.aload_n (pc := 27) dX1_add_27 rfl ?_
    refine Ev.getIv (pc := 28) dX1_add_28 (v := (M.1 29 7)) fl_RX1_48 lC_29 rfl (eI_n (by decide)) ?_
    refine Ev.iload_n (pc := 31) dX1_add_31 rfl ?_
    obtain ⟨g9, h⟩ := eGdB h
    refine Ev.iastj (pc := 32) dX1_add_32 (j := (M.1 29 7).toNatClampNeg) lC_31 g9 rfl ?_
    refine Ev.aload_n (pc := 33) dX1_add_33 rfl ?_
    refine Ev.getR (pc := 34) dX1_add_34 fl_RX1_18 lC_29 rfl ?_
    refine Ev.aload_n (pc := 37) dX1_add_37 rfl ?_
    refine Ev.getIv (pc := 38) dX1_add_38 (v := (M.1 29 7)) fl_RX1_48 lC_29 rfl ((eI_n (by decide)).trans (eI_n (by decide))) ?_
    refine Ev.iload_n (pc := 41) dX1_add_41 rfl ?_
    obtain ⟨g9, h⟩ := eGdB h
    refine Ev.zastj (pc := 42) dX1_add_42 (j := (M.1 29 7).toNatClampNeg) lC_32 g9 rfl ?_
    refine Ev.aload_n (pc := 43) dX1_add_43 rfl ?_
    refine Ev.getR (pc := 44) dX1_add_44 fl_RX1_22 lC_29 rfl ?_
    refine Ev.aload_n (pc := 47) dX1_add_47 rfl ?_
    refine Ev.getIv (pc := 48) dX1_add_48 (v := (M.1 29 7)) fl_RX1_48 lC_29 rfl ((eI_n (by decide)).trans ((eI_n (by decide)).trans (eI_n (by decide)))) ?_
    refine Ev.iload (pc := 51) dX1_add_51 rfl ?_
    obtain ⟨g9, h⟩ := eGdB h
    refine Ev.iastj (pc := 53) dX1_add_53 (j := (M.1 29 7).toNatClampNeg) lC_33 g9 rfl ?_
    refine Ev.aload_n (pc := 54) dX1_add_54 rfl ?_
    refine Ev.getR (pc := 55) dX1_add_55 fl_RX1_25 lC_29 rfl ?_
    refine Ev.aload_n (pc := 58) dX1_add_58 rfl ?_
    refine Ev.getIv (pc := 59) dX1_add_59 (v := (M.1 29 7)) fl_RX1_48 lC_29 rfl ((eI_n (by decide)).trans ((eI_n (by decide)).trans ((eI_n (by decide)).trans (eI_n (by decide))))) ?_
    refine Ev.iload (pc := 62) dX1_add_62 rfl ?_
    obtain ⟨g9, h⟩ := eGdB h
    refine Ev.iastj (pc := 64) dX1_add_64 (j := (M.1 29 7).toNatClampNeg) lC_34 g9 rfl ?_
    refine Ev.aload_n (pc := 65) dX1_add_65 rfl ?_
    refine Ev.getR (pc := 66) dX1_add_66 fl_RX1_28 lC_29 rfl ?_
    refine Ev.aload_n (pc := 69) dX1_add_69 rfl ?_
    refine Ev.getIv (pc := 70) dX1_add_70 (v := (M.1 29 7)) fl_RX1_48 lC_29 rfl ((eI_n (by decide)).trans ((eI_n (by decide)).trans ((eI_n (by decide)).trans ((eI_n (by decide)).trans (eI_n (by decide)))))) ?_
    refine Ev.iload (pc := 73) dX1_add_73 rfl ?_
    obtain ⟨g9, h⟩ := eGdB h
    refine Ev.iastj (pc := 75) dX1_add_75 (j := (M.1 29 7).toNatClampNeg) lC_35 g9 rfl ?_
    refine Ev.aload_n (pc := 76) dX1_add_76 rfl ?_
    refine Ev.getR (pc := 77) dX1_add_77 fl_RX1_31 lC_29 rfl ?_
    refine Ev.aload_n (pc := 80) dX1_add_80 rfl ?_
    refine Ev.getIv (pc := 81) dX1_add_81 (v := (M.1 29 7)) fl_RX1_48 lC_29 rfl ((eI_n (by decide)).trans ((eI_n (by decide)).trans ((eI_n (by decide)).trans ((eI_n (by decide)).trans ((eI_n (by decide)).trans (eI_n (by decide))))))) ?_
    refine Ev.iconst (pc := 84) dX1_add_84 (v := 0) (by decide) ?_
    obtain ⟨g9, h⟩ := eGdB h
    refine Ev.zastj (pc := 85) dX1_add_85 (j := (M.1 29 7).toNatClampNeg) lC_36 g9 rfl ?_
    refine Ev.aload_n (pc := 86) dX1_add_86 rfl ?_
    refine Ev.dup (pc := 87) dX1_add_87 rfl ?_
    refine Ev.getIv (pc := 88) dX1_add_88 (v := (M.1 29 7)) fl_RX1_48 lC_29 rfl ((eI_n (by decide)).trans ((eI_n (by decide)).trans ((eI_n (by decide)).trans ((eI_n (by decide)).trans ((eI_n (by decide)).trans ((eI_n (by decide)).trans (eI_n (by decide)))))))) ?_
    refine Ev.iconst (pc := 91) dX1_add_91 (v := 1) (by decide) ?_
    refine Ev.iadd (pc := 92) dX1_add_92 ?_
    refine Ev.putI (pc := 93) dX1_add_93 fp_RX1_48 lC_29 rfl rfl rfl ?_
    obtain rfl := Option.some.inj h
    exact Ev.vret (pc := 96) dX1_add_96 rfl
  · have h := eT h c9
    obtain rfl := Option.some.inj h
    exact Ev.vret (pc := 12) dX1_add_12 rfl
theorem dX8_reportShow_0 : decode cX8_reportShow 0 = .ok (.aload_n 0, 1) := by decide +kernel
theorem dX8_reportShow_1 : decode cX8_reportShow 1 = .ok (.getfield 35, 3) := by decide +kernel
theorem dX8_reportShow_4 : decode cX8_reportShow 4 = .ok (.iload_n 1, 1) := by decide +kernel
theorem dX8_reportShow_5 : decode cX8_reportShow 5 = .ok (.aload_n 0, 1) := by decide +kernel
theorem dX8_reportShow_6 : decode cX8_reportShow 6 = .ok (.getfield 21, 3) := by decide +kernel
theorem dX8_reportShow_9 : decode cX8_reportShow 9 = .ok (.getfield 92, 3) := by decide +kernel
theorem dX8_reportShow_12 : decode cX8_reportShow 12 = .ok (.iload_n 2, 1) := by decide +kernel
theorem dX8_reportShow_13 : decode cX8_reportShow 13 = .ok (.iaload, 1) := by decide +kernel
theorem dX8_reportShow_14 : decode cX8_reportShow 14 = .ok (.iload_n 3, 1) := by decide +kernel
theorem dX8_reportShow_15 : decode cX8_reportShow 15 = .ok (.aload_n 0, 1) := by decide +kernel
theorem dX8_reportShow_16 : decode cX8_reportShow 16 = .ok (.getfield 12, 3) := by decide +kernel
theorem dX8_reportShow_19 : decode cX8_reportShow 19 = .ok (.getfield 85, 3) := by decide +kernel
theorem dX8_reportShow_22 : decode cX8_reportShow 22 = .ok (.iload 4, 2) := by decide +kernel
theorem dX8_reportShow_24 : decode cX8_reportShow 24 = .ok (.iload_n 2, 1) := by decide +kernel
theorem dX8_reportShow_25 : decode cX8_reportShow 25 = .ok (.invokevirtual 146, 3) := by decide +kernel
theorem dX8_reportShow_28 : decode cX8_reportShow 28 = .ok (.return_, 1) := by decide +kernel
def F_X8_reportShow (x1 : Int32) (x2 : Int32) (x3 : Int32) (x4 : Int32) (M : eMem) : Option eMem :=
  eG (eIn x2 20) <|
  (F_X1_add x1 (M.1 14 x2.toNatClampNeg) x3 (M.1 2 11) x4 x2 M).bind fun q1 =>
  some q1
set_option maxRecDepth 100000 in
set_option maxHeartbeats 4000000 in
theorem ev_X8_reportShow (x1 : Int32) (x2 : Int32) (x3 : Int32) (x4 : Int32) (M : eMem) (q : eMem) (h : F_X8_reportShow x1 x2 x3 x4 M = some q) : Ev layC 2 m_X8_reportShow 0 [some (.ref 1), some (.int x1), some (.int x2), some (.int x3), some (.int x4)] [] M (none, q) := by
  rw [F_X8_reportShow] at h
  refine Ev.aload_n (pc := 0) dX8_reportShow_0 rfl ?_
  refine Ev.getR (pc := 1) dX8_reportShow_1 fl_RX8_35 lC_1 rfl ?_
  refine Ev.iload_n (pc := 4) dX8_reportShow_4 rfl ?_
  refine Ev.aload_n (pc := 5) dX8_reportShow_5 rfl ?_
  refine Ev.getR (pc := 6) dX8_reportShow_6 fl_RX8_21 lC_1 rfl ?_
  refine Ev.getR (pc := 9) dX8_reportShow_9 fl_RX8_92 lC_12 rfl ?_
  refine Ev.iload_n (pc := 12) dX8_reportShow_12 rfl ?_
  obtain ⟨g9, h⟩ := eGdB h
  refine Ev.ialdj (pc := 13) dX8_reportShow_13 (j := x2.toNatClampNeg) lC_14 g9 rfl ?_
  refine Ev.iload_n (pc := 14) dX8_reportShow_14 rfl ?_
  refine Ev.aload_n (pc := 15) dX8_reportShow_15 rfl ?_
  refine Ev.getR (pc := 16) dX8_reportShow_16 fl_RX8_12 lC_1 rfl ?_
  refine Ev.getI (pc := 19) dX8_reportShow_19 fl_RX8_85 lC_2 rfl ?_
  refine Ev.iload (pc := 22) dX8_reportShow_22 rfl ?_
  refine Ev.iload_n (pc := 24) dX8_reportShow_24 rfl ?_
  refine eBk h (fun q1 hq1 h => ?_)
  refine Ev.callV (pc := 25) (as := [.int x1, .int (M.1 14 x2.toNatClampNeg), .int x3, .int (M.1 2 11), .int x4, .int x2]) (st := []) (z := 0) dX8_reportShow_25 wc_X1_add ml_RX8_146 im_X1_add se_X1_add lC_29 rfl rfl (ev_X1_add x1 (M.1 14 x2.toNatClampNeg) x3 (M.1 2 11) x4 x2 M _ hq1) rfl rfl (by decide) rfl rfl (Nat.le_of_ble_eq_true rfl) ?_
  obtain rfl := Option.some.inj h
  exact Ev.vret (pc := 28) dX8_reportShow_28 rfl
theorem dX9_tell_0 : decode cX9_tell 0 = .ok (.aload_n 0, 1) := by decide +kernel
theorem dX9_tell_1 : decode cX9_tell 1 = .ok (.getfield 12, 3) := by decide +kernel
theorem dX9_tell_4 : decode cX9_tell 4 = .ok (.getfield 130, 3) := by decide +kernel
theorem dX9_tell_7 : decode cX9_tell 7 = .ok (.astore_n 2, 1) := by decide +kernel
theorem dX9_tell_8 : decode cX9_tell 8 = .ok (.aload_n 2, 1) := by decide +kernel
theorem dX9_tell_9 : decode cX9_tell 9 = .ok (.iload_n 1, 1) := by decide +kernel
theorem dX9_tell_10 : decode cX9_tell 10 = .ok (.invokevirtual 143, 3) := by decide +kernel
theorem dX9_tell_13 : decode cX9_tell 13 = .ok (.ifCond .ne 10, 3) := by decide +kernel
theorem dX9_tell_16 : decode cX9_tell 16 = .ok (.aload_n 0, 1) := by decide +kernel
theorem dX9_tell_17 : decode cX9_tell 17 = .ok (.ldc 41, 2) := by decide +kernel
theorem dX9_tell_19 : decode cX9_tell 19 = .ok (.invokevirtual 42, 3) := by decide +kernel
theorem dX9_tell_22 : decode cX9_tell 22 = .ok (.ireturn, 1) := by decide +kernel
theorem dX9_tell_23 : decode cX9_tell 23 = .ok (.aload_n 2, 1) := by decide +kernel
theorem dX9_tell_24 : decode cX9_tell 24 = .ok (.getfield 146, 3) := by decide +kernel
theorem dX9_tell_27 : decode cX9_tell 27 = .ok (.iload_n 1, 1) := by decide +kernel
theorem dX9_tell_28 : decode cX9_tell 28 = .ok (.iaload, 1) := by decide +kernel
theorem dX9_tell_29 : decode cX9_tell 29 = .ok (.iconst 4, 1) := by decide +kernel
theorem dX9_tell_30 : decode cX9_tell 30 = .ok (.if_icmp .eq 10, 3) := by decide +kernel
theorem dX9_tell_33 : decode cX9_tell 33 = .ok (.aload_n 0, 1) := by decide +kernel
theorem dX9_tell_34 : decode cX9_tell 34 = .ok (.ldc 89, 2) := by decide +kernel
theorem dX9_tell_36 : decode cX9_tell 36 = .ok (.invokevirtual 42, 3) := by decide +kernel
theorem dX9_tell_39 : decode cX9_tell 39 = .ok (.ireturn, 1) := by decide +kernel
theorem dX9_tell_40 : decode cX9_tell 40 = .ok (.aload_n 0, 1) := by decide +kernel
theorem dX9_tell_41 : decode cX9_tell 41 = .ok (.getfield 12, 3) := by decide +kernel
theorem dX9_tell_44 : decode cX9_tell 44 = .ok (.iload_n 1, 1) := by decide +kernel
theorem dX9_tell_45 : decode cX9_tell 45 = .ok (.invokevirtual 177, 3) := by decide +kernel
theorem dX9_tell_48 : decode cX9_tell 48 = .ok (.ifCond .ne 10, 3) := by decide +kernel
theorem dX9_tell_51 : decode cX9_tell 51 = .ok (.aload_n 0, 1) := by decide +kernel
theorem dX9_tell_52 : decode cX9_tell 52 = .ok (.ldc 82, 2) := by decide +kernel
theorem dX9_tell_54 : decode cX9_tell 54 = .ok (.invokevirtual 42, 3) := by decide +kernel
theorem dX9_tell_57 : decode cX9_tell 57 = .ok (.ireturn, 1) := by decide +kernel
theorem dX9_tell_58 : decode cX9_tell 58 = .ok (.aload_n 2, 1) := by decide +kernel
theorem dX9_tell_59 : decode cX9_tell 59 = .ok (.getfield 183, 3) := by decide +kernel
theorem dX9_tell_62 : decode cX9_tell 62 = .ok (.iload_n 1, 1) := by decide +kernel
theorem dX9_tell_63 : decode cX9_tell 63 = .ok (.iaload, 1) := by decide +kernel
theorem dX9_tell_64 : decode cX9_tell 64 = .ok (.iconst 1, 1) := by decide +kernel
theorem dX9_tell_65 : decode cX9_tell 65 = .ok (.if_icmp .ge 10, 3) := by decide +kernel
theorem dX9_tell_68 : decode cX9_tell 68 = .ok (.aload_n 0, 1) := by decide +kernel
theorem dX9_tell_69 : decode cX9_tell 69 = .ok (.ldc 108, 2) := by decide +kernel
theorem dX9_tell_71 : decode cX9_tell 71 = .ok (.invokevirtual 42, 3) := by decide +kernel
theorem dX9_tell_74 : decode cX9_tell 74 = .ok (.ireturn, 1) := by decide +kernel
theorem dX9_tell_75 : decode cX9_tell 75 = .ok (.aload_n 0, 1) := by decide +kernel
theorem dX9_tell_76 : decode cX9_tell 76 = .ok (.getfield 12, 3) := by decide +kernel
theorem dX9_tell_79 : decode cX9_tell 79 = .ok (.getfield 212, 3) := by decide +kernel
theorem dX9_tell_82 : decode cX9_tell 82 = .ok (.invokevirtual 216, 3) := by decide +kernel
theorem dX9_tell_85 : decode cX9_tell 85 = .ok (.iconst 1, 1) := by decide +kernel
theorem dX9_tell_86 : decode cX9_tell 86 = .ok (.if_icmp .ge 10, 3) := by decide +kernel
theorem dX9_tell_89 : decode cX9_tell 89 = .ok (.aload_n 0, 1) := by decide +kernel
theorem dX9_tell_90 : decode cX9_tell 90 = .ok (.ldc 63, 2) := by decide +kernel
theorem dX9_tell_92 : decode cX9_tell 92 = .ok (.invokevirtual 42, 3) := by decide +kernel
theorem dX9_tell_95 : decode cX9_tell 95 = .ok (.ireturn, 1) := by decide +kernel
theorem dX9_tell_96 : decode cX9_tell 96 = .ok (.aload_n 2, 1) := by decide +kernel
theorem dX9_tell_97 : decode cX9_tell 97 = .ok (.getfield 183, 3) := by decide +kernel
theorem dX9_tell_100 : decode cX9_tell 100 = .ok (.iload_n 1, 1) := by decide +kernel
theorem dX9_tell_101 : decode cX9_tell 101 = .ok (.dup2, 1) := by decide +kernel
theorem dX9_tell_102 : decode cX9_tell 102 = .ok (.iaload, 1) := by decide +kernel
theorem dX9_tell_103 : decode cX9_tell 103 = .ok (.iconst 1, 1) := by decide +kernel
theorem dX9_tell_104 : decode cX9_tell 104 = .ok (.isub, 1) := by decide +kernel
theorem dX9_tell_105 : decode cX9_tell 105 = .ok (.iastore, 1) := by decide +kernel
theorem dX9_tell_106 : decode cX9_tell 106 = .ok (.aload_n 0, 1) := by decide +kernel
theorem dX9_tell_107 : decode cX9_tell 107 = .ok (.getfield 12, 3) := by decide +kernel
theorem dX9_tell_110 : decode cX9_tell 110 = .ok (.iconst 2, 1) := by decide +kernel
theorem dX9_tell_111 : decode cX9_tell 111 = .ok (.iload_n 1, 1) := by decide +kernel
theorem dX9_tell_112 : decode cX9_tell 112 = .ok (.iconst 1, 1) := by decide +kernel
theorem dX9_tell_113 : decode cX9_tell 113 = .ok (.aload_n 0, 1) := by decide +kernel
theorem dX9_tell_114 : decode cX9_tell 114 = .ok (.getfield 12, 3) := by decide +kernel
theorem dX9_tell_117 : decode cX9_tell 117 = .ok (.getfield 46, 3) := by decide +kernel
theorem dX9_tell_120 : decode cX9_tell 120 = .ok (.getfield 99, 3) := by decide +kernel
theorem dX9_tell_123 : decode cX9_tell 123 = .ok (.invokevirtual 222, 3) := by decide +kernel
theorem dX9_tell_126 : decode cX9_tell 126 = .ok (.aload_n 0, 1) := by decide +kernel
theorem dX9_tell_127 : decode cX9_tell 127 = .ok (.getfield 12, 3) := by decide +kernel
theorem dX9_tell_130 : decode cX9_tell 130 = .ok (.getfield 212, 3) := by decide +kernel
theorem dX9_tell_133 : decode cX9_tell 133 = .ok (.getfield 226, 3) := by decide +kernel
theorem dX9_tell_136 : decode cX9_tell 136 = .ok (.iconst 1, 1) := by decide +kernel
theorem dX9_tell_137 : decode cX9_tell 137 = .ok (.isub, 1) := by decide +kernel
theorem dX9_tell_138 : decode cX9_tell 138 = .ok (.ireturn, 1) := by decide +kernel
def F_X9_tell (x1 : Int32) (M : eMem) : Option (Int32 × eMem) :=
  (F_X5_has x1 M).bind fun q1 =>
  if q1 = 0 then
    (F_X9_found (-1000001) M).bind fun q9 =>
    some (q9.1, q9.2)
  else
    eG (eIn x1 20) <|
    if (M.1 13 x1.toNatClampNeg) = 4 then
      (F_X8_isShown x1 M).bind fun q2 =>
      if q2.1 = 0 then
        (F_X9_found (-1000005) q2.2).bind fun q7 =>
        some (q7.1, q7.2)
      else
        eG (eIn x1 20) <|
        if (q2.2.1 17 x1.toNatClampNeg) < 1 then
          (F_X9_found (-1000004) q2.2).bind fun q6 =>
          some (q6.1, q6.2)
        else
          (F_X1_room q2.2).bind fun q3 =>
          if q3 < 1 then
            (F_X9_found (-1000002) q2.2).bind fun q5 =>
            some (q5.1, q5.2)
          else
            eG (eIn x1 20) <|
            eG (eIn x1 20) <|
            (F_X8_reportShow 2 x1 1 (q2.2.1 2 11) (eI q2.2 17 x1.toNatClampNeg ((q2.2.1 17 x1.toNatClampNeg) - 1))).bind fun q4 =>
            some (((q4.1 29 7) - 1), q4)
    else
      (F_X9_found (-1000003) M).bind fun q8 =>
      some (q8.1, q8.2)
set_option maxRecDepth 100000 in
set_option maxHeartbeats 4000000 in
theorem ev_X9_tell (x1 : Int32) (M : eMem) (q : (Int32 × eMem)) (h : F_X9_tell x1 M = some q) : Ev layC 4 m_X9_tell 0 [some (.ref 0), some (.int x1), none] [] M (some (.int q.1), q.2) := by
  rw [F_X9_tell] at h
  refine Ev.aload_n (pc := 0) dX9_tell_0 rfl ?_
  refine Ev.getR (pc := 1) dX9_tell_1 fl_RX9_12 lC_0 rfl ?_
  refine Ev.getR (pc := 4) dX9_tell_4 fl_RX9_130 lC_1 rfl ?_
  refine Ev.astore_n (pc := 7) dX9_tell_7 (by decide) rfl rfl ?_
  refine Ev.aload_n (pc := 8) dX9_tell_8 rfl ?_
  refine Ev.iload_n (pc := 9) dX9_tell_9 rfl ?_
  refine eBk h (fun q1 hq1 h => ?_)
  refine Ev.callV (pc := 10) (as := [.int x1]) (st := []) (z := 0) dX9_tell_10 wc_X5_has ml_RX9_143 im_X5_has se_X5_has lC_12 rfl rfl (ev_X5_has x1 M _ hq1) rfl rfl (by decide) rfl rfl (Nat.le_of_ble_eq_true rfl) ?_
  refine Ev.if_ne (pc := 13) (tgt := 23) dX9_tell_13 (by decide) (fun c9 => ?_) (fun c9 => ?_)
  · have h := eF h c9
    refine Ev.aload_n (pc := 23) dX9_tell_23 rfl ?_
    refine Ev.getR (pc := 24) dX9_tell_24 fl_RX9_146 lC_12 rfl ?_
    refine Ev.iload_n (pc := 27) dX9_tell_27 rfl ?_
    obtain ⟨g9, h⟩ := eGdB h
    refine Ev.ialdj (pc := 28) dX9_tell_28 (j := x1.toNatClampNeg) lC_13 g9 rfl ?_
    refine Ev.iconst (pc := 29) dX9_tell_29 (v := 4) (by decide) ?_
    refine Ev.icmp_eq (pc := 30) (tgt := 40) dX9_tell_30 (by decide) (fun c9 => ?_) (fun c9 => ?_)
    · have h := eT h c9
      refine Ev.aload_n (pc := 40) dX9_tell_40 rfl ?_
      refine Ev.getR (pc := 41) dX9_tell_41 fl_RX9_12 lC_0 rfl ?_
      refine Ev.iload_n (pc := 44) dX9_tell_44 rfl ?_
      refine eBk h (fun q2 hq2 h => ?_)
      refine Ev.callV (pc := 45) (as := [.int x1]) (st := []) (z := 0) dX9_tell_45 wc_X8_isShown ml_RX9_177 im_X8_isShown se_X8_isShown lC_1 rfl rfl (ev_X8_isShown x1 M _ hq2) rfl rfl (by decide) rfl rfl (Nat.le_of_ble_eq_true rfl) ?_
      refine Ev.if_ne (pc := 48) (tgt := 58) dX9_tell_48 (by decide) (fun c9 => ?_) (fun c9 => ?_)
      · have h := eF h c9
        refine Ev.aload_n (pc := 58) dX9_tell_58 rfl ?_
        refine Ev.getR (pc := 59) dX9_tell_59 fl_RX9_183 lC_12 rfl ?_
        refine Ev.iload_n (pc := 62) dX9_tell_62 rfl ?_
        obtain ⟨g9, h⟩ := eGdB h
        refine Ev.ialdj (pc := 63) dX9_tell_63 (j := x1.toNatClampNeg) lC_17 g9 rfl ?_
        refine Ev.iconst (pc := 64) dX9_tell_64 (v := 1) (by decide) ?_
        refine Ev.icmp_ge (pc := 65) (tgt := 75) dX9_tell_65 (by decide) (fun c9 => ?_) (fun c9 => ?_)
        · have h := eF h c9
          refine Ev.aload_n (pc := 75) dX9_tell_75 rfl ?_
          refine Ev.getR (pc := 76) dX9_tell_76 fl_RX9_12 lC_0 rfl ?_
          refine Ev.getR (pc := 79) dX9_tell_79 fl_RX9_212 lC_1 rfl ?_
          refine eBk h (fun q3 hq3 h => ?_)
          refine Ev.callV (pc := 82) (as := []) (st := []) (z := 0) dX9_tell_82 wc_X1_room ml_RX9_216 im_X1_room se_X1_room lC_29 rfl rfl (ev_X1_room  q2.2 _ hq3) rfl rfl (by decide) rfl rfl (Nat.le_of_ble_eq_true rfl) ?_
          refine Ev.iconst (pc := 85) dX9_tell_85 (v := 1) (by decide) ?_
          refine Ev.icmp_ge (pc := 86) (tgt := 96) dX9_tell_86 (by decide) (fun c9 => ?_) (fun c9 => ?_)
          · have h := eF h c9
            refine Ev.aload_n (pc := 96) dX9_tell_96 rfl ?_
            refine Ev.getR (pc := 97) dX9_tell_97 fl_RX9_183 lC_12 rfl ?_
            refine Ev.iload_n (pc := 100) dX9_tell_100 rfl ?_
            refine Ev.dup2 (pc := 101) dX9_tell_101 rfl rfl ?_
            obtain ⟨g9, h⟩ := eGdB h
            refine Ev.ialdj (pc := 102) dX9_tell_102 (j := x1.toNatClampNeg) lC_17 g9 rfl ?_
            refine Ev.iconst (pc := 103) dX9_tell_103 (v := 1) (by decide) ?_
            refine Ev.isub (pc := 104) dX9_tell_104 ?_
            obtain ⟨g9, h⟩ := eGdB h
            refine Ev.iastj (pc := 105) dX9_tell_105 (j := x1.toNatClampNeg) lC_17 g9 rfl ?_
            refine Ev.aload_n (pc := 106) dX9_tell_106 rfl ?_
            refine Ev.getR (pc := 107) dX9_tell_107 fl_RX9_12 lC_0 rfl ?_
            refine Ev.iconst (pc := 110) dX9_tell_110 (v := 2) (by decide) ?_
            refine Ev.iload_n (pc := 111) dX9_tell_111 rfl ?_
            refine Ev.iconst (pc := 112) dX9_tell_112 (v := 1) (by decide) ?_
            refine Ev.aload_n (pc := 113) dX9_tell_113 rfl ?_
            refine Ev.getR (pc := 114) dX9_tell_114 fl_RX9_12 lC_0 rfl ?_
            refine Ev.getR (pc := 117) dX9_tell_117 fl_RX9_46 lC_1 rfl ?_
            refine Ev.getIv (pc := 120) dX9_tell_120 (v := (q2.2.1 2 11)) fl_RX9_99 lC_2 rfl (eI_n (by decide)) ?_
            refine eBk h (fun q4 hq4 h => ?_)
            refine Ev.callV (pc := 123) (as := [.int 2, .int x1, .int 1, .int (q2.2.1 2 11)]) (st := []) (z := 0) dX9_tell_123 wc_X8_reportShow ml_RX9_222 im_X8_reportShow se_X8_reportShow lC_1 rfl rfl (ev_X8_reportShow 2 x1 1 (q2.2.1 2 11) (eI q2.2 17 x1.toNatClampNeg ((q2.2.1 17 x1.toNatClampNeg) - 1)) _ hq4) rfl rfl (by decide) rfl rfl (Nat.le_of_ble_eq_true rfl) ?_
            refine Ev.aload_n (pc := 126) dX9_tell_126 rfl ?_
            refine Ev.getR (pc := 127) dX9_tell_127 fl_RX9_12 lC_0 rfl ?_
            refine Ev.getR (pc := 130) dX9_tell_130 fl_RX9_212 lC_1 rfl ?_
            refine Ev.getI (pc := 133) dX9_tell_133 fl_RX9_226 lC_29 rfl ?_
            refine Ev.iconst (pc := 136) dX9_tell_136 (v := 1) (by decide) ?_
            refine Ev.isub (pc := 137) dX9_tell_137 ?_
            obtain rfl := Option.some.inj h
            exact Ev.iret (pc := 138) dX9_tell_138 rfl rfl
          · have h := eT h c9
            refine Ev.aload_n (pc := 89) dX9_tell_89 rfl ?_
            refine Ev.ldc (pc := 90) dX9_tell_90 ld_RX9_63 ?_
            refine eBk h (fun q5 hq5 h => ?_)
            refine Ev.callV (pc := 92) (as := [.int (-1000002)]) (st := []) (z := 1) dX9_tell_92 wc_X9_found ml_RX9_42 im_X9_found se_X9_found lC_0 rfl rfl (ev_X9_found (-1000002) q2.2 _ hq5) rfl rfl (by decide) rfl rfl (Nat.le_of_ble_eq_true rfl) ?_
            obtain rfl := Option.some.inj h
            exact Ev.iret (pc := 95) dX9_tell_95 rfl rfl
        · have h := eT h c9
          refine Ev.aload_n (pc := 68) dX9_tell_68 rfl ?_
          refine Ev.ldc (pc := 69) dX9_tell_69 ld_RX9_108 ?_
          refine eBk h (fun q6 hq6 h => ?_)
          refine Ev.callV (pc := 71) (as := [.int (-1000004)]) (st := []) (z := 1) dX9_tell_71 wc_X9_found ml_RX9_42 im_X9_found se_X9_found lC_0 rfl rfl (ev_X9_found (-1000004) q2.2 _ hq6) rfl rfl (by decide) rfl rfl (Nat.le_of_ble_eq_true rfl) ?_
          obtain rfl := Option.some.inj h
          exact Ev.iret (pc := 74) dX9_tell_74 rfl rfl
      · have h := eT h c9
        refine Ev.aload_n (pc := 51) dX9_tell_51 rfl ?_
        refine Ev.ldc (pc := 52) dX9_tell_52 ld_RX9_82 ?_
        refine eBk h (fun q7 hq7 h => ?_)
        refine Ev.callV (pc := 54) (as := [.int (-1000005)]) (st := []) (z := 1) dX9_tell_54 wc_X9_found ml_RX9_42 im_X9_found se_X9_found lC_0 rfl rfl (ev_X9_found (-1000005) q2.2 _ hq7) rfl rfl (by decide) rfl rfl (Nat.le_of_ble_eq_true rfl) ?_
        obtain rfl := Option.some.inj h
        exact Ev.iret (pc := 57) dX9_tell_57 rfl rfl
    · have h := eF h c9
      refine Ev.aload_n (pc := 33) dX9_tell_33 rfl ?_
      refine Ev.ldc (pc := 34) dX9_tell_34 ld_RX9_89 ?_
      refine eBk h (fun q8 hq8 h => ?_)
      refine Ev.callV (pc := 36) (as := [.int (-1000003)]) (st := []) (z := 1) dX9_tell_36 wc_X9_found ml_RX9_42 im_X9_found se_X9_found lC_0 rfl rfl (ev_X9_found (-1000003) M _ hq8) rfl rfl (by decide) rfl rfl (Nat.le_of_ble_eq_true rfl) ?_
      obtain rfl := Option.some.inj h
      exact Ev.iret (pc := 39) dX9_tell_39 rfl rfl
  · have h := eT h c9
    refine Ev.aload_n (pc := 16) dX9_tell_16 rfl ?_
    refine Ev.ldc (pc := 17) dX9_tell_17 ld_RX9_41 ?_
    refine eBk h (fun q9 hq9 h => ?_)
    refine Ev.callV (pc := 19) (as := [.int (-1000001)]) (st := []) (z := 1) dX9_tell_19 wc_X9_found ml_RX9_42 im_X9_found se_X9_found lC_0 rfl rfl (ev_X9_found (-1000001) M _ hq9) rfl rfl (by decide) rfl rfl (Nat.le_of_ble_eq_true rfl) ?_
    obtain rfl := Option.some.inj h
    exact Ev.iret (pc := 22) dX9_tell_22 rfl rfl
theorem dX10_comes_0 : decode cX10_comes 0 = .ok (.aload_n 0, 1) := by decide +kernel
theorem dX10_comes_1 : decode cX10_comes 1 = .ok (.getfield 7, 3) := by decide +kernel
theorem dX10_comes_4 : decode cX10_comes 4 = .ok (.bipush 10, 2) := by decide +kernel
theorem dX10_comes_6 : decode cX10_comes 6 = .ok (.iaload, 1) := by decide +kernel
theorem dX10_comes_7 : decode cX10_comes 7 = .ok (.bipush 90, 2) := by decide +kernel
theorem dX10_comes_9 : decode cX10_comes 9 = .ok (.if_icmp .ne 5, 3) := by decide +kernel
theorem dX10_comes_12 : decode cX10_comes 12 = .ok (.iconst (-1), 1) := by decide +kernel
theorem dX10_comes_13 : decode cX10_comes 13 = .ok (.ireturn, 1) := by decide +kernel
theorem dX10_comes_14 : decode cX10_comes 14 = .ok (.sipush 498, 3) := by decide +kernel
theorem dX10_comes_17 : decode cX10_comes 17 = .ok (.bipush 7, 2) := by decide +kernel
theorem dX10_comes_19 : decode cX10_comes 19 = .ok (.aload_n 0, 1) := by decide +kernel
theorem dX10_comes_20 : decode cX10_comes 20 = .ok (.getfield 7, 3) := by decide +kernel
theorem dX10_comes_23 : decode cX10_comes 23 = .ok (.bipush 10, 2) := by decide +kernel
theorem dX10_comes_25 : decode cX10_comes 25 = .ok (.iaload, 1) := by decide +kernel
theorem dX10_comes_26 : decode cX10_comes 26 = .ok (.imul, 1) := by decide +kernel
theorem dX10_comes_27 : decode cX10_comes 27 = .ok (.iadd, 1) := by decide +kernel
theorem dX10_comes_28 : decode cX10_comes 28 = .ok (.istore 7, 2) := by decide +kernel
theorem dX10_comes_30 : decode cX10_comes 30 = .ok (.aload_n 0, 1) := by decide +kernel
theorem dX10_comes_31 : decode cX10_comes 31 = .ok (.getfield 7, 3) := by decide +kernel
theorem dX10_comes_34 : decode cX10_comes 34 = .ok (.iload 7, 2) := by decide +kernel
theorem dX10_comes_36 : decode cX10_comes 36 = .ok (.iconst 0, 1) := by decide +kernel
theorem dX10_comes_37 : decode cX10_comes 37 = .ok (.iadd, 1) := by decide +kernel
theorem dX10_comes_38 : decode cX10_comes 38 = .ok (.iload_n 1, 1) := by decide +kernel
theorem dX10_comes_39 : decode cX10_comes 39 = .ok (.iastore, 1) := by decide +kernel
theorem dX10_comes_40 : decode cX10_comes 40 = .ok (.aload_n 0, 1) := by decide +kernel
theorem dX10_comes_41 : decode cX10_comes 41 = .ok (.getfield 7, 3) := by decide +kernel
theorem dX10_comes_44 : decode cX10_comes 44 = .ok (.iload 7, 2) := by decide +kernel
theorem dX10_comes_46 : decode cX10_comes 46 = .ok (.iconst 1, 1) := by decide +kernel
theorem dX10_comes_47 : decode cX10_comes 47 = .ok (.iadd, 1) := by decide +kernel
theorem dX10_comes_48 : decode cX10_comes 48 = .ok (.iload_n 2, 1) := by decide +kernel
theorem dX10_comes_49 : decode cX10_comes 49 = .ok (.iastore, 1) := by decide +kernel
theorem dX10_comes_50 : decode cX10_comes 50 = .ok (.aload_n 0, 1) := by decide +kernel
theorem dX10_comes_51 : decode cX10_comes 51 = .ok (.getfield 7, 3) := by decide +kernel
theorem dX10_comes_54 : decode cX10_comes 54 = .ok (.iload 7, 2) := by decide +kernel
theorem dX10_comes_56 : decode cX10_comes 56 = .ok (.iconst 2, 1) := by decide +kernel
theorem dX10_comes_57 : decode cX10_comes 57 = .ok (.iadd, 1) := by decide +kernel
theorem dX10_comes_58 : decode cX10_comes 58 = .ok (.iload_n 3, 1) := by decide +kernel
theorem dX10_comes_59 : decode cX10_comes 59 = .ok (.ifCond .eq 7, 3) := by decide +kernel
theorem dX10_comes_62 : decode cX10_comes 62 = .ok (.iconst 1, 1) := by decide +kernel
theorem dX10_comes_63 : decode cX10_comes 63 = .ok (.goto 4, 3) := by decide +kernel
theorem dX10_comes_66 : decode cX10_comes 66 = .ok (.iconst 0, 1) := by decide +kernel
theorem dX10_comes_67 : decode cX10_comes 67 = .ok (.iastore, 1) := by decide +kernel
theorem dX10_comes_68 : decode cX10_comes 68 = .ok (.aload_n 0, 1) := by decide +kernel
theorem dX10_comes_69 : decode cX10_comes 69 = .ok (.getfield 7, 3) := by decide +kernel
theorem dX10_comes_72 : decode cX10_comes 72 = .ok (.iload 7, 2) := by decide +kernel
theorem dX10_comes_74 : decode cX10_comes 74 = .ok (.iconst 3, 1) := by decide +kernel
theorem dX10_comes_75 : decode cX10_comes 75 = .ok (.iadd, 1) := by decide +kernel
theorem dX10_comes_76 : decode cX10_comes 76 = .ok (.iload 4, 2) := by decide +kernel
theorem dX10_comes_78 : decode cX10_comes 78 = .ok (.iastore, 1) := by decide +kernel
theorem dX10_comes_79 : decode cX10_comes 79 = .ok (.aload_n 0, 1) := by decide +kernel
theorem dX10_comes_80 : decode cX10_comes 80 = .ok (.getfield 7, 3) := by decide +kernel
theorem dX10_comes_83 : decode cX10_comes 83 = .ok (.iload 7, 2) := by decide +kernel
theorem dX10_comes_85 : decode cX10_comes 85 = .ok (.iconst 4, 1) := by decide +kernel
theorem dX10_comes_86 : decode cX10_comes 86 = .ok (.iadd, 1) := by decide +kernel
theorem dX10_comes_87 : decode cX10_comes 87 = .ok (.iload 5, 2) := by decide +kernel
theorem dX10_comes_89 : decode cX10_comes 89 = .ok (.iastore, 1) := by decide +kernel
theorem dX10_comes_90 : decode cX10_comes 90 = .ok (.aload_n 0, 1) := by decide +kernel
theorem dX10_comes_91 : decode cX10_comes 91 = .ok (.getfield 7, 3) := by decide +kernel
theorem dX10_comes_94 : decode cX10_comes 94 = .ok (.iload 7, 2) := by decide +kernel
theorem dX10_comes_96 : decode cX10_comes 96 = .ok (.iconst 5, 1) := by decide +kernel
theorem dX10_comes_97 : decode cX10_comes 97 = .ok (.iadd, 1) := by decide +kernel
theorem dX10_comes_98 : decode cX10_comes 98 = .ok (.iload 6, 2) := by decide +kernel
theorem dX10_comes_100 : decode cX10_comes 100 = .ok (.iastore, 1) := by decide +kernel
theorem dX10_comes_101 : decode cX10_comes 101 = .ok (.aload_n 0, 1) := by decide +kernel
theorem dX10_comes_102 : decode cX10_comes 102 = .ok (.getfield 7, 3) := by decide +kernel
theorem dX10_comes_105 : decode cX10_comes 105 = .ok (.iload 7, 2) := by decide +kernel
theorem dX10_comes_107 : decode cX10_comes 107 = .ok (.bipush 6, 2) := by decide +kernel
theorem dX10_comes_109 : decode cX10_comes 109 = .ok (.iadd, 1) := by decide +kernel
theorem dX10_comes_110 : decode cX10_comes 110 = .ok (.iconst 0, 1) := by decide +kernel
theorem dX10_comes_111 : decode cX10_comes 111 = .ok (.iastore, 1) := by decide +kernel
theorem dX10_comes_112 : decode cX10_comes 112 = .ok (.aload_n 0, 1) := by decide +kernel
theorem dX10_comes_113 : decode cX10_comes 113 = .ok (.getfield 7, 3) := by decide +kernel
theorem dX10_comes_116 : decode cX10_comes 116 = .ok (.bipush 10, 2) := by decide +kernel
theorem dX10_comes_118 : decode cX10_comes 118 = .ok (.dup2, 1) := by decide +kernel
theorem dX10_comes_119 : decode cX10_comes 119 = .ok (.iaload, 1) := by decide +kernel
theorem dX10_comes_120 : decode cX10_comes 120 = .ok (.iconst 1, 1) := by decide +kernel
theorem dX10_comes_121 : decode cX10_comes 121 = .ok (.iadd, 1) := by decide +kernel
theorem dX10_comes_122 : decode cX10_comes 122 = .ok (.iastore, 1) := by decide +kernel
theorem dX10_comes_123 : decode cX10_comes 123 = .ok (.aload_n 0, 1) := by decide +kernel
theorem dX10_comes_124 : decode cX10_comes 124 = .ok (.getfield 7, 3) := by decide +kernel
theorem dX10_comes_127 : decode cX10_comes 127 = .ok (.bipush 10, 2) := by decide +kernel
theorem dX10_comes_129 : decode cX10_comes 129 = .ok (.iaload, 1) := by decide +kernel
theorem dX10_comes_130 : decode cX10_comes 130 = .ok (.iconst 1, 1) := by decide +kernel
theorem dX10_comes_131 : decode cX10_comes 131 = .ok (.isub, 1) := by decide +kernel
theorem dX10_comes_132 : decode cX10_comes 132 = .ok (.ireturn, 1) := by decide +kernel
def F_X10_comes_67  (v4 : Int32) (v5 : Int32) (v6 : Int32) (v7 : Int32) (s0 : Int32) (s1 : Int32) (M : eMem) : Option (Int32 × eMem) :=
  eG (eIn s1 2900) <|
  eG (eIn (v7 + 3) 2900) <|
  eG (eIn (v7 + 4) 2900) <|
  eG (eIn (v7 + 5) 2900) <|
  eG (eIn (v7 + 6) 2900) <|
  some (((((eI (eI (eI (eI (eI M 1 s1.toNatClampNeg s0) 1 (v7 + 3).toNatClampNeg v4) 1 (v7 + 4).toNatClampNeg v5) 1 (v7 + 5).toNatClampNeg v6) 1 (v7 + 6).toNatClampNeg 0).1 1 10) + 1) - 1), (eI (eI (eI (eI (eI (eI M 1 s1.toNatClampNeg s0) 1 (v7 + 3).toNatClampNeg v4) 1 (v7 + 4).toNatClampNeg v5) 1 (v7 + 5).toNatClampNeg v6) 1 (v7 + 6).toNatClampNeg 0) 1 10 (((eI (eI (eI (eI (eI M 1 s1.toNatClampNeg s0) 1 (v7 + 3).toNatClampNeg v4) 1 (v7 + 4).toNatClampNeg v5) 1 (v7 + 5).toNatClampNeg v6) 1 (v7 + 6).toNatClampNeg 0).1 1 10) + 1)))
set_option maxRecDepth 100000 in
set_option maxHeartbeats 4000000 in
theorem ev_X10_comes_67  (q : (Int32 × eMem))  (v4 : Int32) (v5 : Int32) (v6 : Int32) (v7 : Int32) (s0 : Int32) (s1 : Int32) (M : eMem) (h : F_X10_comes_67 v4 v5 v6 v7 s0 s1 M = some q) : Ev layR 0 m_X10_comes 67 [some (.ref 0), none, none, none, some (.int v4), some (.int v5), some (.int v6), some (.int v7)] [.int s0, .int s1, .ref 1] M (some (.int q.1), q.2) := by
  rw [F_X10_comes_67] at h
  obtain ⟨g9, h⟩ := eGdB h
  refine Ev.iastj (pc := 67) dX10_comes_67 (j := s1.toNatClampNeg) lR_1 g9 rfl ?_
  refine Ev.aload_n (pc := 68) dX10_comes_68 rfl ?_
  refine Ev.getR (pc := 69) dX10_comes_69 fl_RX10_7 lR_0 rfl ?_
  refine Ev.iload (pc := 72) dX10_comes_72 rfl ?_
  refine Ev.iconst (pc := 74) dX10_comes_74 (v := 3) (by decide) ?_
  refine Ev.iadd (pc := 75) dX10_comes_75 ?_
  refine Ev.iload (pc := 76) dX10_comes_76 rfl ?_
  obtain ⟨g9, h⟩ := eGdB h
  refine Ev.iastj (pc := 78) dX10_comes_78 (j := (v7 + 3).toNatClampNeg) lR_1 g9 rfl ?_
  refine Ev.aload_n (pc := 79) dX10_comes_79 rfl ?_
  refine Ev.getR (pc := 80) dX10_comes_80 fl_RX10_7 lR_0 rfl ?_
  refine Ev.iload (pc := 83) dX10_comes_83 rfl ?_
  refine Ev.iconst (pc := 85) dX10_comes_85 (v := 4) (by decide) ?_
  refine Ev.iadd (pc := 86) dX10_comes_86 ?_
  refine Ev.iload (pc := 87) dX10_comes_87 rfl ?_
  obtain ⟨g9, h⟩ := eGdB h
  refine Ev.iastj (pc := 89) dX10_comes_89 (j := (v7 + 4).toNatClampNeg) lR_1 g9 rfl ?_
  refine Ev.aload_n (pc := 90) dX10_comes_90 rfl ?_
  refine Ev.getR (pc := 91) dX10_comes_91 fl_RX10_7 lR_0 rfl ?_
  refine Ev.iload (pc := 94) dX10_comes_94 rfl ?_
  refine Ev.iconst (pc := 96) dX10_comes_96 (v := 5) (by decide) ?_
  refine Ev.iadd (pc := 97) dX10_comes_97 ?_
  refine Ev.iload (pc := 98) dX10_comes_98 rfl ?_
  obtain ⟨g9, h⟩ := eGdB h
  refine Ev.iastj (pc := 100) dX10_comes_100 (j := (v7 + 5).toNatClampNeg) lR_1 g9 rfl ?_
  refine Ev.aload_n (pc := 101) dX10_comes_101 rfl ?_
  refine Ev.getR (pc := 102) dX10_comes_102 fl_RX10_7 lR_0 rfl ?_
  refine Ev.iload (pc := 105) dX10_comes_105 rfl ?_
  refine Ev.bipush (pc := 107) dX10_comes_107 (v := 6) (by decide) ?_
  refine Ev.iadd (pc := 109) dX10_comes_109 ?_
  refine Ev.iconst (pc := 110) dX10_comes_110 (v := 0) (by decide) ?_
  obtain ⟨g9, h⟩ := eGdB h
  refine Ev.iastj (pc := 111) dX10_comes_111 (j := (v7 + 6).toNatClampNeg) lR_1 g9 rfl ?_
  refine Ev.aload_n (pc := 112) dX10_comes_112 rfl ?_
  refine Ev.getR (pc := 113) dX10_comes_113 fl_RX10_7 lR_0 rfl ?_
  refine Ev.bipush (pc := 116) dX10_comes_116 (v := 10) (by decide) ?_
  refine Ev.dup2 (pc := 118) dX10_comes_118 rfl rfl ?_
  refine Ev.ialdj (pc := 119) dX10_comes_119 (j := 10) lR_1 (by decide) (by decide) ?_
  refine Ev.iconst (pc := 120) dX10_comes_120 (v := 1) (by decide) ?_
  refine Ev.iadd (pc := 121) dX10_comes_121 ?_
  refine Ev.iastj (pc := 122) dX10_comes_122 (j := 10) lR_1 (by decide) (by decide) ?_
  refine Ev.aload_n (pc := 123) dX10_comes_123 rfl ?_
  refine Ev.getR (pc := 124) dX10_comes_124 fl_RX10_7 lR_0 rfl ?_
  refine Ev.bipush (pc := 127) dX10_comes_127 (v := 10) (by decide) ?_
  refine Ev.ialdv (pc := 129) dX10_comes_129 (v := (((eI (eI (eI (eI (eI M 1 s1.toNatClampNeg s0) 1 (v7 + 3).toNatClampNeg v4) 1 (v7 + 4).toNatClampNeg v5) 1 (v7 + 5).toNatClampNeg v6) 1 (v7 + 6).toNatClampNeg 0).1 1 10) + 1)) (j := 10) lR_1 (by decide) (by decide) eI_e ?_
  refine Ev.iconst (pc := 130) dX10_comes_130 (v := 1) (by decide) ?_
  refine Ev.isub (pc := 131) dX10_comes_131 ?_
  obtain rfl := Option.some.inj h
  exact Ev.iret (pc := 132) dX10_comes_132 rfl rfl
def F_X10_comes (x1 : Int32) (x2 : Int32) (x3 : Int32) (x4 : Int32) (x5 : Int32) (x6 : Int32) (M : eMem) : Option (Int32 × eMem) :=
  if (M.1 1 10) = 90 then
    some ((-1), M)
  else
    eG (eIn ((498 + (7 * (M.1 1 10))) + 0) 2900) <|
    eG (eIn ((498 + (7 * (M.1 1 10))) + 1) 2900) <|
    if x3 = 0 then
      F_X10_comes_67 x4 x5 x6 (498 + (7 * (M.1 1 10))) 0 ((498 + (7 * (M.1 1 10))) + 2) (eI (eI M 1 ((498 + (7 * (M.1 1 10))) + 0).toNatClampNeg x1) 1 ((498 + (7 * (M.1 1 10))) + 1).toNatClampNeg x2)
    else
      F_X10_comes_67 x4 x5 x6 (498 + (7 * (M.1 1 10))) 1 ((498 + (7 * (M.1 1 10))) + 2) (eI (eI M 1 ((498 + (7 * (M.1 1 10))) + 0).toNatClampNeg x1) 1 ((498 + (7 * (M.1 1 10))) + 1).toNatClampNeg x2)
set_option maxRecDepth 100000 in
set_option maxHeartbeats 4000000 in
theorem ev_X10_comes (x1 : Int32) (x2 : Int32) (x3 : Int32) (x4 : Int32) (x5 : Int32) (x6 : Int32) (M : eMem) (q : (Int32 × eMem)) (h : F_X10_comes x1 x2 x3 x4 x5 x6 M = some q) : Ev layR 0 m_X10_comes 0 [some (.ref 0), some (.int x1), some (.int x2), some (.int x3), some (.int x4), some (.int x5), some (.int x6), none] [] M (some (.int q.1), q.2) := by
  rw [F_X10_comes] at h
  refine Ev.aload_n (pc := 0) dX10_comes_0 rfl ?_
  refine Ev.getR (pc := 1) dX10_comes_1 fl_RX10_7 lR_0 rfl ?_
  refine Ev.bipush (pc := 4) dX10_comes_4 (v := 10) (by decide) ?_
  refine Ev.ialdj (pc := 6) dX10_comes_6 (j := 10) lR_1 (by decide) (by decide) ?_
  refine Ev.bipush (pc := 7) dX10_comes_7 (v := 90) (by decide) ?_
  refine Ev.icmp_ne (pc := 9) (tgt := 14) dX10_comes_9 (by decide) (fun c9 => ?_) (fun c9 => ?_)
  · have h := eF h c9
    refine Ev.sipush (pc := 14) dX10_comes_14 (v := 498) (by decide) ?_
    refine Ev.bipush (pc := 17) dX10_comes_17 (v := 7) (by decide) ?_
    refine Ev.aload_n (pc := 19) dX10_comes_19 rfl ?_
    refine Ev.getR (pc := 20) dX10_comes_20 fl_RX10_7 lR_0 rfl ?_
    refine Ev.bipush (pc := 23) dX10_comes_23 (v := 10) (by decide) ?_
    refine Ev.ialdj (pc := 25) dX10_comes_25 (j := 10) lR_1 (by decide) (by decide) ?_
    refine Ev.imul (pc := 26) dX10_comes_26 ?_
    refine Ev.iadd (pc := 27) dX10_comes_27 ?_
    refine Ev.istore (pc := 28) dX10_comes_28 (by decide) rfl rfl ?_
    refine Ev.aload_n (pc := 30) dX10_comes_30 rfl ?_
    refine Ev.getR (pc := 31) dX10_comes_31 fl_RX10_7 lR_0 rfl ?_
    refine Ev.iload (pc := 34) dX10_comes_34 rfl ?_
    refine Ev.iconst (pc := 36) dX10_comes_36 (v := 0) (by decide) ?_
    refine Ev.iadd (pc := 37) dX10_comes_37 ?_
    refine Ev.iload_n (pc := 38) dX10_comes_38 rfl ?_
    obtain ⟨g9, h⟩ := eGdB h
    refine Ev.iastj (pc := 39) dX10_comes_39 (j := ((498 + (7 * (M.1 1 10))) + 0).toNatClampNeg) lR_1 g9 rfl ?_
    refine Ev.aload_n (pc := 40) dX10_comes_40 rfl ?_
    refine Ev.getR (pc := 41) dX10_comes_41 fl_RX10_7 lR_0 rfl ?_
    refine Ev.iload (pc := 44) dX10_comes_44 rfl ?_
    refine Ev.iconst (pc := 46) dX10_comes_46 (v := 1) (by decide) ?_
    refine Ev.iadd (pc := 47) dX10_comes_47 ?_
    refine Ev.iload_n (pc := 48) dX10_comes_48 rfl ?_
    obtain ⟨g9, h⟩ := eGdB h
    refine Ev.iastj (pc := 49) dX10_comes_49 (j := ((498 + (7 * (M.1 1 10))) + 1).toNatClampNeg) lR_1 g9 rfl ?_
    refine Ev.aload_n (pc := 50) dX10_comes_50 rfl ?_
    refine Ev.getR (pc := 51) dX10_comes_51 fl_RX10_7 lR_0 rfl ?_
    refine Ev.iload (pc := 54) dX10_comes_54 rfl ?_
    refine Ev.iconst (pc := 56) dX10_comes_56 (v := 2) (by decide) ?_
    refine Ev.iadd (pc := 57) dX10_comes_57 ?_
    refine Ev.iload_n (pc := 58) dX10_comes_58 rfl ?_
    refine Ev.if_eq (pc := 59) (tgt := 66) dX10_comes_59 (by decide) (fun c9 => ?_) (fun c9 => ?_)
    · have h := eT h c9
      refine Ev.iconst (pc := 66) dX10_comes_66 (v := 0) (by decide) ?_
      exact Ev.fg (ev_X10_comes_67 _ _ _ _ _ _ _ _ h) (And.intro rfl (And.intro rfl (And.intro rfl (And.intro rfl (And.intro rfl trivial)))))
    · have h := eF h c9
      refine Ev.iconst (pc := 62) dX10_comes_62 (v := 1) (by decide) ?_
      refine Ev.goto (pc := 63) (tgt := 67) dX10_comes_63 (by decide) ?_
      exact Ev.fg (ev_X10_comes_67 _ _ _ _ _ _ _ _ h) (And.intro rfl (And.intro rfl (And.intro rfl (And.intro rfl (And.intro rfl trivial)))))
  · have h := eT h c9
    refine Ev.iconst (pc := 12) dX10_comes_12 (v := (-1)) (by decide) ?_
    obtain rfl := Option.some.inj h
    exact Ev.iret (pc := 13) dX10_comes_13 rfl rfl
theorem dX10_tell_0 : decode cX10_tell 0 = .ok (.aload_n 0, 1) := by decide +kernel
theorem dX10_tell_1 : decode cX10_tell 1 = .ok (.iload_n 1, 1) := by decide +kernel
theorem dX10_tell_2 : decode cX10_tell 2 = .ok (.invokevirtual 109, 3) := by decide +kernel
theorem dX10_tell_5 : decode cX10_tell 5 = .ok (.ifCond .ne 9, 3) := by decide +kernel
theorem dX10_tell_8 : decode cX10_tell 8 = .ok (.aload_n 0, 1) := by decide +kernel
theorem dX10_tell_9 : decode cX10_tell 9 = .ok (.iconst 1, 1) := by decide +kernel
theorem dX10_tell_10 : decode cX10_tell 10 = .ok (.invokevirtual 66, 3) := by decide +kernel
theorem dX10_tell_13 : decode cX10_tell 13 = .ok (.ireturn, 1) := by decide +kernel
theorem dX10_tell_14 : decode cX10_tell 14 = .ok (.aload_n 0, 1) := by decide +kernel
theorem dX10_tell_15 : decode cX10_tell 15 = .ok (.iload_n 1, 1) := by decide +kernel
theorem dX10_tell_16 : decode cX10_tell 16 = .ok (.iconst 0, 1) := by decide +kernel
theorem dX10_tell_17 : decode cX10_tell 17 = .ok (.invokevirtual 77, 3) := by decide +kernel
theorem dX10_tell_20 : decode cX10_tell 20 = .ok (.iconst 4, 1) := by decide +kernel
theorem dX10_tell_21 : decode cX10_tell 21 = .ok (.if_icmp .eq 9, 3) := by decide +kernel
theorem dX10_tell_24 : decode cX10_tell 24 = .ok (.aload_n 0, 1) := by decide +kernel
theorem dX10_tell_25 : decode cX10_tell 25 = .ok (.iconst 3, 1) := by decide +kernel
theorem dX10_tell_26 : decode cX10_tell 26 = .ok (.invokevirtual 66, 3) := by decide +kernel
theorem dX10_tell_29 : decode cX10_tell 29 = .ok (.ireturn, 1) := by decide +kernel
theorem dX10_tell_30 : decode cX10_tell 30 = .ok (.aload_n 0, 1) := by decide +kernel
theorem dX10_tell_31 : decode cX10_tell 31 = .ok (.iload_n 1, 1) := by decide +kernel
theorem dX10_tell_32 : decode cX10_tell 32 = .ok (.invokevirtual 80, 3) := by decide +kernel
theorem dX10_tell_35 : decode cX10_tell 35 = .ok (.ifCond .ne 9, 3) := by decide +kernel
theorem dX10_tell_38 : decode cX10_tell 38 = .ok (.aload_n 0, 1) := by decide +kernel
theorem dX10_tell_39 : decode cX10_tell 39 = .ok (.iconst 5, 1) := by decide +kernel
theorem dX10_tell_40 : decode cX10_tell 40 = .ok (.invokevirtual 66, 3) := by decide +kernel
theorem dX10_tell_43 : decode cX10_tell 43 = .ok (.ireturn, 1) := by decide +kernel
theorem dX10_tell_44 : decode cX10_tell 44 = .ok (.aload_n 0, 1) := by decide +kernel
theorem dX10_tell_45 : decode cX10_tell 45 = .ok (.iload_n 1, 1) := by decide +kernel
theorem dX10_tell_46 : decode cX10_tell 46 = .ok (.iconst 4, 1) := by decide +kernel
theorem dX10_tell_47 : decode cX10_tell 47 = .ok (.invokevirtual 77, 3) := by decide +kernel
theorem dX10_tell_50 : decode cX10_tell 50 = .ok (.ifCond .ne 9, 3) := by decide +kernel
theorem dX10_tell_53 : decode cX10_tell 53 = .ok (.aload_n 0, 1) := by decide +kernel
theorem dX10_tell_54 : decode cX10_tell 54 = .ok (.iconst 4, 1) := by decide +kernel
theorem dX10_tell_55 : decode cX10_tell 55 = .ok (.invokevirtual 66, 3) := by decide +kernel
theorem dX10_tell_58 : decode cX10_tell 58 = .ok (.ireturn, 1) := by decide +kernel
theorem dX10_tell_59 : decode cX10_tell 59 = .ok (.aload_n 0, 1) := by decide +kernel
theorem dX10_tell_60 : decode cX10_tell 60 = .ok (.getfield 7, 3) := by decide +kernel
theorem dX10_tell_63 : decode cX10_tell 63 = .ok (.bipush 10, 2) := by decide +kernel
theorem dX10_tell_65 : decode cX10_tell 65 = .ok (.iaload, 1) := by decide +kernel
theorem dX10_tell_66 : decode cX10_tell 66 = .ok (.bipush 90, 2) := by decide +kernel
theorem dX10_tell_68 : decode cX10_tell 68 = .ok (.if_icmp .ne 9, 3) := by decide +kernel
theorem dX10_tell_71 : decode cX10_tell 71 = .ok (.aload_n 0, 1) := by decide +kernel
theorem dX10_tell_72 : decode cX10_tell 72 = .ok (.iconst 2, 1) := by decide +kernel
theorem dX10_tell_73 : decode cX10_tell 73 = .ok (.invokevirtual 66, 3) := by decide +kernel
theorem dX10_tell_76 : decode cX10_tell 76 = .ok (.ireturn, 1) := by decide +kernel
theorem dX10_tell_77 : decode cX10_tell 77 = .ok (.aload_n 0, 1) := by decide +kernel
theorem dX10_tell_78 : decode cX10_tell 78 = .ok (.iload_n 1, 1) := by decide +kernel
theorem dX10_tell_79 : decode cX10_tell 79 = .ok (.iconst 4, 1) := by decide +kernel
theorem dX10_tell_80 : decode cX10_tell 80 = .ok (.aload_n 0, 1) := by decide +kernel
theorem dX10_tell_81 : decode cX10_tell 81 = .ok (.iload_n 1, 1) := by decide +kernel
theorem dX10_tell_82 : decode cX10_tell 82 = .ok (.iconst 4, 1) := by decide +kernel
theorem dX10_tell_83 : decode cX10_tell 83 = .ok (.invokevirtual 77, 3) := by decide +kernel
theorem dX10_tell_86 : decode cX10_tell 86 = .ok (.iconst 1, 1) := by decide +kernel
theorem dX10_tell_87 : decode cX10_tell 87 = .ok (.isub, 1) := by decide +kernel
theorem dX10_tell_88 : decode cX10_tell 88 = .ok (.invokevirtual 105, 3) := by decide +kernel
theorem dX10_tell_91 : decode cX10_tell 91 = .ok (.aload_n 0, 1) := by decide +kernel
theorem dX10_tell_92 : decode cX10_tell 92 = .ok (.iconst 2, 1) := by decide +kernel
theorem dX10_tell_93 : decode cX10_tell 93 = .ok (.aload_n 0, 1) := by decide +kernel
theorem dX10_tell_94 : decode cX10_tell 94 = .ok (.iload_n 1, 1) := by decide +kernel
theorem dX10_tell_95 : decode cX10_tell 95 = .ok (.iconst 1, 1) := by decide +kernel
theorem dX10_tell_96 : decode cX10_tell 96 = .ok (.invokevirtual 77, 3) := by decide +kernel
theorem dX10_tell_99 : decode cX10_tell 99 = .ok (.iconst 1, 1) := by decide +kernel
theorem dX10_tell_100 : decode cX10_tell 100 = .ok (.aload_n 0, 1) := by decide +kernel
theorem dX10_tell_101 : decode cX10_tell 101 = .ok (.getfield 7, 3) := by decide +kernel
theorem dX10_tell_104 : decode cX10_tell 104 = .ok (.iconst 0, 1) := by decide +kernel
theorem dX10_tell_105 : decode cX10_tell 105 = .ok (.iaload, 1) := by decide +kernel
theorem dX10_tell_106 : decode cX10_tell 106 = .ok (.aload_n 0, 1) := by decide +kernel
theorem dX10_tell_107 : decode cX10_tell 107 = .ok (.getfield 7, 3) := by decide +kernel
theorem dX10_tell_110 : decode cX10_tell 110 = .ok (.iconst 0, 1) := by decide +kernel
theorem dX10_tell_111 : decode cX10_tell 111 = .ok (.iaload, 1) := by decide +kernel
theorem dX10_tell_112 : decode cX10_tell 112 = .ok (.iload_n 1, 1) := by decide +kernel
theorem dX10_tell_113 : decode cX10_tell 113 = .ok (.invokevirtual 130, 3) := by decide +kernel
theorem dX10_tell_116 : decode cX10_tell 116 = .ok (.ireturn, 1) := by decide +kernel
def F_X10_tell (x1 : Int32) (M : eMem) : Option (Int32 × eMem) :=
  (F_X10_isShow x1 M).bind fun q1 =>
  if q1 = 0 then
    (F_X10_finding 1 M).bind fun q13 =>
    some (q13.1, q13.2)
  else
    (F_X10_show x1 0 M).bind fun q2 =>
    if q2 = 4 then
      (F_X10_isShown x1 M).bind fun q3 =>
      if q3 = 0 then
        (F_X10_finding 5 M).bind fun q11 =>
        some (q11.1, q11.2)
      else
        (F_X10_show x1 4 M).bind fun q4 =>
        if q4 = 0 then
          (F_X10_finding 4 M).bind fun q10 =>
          some (q10.1, q10.2)
        else
          if (M.1 1 10) = 90 then
            (F_X10_finding 2 M).bind fun q9 =>
            some (q9.1, q9.2)
          else
            (F_X10_show x1 4 M).bind fun q5 =>
            (F_X10_setShow x1 4 (q5 - 1) M).bind fun q6 =>
            (F_X10_show x1 1 q6).bind fun q7 =>
            (F_X10_comes 2 q7 1 (q6.1 1 0) (q6.1 1 0) x1 q6).bind fun q8 =>
            some (q8.1, q8.2)
    else
      (F_X10_finding 3 M).bind fun q12 =>
      some (q12.1, q12.2)
set_option maxRecDepth 100000 in
set_option maxHeartbeats 4000000 in
theorem ev_X10_tell (x1 : Int32) (M : eMem) (q : (Int32 × eMem)) (h : F_X10_tell x1 M = some q) : Ev layR 7 m_X10_tell 0 [some (.ref 0), some (.int x1)] [] M (some (.int q.1), q.2) := by
  rw [F_X10_tell] at h
  refine Ev.aload_n (pc := 0) dX10_tell_0 rfl ?_
  refine Ev.iload_n (pc := 1) dX10_tell_1 rfl ?_
  refine eBk h (fun q1 hq1 h => ?_)
  refine Ev.callV (pc := 2) (as := [.int x1]) (st := []) (z := 0) dX10_tell_2 wc_X10_isShow ml_RX10_109 im_X10_isShow se_X10_isShow lR_0 rfl rfl (ev_X10_isShow x1 M _ hq1) rfl rfl (by decide) rfl rfl (Nat.le_of_ble_eq_true rfl) ?_
  refine Ev.if_ne (pc := 5) (tgt := 14) dX10_tell_5 (by decide) (fun c9 => ?_) (fun c9 => ?_)
  · have h := eF h c9
    refine Ev.aload_n (pc := 14) dX10_tell_14 rfl ?_
    refine Ev.iload_n (pc := 15) dX10_tell_15 rfl ?_
    refine Ev.iconst (pc := 16) dX10_tell_16 (v := 0) (by decide) ?_
    refine eBk h (fun q2 hq2 h => ?_)
    refine Ev.callV (pc := 17) (as := [.int x1, .int 0]) (st := []) (z := 0) dX10_tell_17 wc_X10_show ml_RX10_77 im_X10_show se_X10_show lR_0 rfl rfl (ev_X10_show x1 0 M _ hq2) rfl rfl (by decide) rfl rfl (Nat.le_of_ble_eq_true rfl) ?_
    refine Ev.iconst (pc := 20) dX10_tell_20 (v := 4) (by decide) ?_
    refine Ev.icmp_eq (pc := 21) (tgt := 30) dX10_tell_21 (by decide) (fun c9 => ?_) (fun c9 => ?_)
    · have h := eT h c9
      refine Ev.aload_n (pc := 30) dX10_tell_30 rfl ?_
      refine Ev.iload_n (pc := 31) dX10_tell_31 rfl ?_
      refine eBk h (fun q3 hq3 h => ?_)
      refine Ev.callV (pc := 32) (as := [.int x1]) (st := []) (z := 0) dX10_tell_32 wc_X10_isShown ml_RX10_80 im_X10_isShown se_X10_isShown lR_0 rfl rfl (ev_X10_isShown x1 M _ hq3) rfl rfl (by decide) rfl rfl (Nat.le_of_ble_eq_true rfl) ?_
      refine Ev.if_ne (pc := 35) (tgt := 44) dX10_tell_35 (by decide) (fun c9 => ?_) (fun c9 => ?_)
      · have h := eF h c9
        refine Ev.aload_n (pc := 44) dX10_tell_44 rfl ?_
        refine Ev.iload_n (pc := 45) dX10_tell_45 rfl ?_
        refine Ev.iconst (pc := 46) dX10_tell_46 (v := 4) (by decide) ?_
        refine eBk h (fun q4 hq4 h => ?_)
        refine Ev.callV (pc := 47) (as := [.int x1, .int 4]) (st := []) (z := 0) dX10_tell_47 wc_X10_show ml_RX10_77 im_X10_show se_X10_show lR_0 rfl rfl (ev_X10_show x1 4 M _ hq4) rfl rfl (by decide) rfl rfl (Nat.le_of_ble_eq_true rfl) ?_
        refine Ev.if_ne (pc := 50) (tgt := 59) dX10_tell_50 (by decide) (fun c9 => ?_) (fun c9 => ?_)
        · have h := eF h c9
          refine Ev.aload_n (pc := 59) dX10_tell_59 rfl ?_
          refine Ev.getR (pc := 60) dX10_tell_60 fl_RX10_7 lR_0 rfl ?_
          refine Ev.bipush (pc := 63) dX10_tell_63 (v := 10) (by decide) ?_
          refine Ev.ialdj (pc := 65) dX10_tell_65 (j := 10) lR_1 (by decide) (by decide) ?_
          refine Ev.bipush (pc := 66) dX10_tell_66 (v := 90) (by decide) ?_
          refine Ev.icmp_ne (pc := 68) (tgt := 77) dX10_tell_68 (by decide) (fun c9 => ?_) (fun c9 => ?_)
          · have h := eF h c9
            refine Ev.aload_n (pc := 77) dX10_tell_77 rfl ?_
            refine Ev.iload_n (pc := 78) dX10_tell_78 rfl ?_
            refine Ev.iconst (pc := 79) dX10_tell_79 (v := 4) (by decide) ?_
            refine Ev.aload_n (pc := 80) dX10_tell_80 rfl ?_
            refine Ev.iload_n (pc := 81) dX10_tell_81 rfl ?_
            refine Ev.iconst (pc := 82) dX10_tell_82 (v := 4) (by decide) ?_
            refine eBk h (fun q5 hq5 h => ?_)
            refine Ev.callV (pc := 83) (as := [.int x1, .int 4]) (st := [.int 4, .int x1, .ref 0]) (z := 0) dX10_tell_83 wc_X10_show ml_RX10_77 im_X10_show se_X10_show lR_0 rfl rfl (ev_X10_show x1 4 M _ hq5) rfl rfl (by decide) rfl rfl (Nat.le_of_ble_eq_true rfl) ?_
            refine Ev.iconst (pc := 86) dX10_tell_86 (v := 1) (by decide) ?_
            refine Ev.isub (pc := 87) dX10_tell_87 ?_
            refine eBk h (fun q6 hq6 h => ?_)
            refine Ev.callV (pc := 88) (as := [.int x1, .int 4, .int (q5 - 1)]) (st := []) (z := 0) dX10_tell_88 wc_X10_setShow ml_RX10_105 im_X10_setShow se_X10_setShow lR_0 rfl rfl (ev_X10_setShow x1 4 (q5 - 1) M _ hq6) rfl rfl (by decide) rfl rfl (Nat.le_of_ble_eq_true rfl) ?_
            refine Ev.aload_n (pc := 91) dX10_tell_91 rfl ?_
            refine Ev.iconst (pc := 92) dX10_tell_92 (v := 2) (by decide) ?_
            refine Ev.aload_n (pc := 93) dX10_tell_93 rfl ?_
            refine Ev.iload_n (pc := 94) dX10_tell_94 rfl ?_
            refine Ev.iconst (pc := 95) dX10_tell_95 (v := 1) (by decide) ?_
            refine eBk h (fun q7 hq7 h => ?_)
            refine Ev.callV (pc := 96) (as := [.int x1, .int 1]) (st := [.int 2, .ref 0]) (z := 0) dX10_tell_96 wc_X10_show ml_RX10_77 im_X10_show se_X10_show lR_0 rfl rfl (ev_X10_show x1 1 q6 _ hq7) rfl rfl (by decide) rfl rfl (Nat.le_of_ble_eq_true rfl) ?_
            refine Ev.iconst (pc := 99) dX10_tell_99 (v := 1) (by decide) ?_
            refine Ev.aload_n (pc := 100) dX10_tell_100 rfl ?_
            refine Ev.getR (pc := 101) dX10_tell_101 fl_RX10_7 lR_0 rfl ?_
            refine Ev.iconst (pc := 104) dX10_tell_104 (v := 0) (by decide) ?_
            refine Ev.ialdj (pc := 105) dX10_tell_105 (j := 0) lR_1 (by decide) (by decide) ?_
            refine Ev.aload_n (pc := 106) dX10_tell_106 rfl ?_
            refine Ev.getR (pc := 107) dX10_tell_107 fl_RX10_7 lR_0 rfl ?_
            refine Ev.iconst (pc := 110) dX10_tell_110 (v := 0) (by decide) ?_
            refine Ev.ialdj (pc := 111) dX10_tell_111 (j := 0) lR_1 (by decide) (by decide) ?_
            refine Ev.iload_n (pc := 112) dX10_tell_112 rfl ?_
            refine eBk h (fun q8 hq8 h => ?_)
            refine Ev.callV (pc := 113) (as := [.int 2, .int q7, .int 1, .int (q6.1 1 0), .int (q6.1 1 0), .int x1]) (st := []) (z := 1) dX10_tell_113 wc_X10_comes ml_RX10_130 im_X10_comes se_X10_comes lR_0 rfl rfl (ev_X10_comes 2 q7 1 (q6.1 1 0) (q6.1 1 0) x1 q6 _ hq8) rfl rfl (by decide) rfl rfl (Nat.le_of_ble_eq_true rfl) ?_
            obtain rfl := Option.some.inj h
            exact Ev.iret (pc := 116) dX10_tell_116 rfl rfl
          · have h := eT h c9
            refine Ev.aload_n (pc := 71) dX10_tell_71 rfl ?_
            refine Ev.iconst (pc := 72) dX10_tell_72 (v := 2) (by decide) ?_
            refine eBk h (fun q9 hq9 h => ?_)
            refine Ev.callV (pc := 73) (as := [.int 2]) (st := []) (z := 0) dX10_tell_73 wc_X10_finding ml_RX10_66 im_X10_finding se_X10_finding lR_0 rfl rfl (ev_X10_finding 2 M _ hq9) rfl rfl (by decide) rfl rfl (Nat.le_of_ble_eq_true rfl) ?_
            obtain rfl := Option.some.inj h
            exact Ev.iret (pc := 76) dX10_tell_76 rfl rfl
        · have h := eT h c9
          refine Ev.aload_n (pc := 53) dX10_tell_53 rfl ?_
          refine Ev.iconst (pc := 54) dX10_tell_54 (v := 4) (by decide) ?_
          refine eBk h (fun q10 hq10 h => ?_)
          refine Ev.callV (pc := 55) (as := [.int 4]) (st := []) (z := 0) dX10_tell_55 wc_X10_finding ml_RX10_66 im_X10_finding se_X10_finding lR_0 rfl rfl (ev_X10_finding 4 M _ hq10) rfl rfl (by decide) rfl rfl (Nat.le_of_ble_eq_true rfl) ?_
          obtain rfl := Option.some.inj h
          exact Ev.iret (pc := 58) dX10_tell_58 rfl rfl
      · have h := eT h c9
        refine Ev.aload_n (pc := 38) dX10_tell_38 rfl ?_
        refine Ev.iconst (pc := 39) dX10_tell_39 (v := 5) (by decide) ?_
        refine eBk h (fun q11 hq11 h => ?_)
        refine Ev.callV (pc := 40) (as := [.int 5]) (st := []) (z := 0) dX10_tell_40 wc_X10_finding ml_RX10_66 im_X10_finding se_X10_finding lR_0 rfl rfl (ev_X10_finding 5 M _ hq11) rfl rfl (by decide) rfl rfl (Nat.le_of_ble_eq_true rfl) ?_
        obtain rfl := Option.some.inj h
        exact Ev.iret (pc := 43) dX10_tell_43 rfl rfl
    · have h := eF h c9
      refine Ev.aload_n (pc := 24) dX10_tell_24 rfl ?_
      refine Ev.iconst (pc := 25) dX10_tell_25 (v := 3) (by decide) ?_
      refine eBk h (fun q12 hq12 h => ?_)
      refine Ev.callV (pc := 26) (as := [.int 3]) (st := []) (z := 0) dX10_tell_26 wc_X10_finding ml_RX10_66 im_X10_finding se_X10_finding lR_0 rfl rfl (ev_X10_finding 3 M _ hq12) rfl rfl (by decide) rfl rfl (Nat.le_of_ble_eq_true rfl) ?_
      obtain rfl := Option.some.inj h
      exact Ev.iret (pc := 29) dX10_tell_29 rfl rfl
  · have h := eT h c9
    refine Ev.aload_n (pc := 8) dX10_tell_8 rfl ?_
    refine Ev.iconst (pc := 9) dX10_tell_9 (v := 1) (by decide) ?_
    refine eBk h (fun q13 hq13 h => ?_)
    refine Ev.callV (pc := 10) (as := [.int 1]) (st := []) (z := 0) dX10_tell_10 wc_X10_finding ml_RX10_66 im_X10_finding se_X10_finding lR_0 rfl rfl (ev_X10_finding 1 M _ hq13) rfl rfl (by decide) rfl rfl (Nat.le_of_ble_eq_true rfl) ?_
    obtain rfl := Option.some.inj h
    exact Ev.iret (pc := 13) dX10_tell_13 rfl rfl
theorem dX8_reportStory_0 : decode cX8_reportStory 0 = .ok (.aload_n 0, 1) := by decide +kernel
theorem dX8_reportStory_1 : decode cX8_reportStory 1 = .ok (.getfield 35, 3) := by decide +kernel
theorem dX8_reportStory_4 : decode cX8_reportStory 4 = .ok (.iload_n 1, 1) := by decide +kernel
theorem dX8_reportStory_5 : decode cX8_reportStory 5 = .ok (.iload_n 2, 1) := by decide +kernel
theorem dX8_reportStory_6 : decode cX8_reportStory 6 = .ok (.iload_n 3, 1) := by decide +kernel
theorem dX8_reportStory_7 : decode cX8_reportStory 7 = .ok (.aload_n 0, 1) := by decide +kernel
theorem dX8_reportStory_8 : decode cX8_reportStory 8 = .ok (.getfield 12, 3) := by decide +kernel
theorem dX8_reportStory_11 : decode cX8_reportStory 11 = .ok (.getfield 85, 3) := by decide +kernel
theorem dX8_reportStory_14 : decode cX8_reportStory 14 = .ok (.iload 4, 2) := by decide +kernel
theorem dX8_reportStory_16 : decode cX8_reportStory 16 = .ok (.iconst (-1), 1) := by decide +kernel
theorem dX8_reportStory_17 : decode cX8_reportStory 17 = .ok (.invokevirtual 146, 3) := by decide +kernel
theorem dX8_reportStory_20 : decode cX8_reportStory 20 = .ok (.return_, 1) := by decide +kernel
def F_X8_reportStory (x1 : Int32) (x2 : Int32) (x3 : Int32) (x4 : Int32) (M : eMem) : Option eMem :=
  (F_X1_add x1 x2 x3 (M.1 2 11) x4 (-1) M).bind fun q1 =>
  some q1
set_option maxRecDepth 100000 in
set_option maxHeartbeats 4000000 in
theorem ev_X8_reportStory (x1 : Int32) (x2 : Int32) (x3 : Int32) (x4 : Int32) (M : eMem) (q : eMem) (h : F_X8_reportStory x1 x2 x3 x4 M = some q) : Ev layC 2 m_X8_reportStory 0 [some (.ref 1), some (.int x1), some (.int x2), some (.int x3), some (.int x4)] [] M (none, q) := by
  rw [F_X8_reportStory] at h
  refine Ev.aload_n (pc := 0) dX8_reportStory_0 rfl ?_
  refine Ev.getR (pc := 1) dX8_reportStory_1 fl_RX8_35 lC_1 rfl ?_
  refine Ev.iload_n (pc := 4) dX8_reportStory_4 rfl ?_
  refine Ev.iload_n (pc := 5) dX8_reportStory_5 rfl ?_
  refine Ev.iload_n (pc := 6) dX8_reportStory_6 rfl ?_
  refine Ev.aload_n (pc := 7) dX8_reportStory_7 rfl ?_
  refine Ev.getR (pc := 8) dX8_reportStory_8 fl_RX8_12 lC_1 rfl ?_
  refine Ev.getI (pc := 11) dX8_reportStory_11 fl_RX8_85 lC_2 rfl ?_
  refine Ev.iload (pc := 14) dX8_reportStory_14 rfl ?_
  refine Ev.iconst (pc := 16) dX8_reportStory_16 (v := (-1)) (by decide) ?_
  refine eBk h (fun q1 hq1 h => ?_)
  refine Ev.callV (pc := 17) (as := [.int x1, .int x2, .int x3, .int (M.1 2 11), .int x4, .int (-1)]) (st := []) (z := 0) dX8_reportStory_17 wc_X1_add ml_RX8_146 im_X1_add se_X1_add lC_29 rfl rfl (ev_X1_add x1 x2 x3 (M.1 2 11) x4 (-1) M _ hq1) rfl rfl (by decide) rfl rfl (Nat.le_of_ble_eq_true rfl) ?_
  obtain rfl := Option.some.inj h
  exact Ev.vret (pc := 20) dX8_reportStory_20 rfl
theorem dX9_prisoner_0 : decode cX9_prisoner 0 = .ok (.iload_n 1, 1) := by decide +kernel
theorem dX9_prisoner_1 : decode cX9_prisoner 1 = .ok (.iconst 4, 1) := by decide +kernel
theorem dX9_prisoner_2 : decode cX9_prisoner 2 = .ok (.invokestatic 37, 3) := by decide +kernel
theorem dX9_prisoner_5 : decode cX9_prisoner 5 = .ok (.ifCond .ne 10, 3) := by decide +kernel
theorem dX9_prisoner_8 : decode cX9_prisoner 8 = .ok (.aload_n 0, 1) := by decide +kernel
theorem dX9_prisoner_9 : decode cX9_prisoner 9 = .ok (.ldc 41, 2) := by decide +kernel
theorem dX9_prisoner_11 : decode cX9_prisoner 11 = .ok (.invokevirtual 42, 3) := by decide +kernel
theorem dX9_prisoner_14 : decode cX9_prisoner 14 = .ok (.ireturn, 1) := by decide +kernel
theorem dX9_prisoner_15 : decode cX9_prisoner 15 = .ok (.aload_n 0, 1) := by decide +kernel
theorem dX9_prisoner_16 : decode cX9_prisoner 16 = .ok (.getfield 12, 3) := by decide +kernel
theorem dX9_prisoner_19 : decode cX9_prisoner 19 = .ok (.getfield 212, 3) := by decide +kernel
theorem dX9_prisoner_22 : decode cX9_prisoner 22 = .ok (.invokevirtual 216, 3) := by decide +kernel
theorem dX9_prisoner_25 : decode cX9_prisoner 25 = .ok (.iconst 1, 1) := by decide +kernel
theorem dX9_prisoner_26 : decode cX9_prisoner 26 = .ok (.if_icmp .ge 10, 3) := by decide +kernel
theorem dX9_prisoner_29 : decode cX9_prisoner 29 = .ok (.aload_n 0, 1) := by decide +kernel
theorem dX9_prisoner_30 : decode cX9_prisoner 30 = .ok (.ldc 63, 2) := by decide +kernel
theorem dX9_prisoner_32 : decode cX9_prisoner 32 = .ok (.invokevirtual 42, 3) := by decide +kernel
theorem dX9_prisoner_35 : decode cX9_prisoner 35 = .ok (.ireturn, 1) := by decide +kernel
theorem dX9_prisoner_36 : decode cX9_prisoner 36 = .ok (.aload_n 0, 1) := by decide +kernel
theorem dX9_prisoner_37 : decode cX9_prisoner 37 = .ok (.getfield 12, 3) := by decide +kernel
theorem dX9_prisoner_40 : decode cX9_prisoner 40 = .ok (.iconst 4, 1) := by decide +kernel
theorem dX9_prisoner_41 : decode cX9_prisoner 41 = .ok (.iload_n 1, 1) := by decide +kernel
theorem dX9_prisoner_42 : decode cX9_prisoner 42 = .ok (.iload_n 2, 1) := by decide +kernel
theorem dX9_prisoner_43 : decode cX9_prisoner 43 = .ok (.aload_n 0, 1) := by decide +kernel
theorem dX9_prisoner_44 : decode cX9_prisoner 44 = .ok (.getfield 12, 3) := by decide +kernel
theorem dX9_prisoner_47 : decode cX9_prisoner 47 = .ok (.getfield 46, 3) := by decide +kernel
theorem dX9_prisoner_50 : decode cX9_prisoner 50 = .ok (.getfield 99, 3) := by decide +kernel
theorem dX9_prisoner_53 : decode cX9_prisoner 53 = .ok (.invokevirtual 227, 3) := by decide +kernel
theorem dX9_prisoner_56 : decode cX9_prisoner 56 = .ok (.aload_n 0, 1) := by decide +kernel
theorem dX9_prisoner_57 : decode cX9_prisoner 57 = .ok (.getfield 12, 3) := by decide +kernel
theorem dX9_prisoner_60 : decode cX9_prisoner 60 = .ok (.getfield 212, 3) := by decide +kernel
theorem dX9_prisoner_63 : decode cX9_prisoner 63 = .ok (.getfield 226, 3) := by decide +kernel
theorem dX9_prisoner_66 : decode cX9_prisoner 66 = .ok (.iconst 1, 1) := by decide +kernel
theorem dX9_prisoner_67 : decode cX9_prisoner 67 = .ok (.isub, 1) := by decide +kernel
theorem dX9_prisoner_68 : decode cX9_prisoner 68 = .ok (.ireturn, 1) := by decide +kernel
def F_X9_prisoner (x1 : Int32) (x2 : Int32) (M : eMem) : Option (Int32 × eMem) :=
  (F_X9_isIn x1 4).bind fun q1 =>
  if q1 = 0 then
    (F_X9_found (-1000001) M).bind fun q5 =>
    some (q5.1, q5.2)
  else
    (F_X1_room M).bind fun q2 =>
    if q2 < 1 then
      (F_X9_found (-1000002) M).bind fun q4 =>
      some (q4.1, q4.2)
    else
      (F_X8_reportStory 4 x1 x2 (M.1 2 11) M).bind fun q3 =>
      some (((q3.1 29 7) - 1), q3)
set_option maxRecDepth 100000 in
set_option maxHeartbeats 4000000 in
theorem ev_X9_prisoner (x1 : Int32) (x2 : Int32) (M : eMem) (q : (Int32 × eMem)) (h : F_X9_prisoner x1 x2 M = some q) : Ev layC 3 m_X9_prisoner 0 [some (.ref 0), some (.int x1), some (.int x2)] [] M (some (.int q.1), q.2) := by
  rw [F_X9_prisoner] at h
  refine Ev.iload_n (pc := 0) dX9_prisoner_0 rfl ?_
  refine Ev.iconst (pc := 1) dX9_prisoner_1 (v := 4) (by decide) ?_
  refine eBk h (fun q1 hq1 h => ?_)
  refine Ev.callS (pc := 2) (as := [.int x1, .int 4]) (st := []) (z := 0) dX9_prisoner_2 wc_X9_isIn ml_RX9_37 sm_X9_isIn (ev_X9_isIn x1 4 M _ hq1) rfl rfl (by decide) rfl rfl (Nat.le_of_ble_eq_true rfl) ?_
  refine Ev.if_ne (pc := 5) (tgt := 15) dX9_prisoner_5 (by decide) (fun c9 => ?_) (fun c9 => ?_)
  · have h := eF h c9
    refine Ev.aload_n (pc := 15) dX9_prisoner_15 rfl ?_
    refine Ev.getR (pc := 16) dX9_prisoner_16 fl_RX9_12 lC_0 rfl ?_
    refine Ev.getR (pc := 19) dX9_prisoner_19 fl_RX9_212 lC_1 rfl ?_
    refine eBk h (fun q2 hq2 h => ?_)
    refine Ev.callV (pc := 22) (as := []) (st := []) (z := 0) dX9_prisoner_22 wc_X1_room ml_RX9_216 im_X1_room se_X1_room lC_29 rfl rfl (ev_X1_room  M _ hq2) rfl rfl (by decide) rfl rfl (Nat.le_of_ble_eq_true rfl) ?_
    refine Ev.iconst (pc := 25) dX9_prisoner_25 (v := 1) (by decide) ?_
    refine Ev.icmp_ge (pc := 26) (tgt := 36) dX9_prisoner_26 (by decide) (fun c9 => ?_) (fun c9 => ?_)
    · have h := eF h c9
      refine Ev.aload_n (pc := 36) dX9_prisoner_36 rfl ?_
      refine Ev.getR (pc := 37) dX9_prisoner_37 fl_RX9_12 lC_0 rfl ?_
      refine Ev.iconst (pc := 40) dX9_prisoner_40 (v := 4) (by decide) ?_
      refine Ev.iload_n (pc := 41) dX9_prisoner_41 rfl ?_
      refine Ev.iload_n (pc := 42) dX9_prisoner_42 rfl ?_
      refine Ev.aload_n (pc := 43) dX9_prisoner_43 rfl ?_
      refine Ev.getR (pc := 44) dX9_prisoner_44 fl_RX9_12 lC_0 rfl ?_
      refine Ev.getR (pc := 47) dX9_prisoner_47 fl_RX9_46 lC_1 rfl ?_
      refine Ev.getI (pc := 50) dX9_prisoner_50 fl_RX9_99 lC_2 rfl ?_
      refine eBk h (fun q3 hq3 h => ?_)
      refine Ev.callV (pc := 53) (as := [.int 4, .int x1, .int x2, .int (M.1 2 11)]) (st := []) (z := 0) dX9_prisoner_53 wc_X8_reportStory ml_RX9_227 im_X8_reportStory se_X8_reportStory lC_1 rfl rfl (ev_X8_reportStory 4 x1 x2 (M.1 2 11) M _ hq3) rfl rfl (by decide) rfl rfl (Nat.le_of_ble_eq_true rfl) ?_
      refine Ev.aload_n (pc := 56) dX9_prisoner_56 rfl ?_
      refine Ev.getR (pc := 57) dX9_prisoner_57 fl_RX9_12 lC_0 rfl ?_
      refine Ev.getR (pc := 60) dX9_prisoner_60 fl_RX9_212 lC_1 rfl ?_
      refine Ev.getI (pc := 63) dX9_prisoner_63 fl_RX9_226 lC_29 rfl ?_
      refine Ev.iconst (pc := 66) dX9_prisoner_66 (v := 1) (by decide) ?_
      refine Ev.isub (pc := 67) dX9_prisoner_67 ?_
      obtain rfl := Option.some.inj h
      exact Ev.iret (pc := 68) dX9_prisoner_68 rfl rfl
    · have h := eT h c9
      refine Ev.aload_n (pc := 29) dX9_prisoner_29 rfl ?_
      refine Ev.ldc (pc := 30) dX9_prisoner_30 ld_RX9_63 ?_
      refine eBk h (fun q4 hq4 h => ?_)
      refine Ev.callV (pc := 32) (as := [.int (-1000002)]) (st := []) (z := 1) dX9_prisoner_32 wc_X9_found ml_RX9_42 im_X9_found se_X9_found lC_0 rfl rfl (ev_X9_found (-1000002) M _ hq4) rfl rfl (by decide) rfl rfl (Nat.le_of_ble_eq_true rfl) ?_
      obtain rfl := Option.some.inj h
      exact Ev.iret (pc := 35) dX9_prisoner_35 rfl rfl
  · have h := eT h c9
    refine Ev.aload_n (pc := 8) dX9_prisoner_8 rfl ?_
    refine Ev.ldc (pc := 9) dX9_prisoner_9 ld_RX9_41 ?_
    refine eBk h (fun q5 hq5 h => ?_)
    refine Ev.callV (pc := 11) (as := [.int (-1000001)]) (st := []) (z := 1) dX9_prisoner_11 wc_X9_found ml_RX9_42 im_X9_found se_X9_found lC_0 rfl rfl (ev_X9_found (-1000001) M _ hq5) rfl rfl (by decide) rfl rfl (Nat.le_of_ble_eq_true rfl) ?_
    obtain rfl := Option.some.inj h
    exact Ev.iret (pc := 14) dX9_prisoner_14 rfl rfl
theorem dX10_prisoner_0 : decode cX10_prisoner 0 = .ok (.iload_n 1, 1) := by decide +kernel
theorem dX10_prisoner_1 : decode cX10_prisoner 1 = .ok (.invokestatic 99, 3) := by decide +kernel
theorem dX10_prisoner_4 : decode cX10_prisoner 4 = .ok (.ifCond .ne 9, 3) := by decide +kernel
theorem dX10_prisoner_7 : decode cX10_prisoner 7 = .ok (.aload_n 0, 1) := by decide +kernel
theorem dX10_prisoner_8 : decode cX10_prisoner 8 = .ok (.iconst 1, 1) := by decide +kernel
theorem dX10_prisoner_9 : decode cX10_prisoner 9 = .ok (.invokevirtual 66, 3) := by decide +kernel
theorem dX10_prisoner_12 : decode cX10_prisoner 12 = .ok (.ireturn, 1) := by decide +kernel
theorem dX10_prisoner_13 : decode cX10_prisoner 13 = .ok (.aload_n 0, 1) := by decide +kernel
theorem dX10_prisoner_14 : decode cX10_prisoner 14 = .ok (.getfield 7, 3) := by decide +kernel
theorem dX10_prisoner_17 : decode cX10_prisoner 17 = .ok (.bipush 10, 2) := by decide +kernel
theorem dX10_prisoner_19 : decode cX10_prisoner 19 = .ok (.iaload, 1) := by decide +kernel
theorem dX10_prisoner_20 : decode cX10_prisoner 20 = .ok (.bipush 90, 2) := by decide +kernel
theorem dX10_prisoner_22 : decode cX10_prisoner 22 = .ok (.if_icmp .ne 11, 3) := by decide +kernel
theorem dX10_prisoner_25 : decode cX10_prisoner 25 = .ok (.aload_n 0, 1) := by decide +kernel
theorem dX10_prisoner_26 : decode cX10_prisoner 26 = .ok (.iconst 2, 1) := by decide +kernel
theorem dX10_prisoner_27 : decode cX10_prisoner 27 = .ok (.invokevirtual 66, 3) := by decide +kernel
theorem dX10_prisoner_30 : decode cX10_prisoner 30 = .ok (.goto 23, 3) := by decide +kernel
theorem dX10_prisoner_33 : decode cX10_prisoner 33 = .ok (.aload_n 0, 1) := by decide +kernel
theorem dX10_prisoner_34 : decode cX10_prisoner 34 = .ok (.iconst 4, 1) := by decide +kernel
theorem dX10_prisoner_35 : decode cX10_prisoner 35 = .ok (.iload_n 1, 1) := by decide +kernel
theorem dX10_prisoner_36 : decode cX10_prisoner 36 = .ok (.iload_n 2, 1) := by decide +kernel
theorem dX10_prisoner_37 : decode cX10_prisoner 37 = .ok (.aload_n 0, 1) := by decide +kernel
theorem dX10_prisoner_38 : decode cX10_prisoner 38 = .ok (.getfield 7, 3) := by decide +kernel
theorem dX10_prisoner_41 : decode cX10_prisoner 41 = .ok (.iconst 0, 1) := by decide +kernel
theorem dX10_prisoner_42 : decode cX10_prisoner 42 = .ok (.iaload, 1) := by decide +kernel
theorem dX10_prisoner_43 : decode cX10_prisoner 43 = .ok (.aload_n 0, 1) := by decide +kernel
theorem dX10_prisoner_44 : decode cX10_prisoner 44 = .ok (.getfield 7, 3) := by decide +kernel
theorem dX10_prisoner_47 : decode cX10_prisoner 47 = .ok (.iconst 0, 1) := by decide +kernel
theorem dX10_prisoner_48 : decode cX10_prisoner 48 = .ok (.iaload, 1) := by decide +kernel
theorem dX10_prisoner_49 : decode cX10_prisoner 49 = .ok (.iconst (-1), 1) := by decide +kernel
theorem dX10_prisoner_50 : decode cX10_prisoner 50 = .ok (.invokevirtual 130, 3) := by decide +kernel
theorem dX10_prisoner_53 : decode cX10_prisoner 53 = .ok (.ireturn, 1) := by decide +kernel
def F_X10_prisoner (x1 : Int32) (x2 : Int32) (M : eMem) : Option (Int32 × eMem) :=
  (F_X10_isStory x1).bind fun q1 =>
  if q1 = 0 then
    (F_X10_finding 1 M).bind fun q4 =>
    some (q4.1, q4.2)
  else
    if (M.1 1 10) = 90 then
      (F_X10_finding 2 M).bind fun q3 =>
      some (q3.1, q3.2)
    else
      (F_X10_comes 4 x1 x2 (M.1 1 0) (M.1 1 0) (-1) M).bind fun q2 =>
      some (q2.1, q2.2)
set_option maxRecDepth 100000 in
set_option maxHeartbeats 4000000 in
theorem ev_X10_prisoner (x1 : Int32) (x2 : Int32) (M : eMem) (q : (Int32 × eMem)) (h : F_X10_prisoner x1 x2 M = some q) : Ev layR 2 m_X10_prisoner 0 [some (.ref 0), some (.int x1), some (.int x2)] [] M (some (.int q.1), q.2) := by
  rw [F_X10_prisoner] at h
  refine Ev.iload_n (pc := 0) dX10_prisoner_0 rfl ?_
  refine eBk h (fun q1 hq1 h => ?_)
  refine Ev.callS (pc := 1) (as := [.int x1]) (st := []) (z := 0) dX10_prisoner_1 wc_X10_isStory ml_RX10_99 sm_X10_isStory (ev_X10_isStory x1 M _ hq1) rfl rfl (by decide) rfl rfl (Nat.le_of_ble_eq_true rfl) ?_
  refine Ev.if_ne (pc := 4) (tgt := 13) dX10_prisoner_4 (by decide) (fun c9 => ?_) (fun c9 => ?_)
  · have h := eF h c9
    refine Ev.aload_n (pc := 13) dX10_prisoner_13 rfl ?_
    refine Ev.getR (pc := 14) dX10_prisoner_14 fl_RX10_7 lR_0 rfl ?_
    refine Ev.bipush (pc := 17) dX10_prisoner_17 (v := 10) (by decide) ?_
    refine Ev.ialdj (pc := 19) dX10_prisoner_19 (j := 10) lR_1 (by decide) (by decide) ?_
    refine Ev.bipush (pc := 20) dX10_prisoner_20 (v := 90) (by decide) ?_
    refine Ev.icmp_ne (pc := 22) (tgt := 33) dX10_prisoner_22 (by decide) (fun c9 => ?_) (fun c9 => ?_)
    · have h := eF h c9
      refine Ev.aload_n (pc := 33) dX10_prisoner_33 rfl ?_
      refine Ev.iconst (pc := 34) dX10_prisoner_34 (v := 4) (by decide) ?_
      refine Ev.iload_n (pc := 35) dX10_prisoner_35 rfl ?_
      refine Ev.iload_n (pc := 36) dX10_prisoner_36 rfl ?_
      refine Ev.aload_n (pc := 37) dX10_prisoner_37 rfl ?_
      refine Ev.getR (pc := 38) dX10_prisoner_38 fl_RX10_7 lR_0 rfl ?_
      refine Ev.iconst (pc := 41) dX10_prisoner_41 (v := 0) (by decide) ?_
      refine Ev.ialdj (pc := 42) dX10_prisoner_42 (j := 0) lR_1 (by decide) (by decide) ?_
      refine Ev.aload_n (pc := 43) dX10_prisoner_43 rfl ?_
      refine Ev.getR (pc := 44) dX10_prisoner_44 fl_RX10_7 lR_0 rfl ?_
      refine Ev.iconst (pc := 47) dX10_prisoner_47 (v := 0) (by decide) ?_
      refine Ev.ialdj (pc := 48) dX10_prisoner_48 (j := 0) lR_1 (by decide) (by decide) ?_
      refine Ev.iconst (pc := 49) dX10_prisoner_49 (v := (-1)) (by decide) ?_
      refine eBk h (fun q2 hq2 h => ?_)
      refine Ev.callV (pc := 50) (as := [.int 4, .int x1, .int x2, .int (M.1 1 0), .int (M.1 1 0), .int (-1)]) (st := []) (z := 1) dX10_prisoner_50 wc_X10_comes ml_RX10_130 im_X10_comes se_X10_comes lR_0 rfl rfl (ev_X10_comes 4 x1 x2 (M.1 1 0) (M.1 1 0) (-1) M _ hq2) rfl rfl (by decide) rfl rfl (Nat.le_of_ble_eq_true rfl) ?_
      obtain rfl := Option.some.inj h
      exact Ev.iret (pc := 53) dX10_prisoner_53 rfl rfl
    · have h := eT h c9
      refine Ev.aload_n (pc := 25) dX10_prisoner_25 rfl ?_
      refine Ev.iconst (pc := 26) dX10_prisoner_26 (v := 2) (by decide) ?_
      refine eBk h (fun q3 hq3 h => ?_)
      refine Ev.callV (pc := 27) (as := [.int 2]) (st := []) (z := 0) dX10_prisoner_27 wc_X10_finding ml_RX10_66 im_X10_finding se_X10_finding lR_0 rfl rfl (ev_X10_finding 2 M _ hq3) rfl rfl (by decide) rfl rfl (Nat.le_of_ble_eq_true rfl) ?_
      refine Ev.goto (pc := 30) (tgt := 53) dX10_prisoner_30 (by decide) ?_
      obtain rfl := Option.some.inj h
      exact Ev.iret (pc := 53) dX10_prisoner_53 rfl rfl
  · have h := eT h c9
    refine Ev.aload_n (pc := 7) dX10_prisoner_7 rfl ?_
    refine Ev.iconst (pc := 8) dX10_prisoner_8 (v := 1) (by decide) ?_
    refine eBk h (fun q4 hq4 h => ?_)
    refine Ev.callV (pc := 9) (as := [.int 1]) (st := []) (z := 0) dX10_prisoner_9 wc_X10_finding ml_RX10_66 im_X10_finding se_X10_finding lR_0 rfl rfl (ev_X10_finding 1 M _ hq4) rfl rfl (by decide) rfl rfl (Nat.le_of_ble_eq_true rfl) ?_
    obtain rfl := Option.some.inj h
    exact Ev.iret (pc := 12) dX10_prisoner_12 rfl rfl
theorem dX4_isMissing_0 : decode cX4_isMissing 0 = .ok (.aload_n 0, 1) := by decide +kernel
theorem dX4_isMissing_1 : decode cX4_isMissing 1 = .ok (.getfield 9, 3) := by decide +kernel
theorem dX4_isMissing_4 : decode cX4_isMissing 4 = .ok (.iload_n 1, 1) := by decide +kernel
theorem dX4_isMissing_5 : decode cX4_isMissing 5 = .ok (.iaload, 1) := by decide +kernel
theorem dX4_isMissing_6 : decode cX4_isMissing 6 = .ok (.ifCond .ne 7, 3) := by decide +kernel
theorem dX4_isMissing_9 : decode cX4_isMissing 9 = .ok (.iconst 1, 1) := by decide +kernel
theorem dX4_isMissing_10 : decode cX4_isMissing 10 = .ok (.goto 4, 3) := by decide +kernel
theorem dX4_isMissing_13 : decode cX4_isMissing 13 = .ok (.iconst 0, 1) := by decide +kernel
theorem dX4_isMissing_14 : decode cX4_isMissing 14 = .ok (.ireturn, 1) := by decide +kernel
def F_X4_isMissing (x1 : Int32) (M : eMem) : Option Int32 :=
  eG (eIn x1 4) <|
  if (M.1 148 x1.toNatClampNeg) = 0 then
    some 1
  else
    some 0
set_option maxRecDepth 100000 in
set_option maxHeartbeats 4000000 in
theorem ev_X4_isMissing (x1 : Int32) (M : eMem) (q : Int32) (h : F_X4_isMissing x1 M = some q) : Ev layC 0 m_X4_isMissing 0 [some (.ref 147), some (.int x1)] [] M (some (.int q), M) := by
  rw [F_X4_isMissing] at h
  refine Ev.aload_n (pc := 0) dX4_isMissing_0 rfl ?_
  refine Ev.getR (pc := 1) dX4_isMissing_1 fl_RX4_9 lC_147 rfl ?_
  refine Ev.iload_n (pc := 4) dX4_isMissing_4 rfl ?_
  obtain ⟨g9, h⟩ := eGdB h
  refine Ev.ialdj (pc := 5) dX4_isMissing_5 (j := x1.toNatClampNeg) lC_148 g9 rfl ?_
  refine Ev.if_ne (pc := 6) (tgt := 13) dX4_isMissing_6 (by decide) (fun c9 => ?_) (fun c9 => ?_)
  · have h := eF h c9
    refine Ev.iconst (pc := 13) dX4_isMissing_13 (v := 0) (by decide) ?_
    obtain rfl := Option.some.inj h
    exact Ev.iret (pc := 14) dX4_isMissing_14 rfl rfl
  · have h := eT h c9
    refine Ev.iconst (pc := 9) dX4_isMissing_9 (v := 1) (by decide) ?_
    refine Ev.goto (pc := 10) (tgt := 14) dX4_isMissing_10 (by decide) ?_
    obtain rfl := Option.some.inj h
    exact Ev.iret (pc := 14) dX4_isMissing_14 rfl rfl
theorem dX8_develop_0 : decode cX8_develop 0 = .ok (.aload_n 0, 1) := by decide +kernel
theorem dX8_develop_1 : decode cX8_develop 1 = .ok (.getfield 35, 3) := by decide +kernel
theorem dX8_develop_4 : decode cX8_develop 4 = .ok (.iconst 5, 1) := by decide +kernel
theorem dX8_develop_5 : decode cX8_develop 5 = .ok (.aload_n 0, 1) := by decide +kernel
theorem dX8_develop_6 : decode cX8_develop 6 = .ok (.getfield 21, 3) := by decide +kernel
theorem dX8_develop_9 : decode cX8_develop 9 = .ok (.getfield 92, 3) := by decide +kernel
theorem dX8_develop_12 : decode cX8_develop 12 = .ok (.iload_n 1, 1) := by decide +kernel
theorem dX8_develop_13 : decode cX8_develop 13 = .ok (.iaload, 1) := by decide +kernel
theorem dX8_develop_14 : decode cX8_develop 14 = .ok (.iload_n 2, 1) := by decide +kernel
theorem dX8_develop_15 : decode cX8_develop 15 = .ok (.iload_n 3, 1) := by decide +kernel
theorem dX8_develop_16 : decode cX8_develop 16 = .ok (.aload_n 0, 1) := by decide +kernel
theorem dX8_develop_17 : decode cX8_develop 17 = .ok (.getfield 12, 3) := by decide +kernel
theorem dX8_develop_20 : decode cX8_develop 20 = .ok (.getfield 85, 3) := by decide +kernel
theorem dX8_develop_23 : decode cX8_develop 23 = .ok (.iload_n 1, 1) := by decide +kernel
theorem dX8_develop_24 : decode cX8_develop 24 = .ok (.invokevirtual 146, 3) := by decide +kernel
theorem dX8_develop_27 : decode cX8_develop 27 = .ok (.return_, 1) := by decide +kernel
def F_X8_develop (x1 : Int32) (x2 : Int32) (x3 : Int32) (M : eMem) : Option eMem :=
  eG (eIn x1 20) <|
  (F_X1_add 5 (M.1 14 x1.toNatClampNeg) x2 x3 (M.1 2 11) x1 M).bind fun q1 =>
  some q1
set_option maxRecDepth 100000 in
set_option maxHeartbeats 4000000 in
theorem ev_X8_develop (x1 : Int32) (x2 : Int32) (x3 : Int32) (M : eMem) (q : eMem) (h : F_X8_develop x1 x2 x3 M = some q) : Ev layC 2 m_X8_develop 0 [some (.ref 1), some (.int x1), some (.int x2), some (.int x3)] [] M (none, q) := by
  rw [F_X8_develop] at h
  refine Ev.aload_n (pc := 0) dX8_develop_0 rfl ?_
  refine Ev.getR (pc := 1) dX8_develop_1 fl_RX8_35 lC_1 rfl ?_
  refine Ev.iconst (pc := 4) dX8_develop_4 (v := 5) (by decide) ?_
  refine Ev.aload_n (pc := 5) dX8_develop_5 rfl ?_
  refine Ev.getR (pc := 6) dX8_develop_6 fl_RX8_21 lC_1 rfl ?_
  refine Ev.getR (pc := 9) dX8_develop_9 fl_RX8_92 lC_12 rfl ?_
  refine Ev.iload_n (pc := 12) dX8_develop_12 rfl ?_
  obtain ⟨g9, h⟩ := eGdB h
  refine Ev.ialdj (pc := 13) dX8_develop_13 (j := x1.toNatClampNeg) lC_14 g9 rfl ?_
  refine Ev.iload_n (pc := 14) dX8_develop_14 rfl ?_
  refine Ev.iload_n (pc := 15) dX8_develop_15 rfl ?_
  refine Ev.aload_n (pc := 16) dX8_develop_16 rfl ?_
  refine Ev.getR (pc := 17) dX8_develop_17 fl_RX8_12 lC_1 rfl ?_
  refine Ev.getI (pc := 20) dX8_develop_20 fl_RX8_85 lC_2 rfl ?_
  refine Ev.iload_n (pc := 23) dX8_develop_23 rfl ?_
  refine eBk h (fun q1 hq1 h => ?_)
  refine Ev.callV (pc := 24) (as := [.int 5, .int (M.1 14 x1.toNatClampNeg), .int x2, .int x3, .int (M.1 2 11), .int x1]) (st := []) (z := 0) dX8_develop_24 wc_X1_add ml_RX8_146 im_X1_add se_X1_add lC_29 rfl rfl (ev_X1_add 5 (M.1 14 x1.toNatClampNeg) x2 x3 (M.1 2 11) x1 M _ hq1) rfl rfl (by decide) rfl rfl (Nat.le_of_ble_eq_true rfl) ?_
  obtain rfl := Option.some.inj h
  exact Ev.vret (pc := 27) dX8_develop_27 rfl
theorem dX9_film_0 : decode cX9_film 0 = .ok (.iload_n 1, 1) := by decide +kernel
theorem dX9_film_1 : decode cX9_film 1 = .ok (.iconst 4, 1) := by decide +kernel
theorem dX9_film_2 : decode cX9_film 2 = .ok (.invokestatic 37, 3) := by decide +kernel
theorem dX9_film_5 : decode cX9_film 5 = .ok (.ifCond .eq 21, 3) := by decide +kernel
theorem dX9_film_8 : decode cX9_film 8 = .ok (.iload_n 2, 1) := by decide +kernel
theorem dX9_film_9 : decode cX9_film 9 = .ok (.iconst 0, 1) := by decide +kernel
theorem dX9_film_10 : decode cX9_film 10 = .ok (.aload_n 0, 1) := by decide +kernel
theorem dX9_film_11 : decode cX9_film 11 = .ok (.getfield 12, 3) := by decide +kernel
theorem dX9_film_14 : decode cX9_film 14 = .ok (.getfield 46, 3) := by decide +kernel
theorem dX9_film_17 : decode cX9_film 17 = .ok (.getfield 99, 3) := by decide +kernel
theorem dX9_film_20 : decode cX9_film 20 = .ok (.invokestatic 55, 3) := by decide +kernel
theorem dX9_film_23 : decode cX9_film 23 = .ok (.ifCond .ne 10, 3) := by decide +kernel
theorem dX9_film_26 : decode cX9_film 26 = .ok (.aload_n 0, 1) := by decide +kernel
theorem dX9_film_27 : decode cX9_film 27 = .ok (.ldc 41, 2) := by decide +kernel
theorem dX9_film_29 : decode cX9_film 29 = .ok (.invokevirtual 42, 3) := by decide +kernel
theorem dX9_film_32 : decode cX9_film 32 = .ok (.ireturn, 1) := by decide +kernel
theorem dX9_film_33 : decode cX9_film 33 = .ok (.aload_n 0, 1) := by decide +kernel
theorem dX9_film_34 : decode cX9_film 34 = .ok (.getfield 29, 3) := by decide +kernel
theorem dX9_film_37 : decode cX9_film 37 = .ok (.iload_n 1, 1) := by decide +kernel
theorem dX9_film_38 : decode cX9_film 38 = .ok (.invokevirtual 230, 3) := by decide +kernel
theorem dX9_film_41 : decode cX9_film 41 = .ok (.ifCond .eq 10, 3) := by decide +kernel
theorem dX9_film_44 : decode cX9_film 44 = .ok (.aload_n 0, 1) := by decide +kernel
theorem dX9_film_45 : decode cX9_film 45 = .ok (.ldc 233, 2) := by decide +kernel
theorem dX9_film_47 : decode cX9_film 47 = .ok (.invokevirtual 42, 3) := by decide +kernel
theorem dX9_film_50 : decode cX9_film 50 = .ok (.ireturn, 1) := by decide +kernel
theorem dX9_film_51 : decode cX9_film 51 = .ok (.aload_n 0, 1) := by decide +kernel
theorem dX9_film_52 : decode cX9_film 52 = .ok (.getfield 29, 3) := by decide +kernel
theorem dX9_film_55 : decode cX9_film 55 = .ok (.getfield 234, 3) := by decide +kernel
theorem dX9_film_58 : decode cX9_film 58 = .ok (.iload_n 1, 1) := by decide +kernel
theorem dX9_film_59 : decode cX9_film 59 = .ok (.iaload, 1) := by decide +kernel
theorem dX9_film_60 : decode cX9_film 60 = .ok (.istore_n 3, 1) := by decide +kernel
theorem dX9_film_61 : decode cX9_film 61 = .ok (.iload_n 3, 1) := by decide +kernel
theorem dX9_film_62 : decode cX9_film 62 = .ok (.aload_n 0, 1) := by decide +kernel
theorem dX9_film_63 : decode cX9_film 63 = .ok (.getfield 12, 3) := by decide +kernel
theorem dX9_film_66 : decode cX9_film 66 = .ok (.getfield 130, 3) := by decide +kernel
theorem dX9_film_69 : decode cX9_film 69 = .ok (.getfield 134, 3) := by decide +kernel
theorem dX9_film_72 : decode cX9_film 72 = .ok (.if_icmp .le 10, 3) := by decide +kernel
theorem dX9_film_75 : decode cX9_film 75 = .ok (.aload_n 0, 1) := by decide +kernel
theorem dX9_film_76 : decode cX9_film 76 = .ok (.ldc 41, 2) := by decide +kernel
theorem dX9_film_78 : decode cX9_film 78 = .ok (.invokevirtual 42, 3) := by decide +kernel
theorem dX9_film_81 : decode cX9_film 81 = .ok (.ireturn, 1) := by decide +kernel
theorem dX9_film_82 : decode cX9_film 82 = .ok (.iconst 0, 1) := by decide +kernel
theorem dX9_film_83 : decode cX9_film 83 = .ok (.istore 4, 2) := by decide +kernel
theorem dX9_film_85 : decode cX9_film 85 = .ok (.iconst 0, 1) := by decide +kernel
theorem dX9_film_86 : decode cX9_film 86 = .ok (.istore 5, 2) := by decide +kernel
theorem dX9_film_88 : decode cX9_film 88 = .ok (.iload 5, 2) := by decide +kernel
theorem dX9_film_90 : decode cX9_film 90 = .ok (.iload_n 3, 1) := by decide +kernel
theorem dX9_film_91 : decode cX9_film 91 = .ok (.if_icmp .ge 63, 3) := by decide +kernel
theorem dX9_film_94 : decode cX9_film 94 = .ok (.aload_n 0, 1) := by decide +kernel
theorem dX9_film_95 : decode cX9_film 95 = .ok (.getfield 29, 3) := by decide +kernel
theorem dX9_film_98 : decode cX9_film 98 = .ok (.getfield 237, 3) := by decide +kernel
theorem dX9_film_101 : decode cX9_film 101 = .ok (.iload_n 1, 1) := by decide +kernel
theorem dX9_film_102 : decode cX9_film 102 = .ok (.aaload, 1) := by decide +kernel
theorem dX9_film_103 : decode cX9_film 103 = .ok (.iload 5, 2) := by decide +kernel
theorem dX9_film_105 : decode cX9_film 105 = .ok (.iaload, 1) := by decide +kernel
theorem dX9_film_106 : decode cX9_film 106 = .ok (.istore 6, 2) := by decide +kernel
theorem dX9_film_108 : decode cX9_film 108 = .ok (.iload 6, 2) := by decide +kernel
theorem dX9_film_110 : decode cX9_film 110 = .ok (.iconst 0, 1) := by decide +kernel
theorem dX9_film_111 : decode cX9_film 111 = .ok (.iconst 2, 1) := by decide +kernel
theorem dX9_film_112 : decode cX9_film 112 = .ok (.invokestatic 55, 3) := by decide +kernel
theorem dX9_film_115 : decode cX9_film 115 = .ok (.ifCond .ne 18, 3) := by decide +kernel
theorem dX9_film_118 : decode cX9_film 118 = .ok (.iload 6, 2) := by decide +kernel
theorem dX9_film_120 : decode cX9_film 120 = .ok (.sipush 999, 3) := by decide +kernel
theorem dX9_film_123 : decode cX9_film 123 = .ok (.if_icmp .eq 10, 3) := by decide +kernel
theorem dX9_film_126 : decode cX9_film 126 = .ok (.aload_n 0, 1) := by decide +kernel
theorem dX9_film_127 : decode cX9_film 127 = .ok (.ldc 41, 2) := by decide +kernel
theorem dX9_film_129 : decode cX9_film 129 = .ok (.invokevirtual 42, 3) := by decide +kernel
theorem dX9_film_132 : decode cX9_film 132 = .ok (.ireturn, 1) := by decide +kernel
theorem dX9_film_133 : decode cX9_film 133 = .ok (.iload 6, 2) := by decide +kernel
theorem dX9_film_135 : decode cX9_film 135 = .ok (.iconst 1, 1) := by decide +kernel
theorem dX9_film_136 : decode cX9_film 136 = .ok (.if_icmp .eq 9, 3) := by decide +kernel
theorem dX9_film_139 : decode cX9_film 139 = .ok (.iload 6, 2) := by decide +kernel
theorem dX9_film_141 : decode cX9_film 141 = .ok (.iconst 2, 1) := by decide +kernel
theorem dX9_film_142 : decode cX9_film 142 = .ok (.if_icmp .ne 6, 3) := by decide +kernel
theorem dX9_film_145 : decode cX9_film 145 = .ok (.iinc 4 1, 3) := by decide +kernel
theorem dX9_film_148 : decode cX9_film 148 = .ok (.iinc 5 1, 3) := by decide +kernel
theorem dX9_film_151 : decode cX9_film 151 = .ok (.goto (-63), 3) := by decide +kernel
theorem dX9_film_154 : decode cX9_film 154 = .ok (.iload 4, 2) := by decide +kernel
theorem dX9_film_156 : decode cX9_film 156 = .ok (.aload_n 0, 1) := by decide +kernel
theorem dX9_film_157 : decode cX9_film 157 = .ok (.getfield 12, 3) := by decide +kernel
theorem dX9_film_160 : decode cX9_film 160 = .ok (.getfield 212, 3) := by decide +kernel
theorem dX9_film_163 : decode cX9_film 163 = .ok (.invokevirtual 216, 3) := by decide +kernel
theorem dX9_film_166 : decode cX9_film 166 = .ok (.if_icmp .le 10, 3) := by decide +kernel
theorem dX9_film_169 : decode cX9_film 169 = .ok (.aload_n 0, 1) := by decide +kernel
theorem dX9_film_170 : decode cX9_film 170 = .ok (.ldc 63, 2) := by decide +kernel
theorem dX9_film_172 : decode cX9_film 172 = .ok (.invokevirtual 42, 3) := by decide +kernel
theorem dX9_film_175 : decode cX9_film 175 = .ok (.ireturn, 1) := by decide +kernel
theorem dX9_film_176 : decode cX9_film 176 = .ok (.iconst 0, 1) := by decide +kernel
theorem dX9_film_177 : decode cX9_film 177 = .ok (.istore 5, 2) := by decide +kernel
theorem dX9_film_179 : decode cX9_film 179 = .ok (.iload 5, 2) := by decide +kernel
theorem dX9_film_181 : decode cX9_film 181 = .ok (.iload_n 3, 1) := by decide +kernel
theorem dX9_film_182 : decode cX9_film 182 = .ok (.if_icmp .ge 56, 3) := by decide +kernel
theorem dX9_film_185 : decode cX9_film 185 = .ok (.aload_n 0, 1) := by decide +kernel
theorem dX9_film_186 : decode cX9_film 186 = .ok (.getfield 29, 3) := by decide +kernel
theorem dX9_film_189 : decode cX9_film 189 = .ok (.getfield 237, 3) := by decide +kernel
theorem dX9_film_192 : decode cX9_film 192 = .ok (.iload_n 1, 1) := by decide +kernel
theorem dX9_film_193 : decode cX9_film 193 = .ok (.aaload, 1) := by decide +kernel
theorem dX9_film_194 : decode cX9_film 194 = .ok (.iload 5, 2) := by decide +kernel
theorem dX9_film_196 : decode cX9_film 196 = .ok (.iaload, 1) := by decide +kernel
theorem dX9_film_197 : decode cX9_film 197 = .ok (.istore 6, 2) := by decide +kernel
theorem dX9_film_199 : decode cX9_film 199 = .ok (.iload 6, 2) := by decide +kernel
theorem dX9_film_201 : decode cX9_film 201 = .ok (.iconst 1, 1) := by decide +kernel
theorem dX9_film_202 : decode cX9_film 202 = .ok (.if_icmp .eq 9, 3) := by decide +kernel
theorem dX9_film_205 : decode cX9_film 205 = .ok (.iload 6, 2) := by decide +kernel
theorem dX9_film_207 : decode cX9_film 207 = .ok (.iconst 2, 1) := by decide +kernel
theorem dX9_film_208 : decode cX9_film 208 = .ok (.if_icmp .ne 24, 3) := by decide +kernel
theorem dX9_film_211 : decode cX9_film 211 = .ok (.aload_n 0, 1) := by decide +kernel
theorem dX9_film_212 : decode cX9_film 212 = .ok (.getfield 12, 3) := by decide +kernel
theorem dX9_film_215 : decode cX9_film 215 = .ok (.iload 5, 2) := by decide +kernel
theorem dX9_film_217 : decode cX9_film 217 = .ok (.iload 6, 2) := by decide +kernel
theorem dX9_film_219 : decode cX9_film 219 = .ok (.iconst 1, 1) := by decide +kernel
theorem dX9_film_220 : decode cX9_film 220 = .ok (.if_icmp .ne 7, 3) := by decide +kernel
theorem dX9_film_223 : decode cX9_film 223 = .ok (.iconst 1, 1) := by decide +kernel
theorem dX9_film_224 : decode cX9_film 224 = .ok (.goto 4, 3) := by decide +kernel
theorem dX9_film_227 : decode cX9_film 227 = .ok (.iconst 0, 1) := by decide +kernel
theorem dX9_film_228 : decode cX9_film 228 = .ok (.iload_n 2, 1) := by decide +kernel
theorem dX9_film_229 : decode cX9_film 229 = .ok (.invokevirtual 241, 3) := by decide +kernel
theorem dX9_film_232 : decode cX9_film 232 = .ok (.iinc 5 1, 3) := by decide +kernel
theorem dX9_film_235 : decode cX9_film 235 = .ok (.goto (-56), 3) := by decide +kernel
theorem dX9_film_238 : decode cX9_film 238 = .ok (.iload 4, 2) := by decide +kernel
theorem dX9_film_240 : decode cX9_film 240 = .ok (.ireturn, 1) := by decide +kernel
def F_X9_film_133 (rec : Int32 → Int32 → Int32 → Int32 → Int32 → eMem → Option (Int32 × eMem)) (K154 : Int32 → Int32 → Int32 → Int32 → eMem → Option (Int32 × eMem)) (v1 : Int32) (v2 : Int32) (v3 : Int32) (v4 : Int32) (v5 : Int32) (v6 : Int32) (M : eMem) : Option (Int32 × eMem) :=
  if v6 = 1 then
    rec v1 v2 v3 (v4 + 1) (v5 + 1) M
  else
    if v6 = 2 then
      rec v1 v2 v3 (v4 + 1) (v5 + 1) M
    else
      rec v1 v2 v3 v4 (v5 + 1) M
set_option maxRecDepth 100000 in
set_option maxHeartbeats 4000000 in
theorem ev_X9_film_133 (rec : Int32 → Int32 → Int32 → Int32 → Int32 → eMem → Option (Int32 × eMem)) (K154 : Int32 → Int32 → Int32 → Int32 → eMem → Option (Int32 × eMem)) (q : (Int32 × eMem)) (hrec : ∀ (v1 : Int32) (v2 : Int32) (v3 : Int32) (v4 : Int32) (v5 : Int32) (M : eMem), rec v1 v2 v3 v4 v5 M = some q → Ev layC 3 m_X9_film 88 [some (.ref 0), some (.int v1), some (.int v2), some (.int v3), some (.int v4), some (.int v5), none] [] M (some (.int q.1), q.2)) (hK154 : ∀ (v1 : Int32) (v2 : Int32) (v3 : Int32) (v4 : Int32) (M : eMem), K154 v1 v2 v3 v4 M = some q → Ev layC 3 m_X9_film 154 [some (.ref 0), some (.int v1), some (.int v2), some (.int v3), some (.int v4), none, none] [] M (some (.int q.1), q.2)) (v1 : Int32) (v2 : Int32) (v3 : Int32) (v4 : Int32) (v5 : Int32) (v6 : Int32) (M : eMem) (h : F_X9_film_133 rec K154 v1 v2 v3 v4 v5 v6 M = some q) : Ev layC 3 m_X9_film 133 [some (.ref 0), some (.int v1), some (.int v2), some (.int v3), some (.int v4), some (.int v5), some (.int v6)] [] M (some (.int q.1), q.2) := by
  rw [F_X9_film_133] at h
  refine Ev.iload (pc := 133) dX9_film_133 rfl ?_
  refine Ev.iconst (pc := 135) dX9_film_135 (v := 1) (by decide) ?_
  refine Ev.icmp_eq (pc := 136) (tgt := 145) dX9_film_136 (by decide) (fun c9 => ?_) (fun c9 => ?_)
  · have h := eT h c9
    refine Ev.iincv (pc := 145) dX9_film_145 (v := 1) (by decide) rfl (by decide) rfl rfl ?_
    refine Ev.iincv (pc := 148) dX9_film_148 (v := 1) (by decide) rfl (by decide) rfl rfl ?_
    refine Ev.goto (pc := 151) (tgt := 88) dX9_film_151 (by decide) ?_
    exact Ev.fg (hrec _ _ _ _ _ _ h) (And.intro rfl (And.intro rfl (And.intro rfl (And.intro rfl (And.intro rfl (And.intro rfl trivial))))))
  · have h := eF h c9
    refine Ev.iload (pc := 139) dX9_film_139 rfl ?_
    refine Ev.iconst (pc := 141) dX9_film_141 (v := 2) (by decide) ?_
    refine Ev.icmp_ne (pc := 142) (tgt := 148) dX9_film_142 (by decide) (fun c9 => ?_) (fun c9 => ?_)
    · have h := eF h c9
      refine Ev.iincv (pc := 148) dX9_film_148 (v := 1) (by decide) rfl (by decide) rfl rfl ?_
      refine Ev.goto (pc := 151) (tgt := 88) dX9_film_151 (by decide) ?_
      exact Ev.fg (hrec _ _ _ _ _ _ h) (And.intro rfl (And.intro rfl (And.intro rfl (And.intro rfl (And.intro rfl (And.intro rfl trivial))))))
    · have h := eT h c9
      refine Ev.iincv (pc := 145) dX9_film_145 (v := 1) (by decide) rfl (by decide) rfl rfl ?_
      refine Ev.iincv (pc := 148) dX9_film_148 (v := 1) (by decide) rfl (by decide) rfl rfl ?_
      refine Ev.goto (pc := 151) (tgt := 88) dX9_film_151 (by decide) ?_
      exact Ev.fg (hrec _ _ _ _ _ _ h) (And.intro rfl (And.intro rfl (And.intro rfl (And.intro rfl (And.intro rfl (And.intro rfl trivial))))))
def F_X9_film_88 (K154 : Int32 → Int32 → Int32 → Int32 → eMem → Option (Int32 × eMem)) : Nat → Int32 → Int32 → Int32 → Int32 → Int32 → eMem → Option (Int32 × eMem)
  | 0, _, _, _, _, _, _ => none
  | n + 1, v1, v2, v3, v4, v5, M =>
    if v5 < v3 then
      eG (eIn v1 4) <|
      eG (eIn v5 20) <|
      (F_X9_isBetween (M.1 (151 + v1.toNatClampNeg) v5.toNatClampNeg) 0 2).bind fun q5 =>
      if q5 = 0 then
        if (M.1 (151 + v1.toNatClampNeg) v5.toNatClampNeg) = 999 then
          F_X9_film_133 (fun v1 v2 v3 v4 v5 M => F_X9_film_88 K154 n v1 v2 v3 v4 v5 M) K154 v1 v2 v3 v4 v5 (M.1 (151 + v1.toNatClampNeg) v5.toNatClampNeg) M
        else
          (F_X9_found (-1000001) M).bind fun q6 =>
          some (q6.1, q6.2)
      else
        F_X9_film_133 (fun v1 v2 v3 v4 v5 M => F_X9_film_88 K154 n v1 v2 v3 v4 v5 M) K154 v1 v2 v3 v4 v5 (M.1 (151 + v1.toNatClampNeg) v5.toNatClampNeg) M
    else
      K154 v1 v2 v3 v4 M
set_option maxRecDepth 100000 in
set_option maxHeartbeats 4000000 in
theorem ev_X9_film_88 (K154 : Int32 → Int32 → Int32 → Int32 → eMem → Option (Int32 × eMem)) (q : (Int32 × eMem)) (hK154 : ∀ (v1 : Int32) (v2 : Int32) (v3 : Int32) (v4 : Int32) (M : eMem), K154 v1 v2 v3 v4 M = some q → Ev layC 3 m_X9_film 154 [some (.ref 0), some (.int v1), some (.int v2), some (.int v3), some (.int v4), none, none] [] M (some (.int q.1), q.2)) : ∀ (fuel : Nat) (v1 : Int32) (v2 : Int32) (v3 : Int32) (v4 : Int32) (v5 : Int32) (M : eMem), F_X9_film_88 K154 fuel v1 v2 v3 v4 v5 M = some q → Ev layC 3 m_X9_film 88 [some (.ref 0), some (.int v1), some (.int v2), some (.int v3), some (.int v4), some (.int v5), none] [] M (some (.int q.1), q.2) := by
  intro fuel
  induction fuel with
  | zero => intro v1 v2 v3 v4 v5 M h; rw [F_X9_film_88] at h; cases h
  | succ n ih =>
    intro v1 v2 v3 v4 v5 M h
    rw [F_X9_film_88] at h
    refine Ev.iload (pc := 88) dX9_film_88 rfl ?_
    refine Ev.iload_n (pc := 90) dX9_film_90 rfl ?_
    refine Ev.icmp_ge (pc := 91) (tgt := 154) dX9_film_91 (by decide) (fun c9 => ?_) (fun c9 => ?_)
    · have h := eF h c9
      exact Ev.fg (hK154 _ _ _ _ _ h) (And.intro rfl (And.intro rfl (And.intro rfl (And.intro rfl (And.intro rfl trivial)))))
    · have h := eT h c9
      refine Ev.aload_n (pc := 94) dX9_film_94 rfl ?_
      refine Ev.getR (pc := 95) dX9_film_95 fl_RX9_29 lC_0 rfl ?_
      refine Ev.getR (pc := 98) dX9_film_98 fl_RX9_237 lC_147 rfl ?_
      refine Ev.iload_n (pc := 101) dX9_film_101 rfl ?_
      obtain ⟨g9, h⟩ := eGdB h
      have gg5 := eIn_lt g9
      refine Ev.aaldj (pc := 102) dX9_film_102 (z := 151 + v1.toNatClampNeg) lC_150 (by decide) (eIn_n0 g9) (grC_150 _ gg5) ?_
      refine Ev.iload (pc := 103) dX9_film_103 rfl ?_
      obtain ⟨g9, h⟩ := eGdB h
      refine Ev.ialdj (pc := 105) dX9_film_105 (j := v5.toNatClampNeg) (glC_150 _ gg5) g9 rfl ?_
      refine Ev.istore (pc := 106) dX9_film_106 (by decide) rfl rfl ?_
      refine Ev.iload (pc := 108) dX9_film_108 rfl ?_
      refine Ev.iconst (pc := 110) dX9_film_110 (v := 0) (by decide) ?_
      refine Ev.iconst (pc := 111) dX9_film_111 (v := 2) (by decide) ?_
      refine eBk h (fun q5 hq5 h => ?_)
      refine Ev.callS (pc := 112) (as := [.int (M.1 (151 + v1.toNatClampNeg) v5.toNatClampNeg), .int 0, .int 2]) (st := []) (z := 0) dX9_film_112 wc_X9_isBetween ml_RX9_55 sm_X9_isBetween (ev_X9_isBetween (M.1 (151 + v1.toNatClampNeg) v5.toNatClampNeg) 0 2 M _ hq5) rfl rfl (by decide) rfl rfl (Nat.le_of_ble_eq_true rfl) ?_
      refine Ev.if_ne (pc := 115) (tgt := 133) dX9_film_115 (by decide) (fun c9 => ?_) (fun c9 => ?_)
      · have h := eF h c9
        exact Ev.fg (ev_X9_film_133 _ _ _ ih hK154 _ _ _ _ _ _ _ h) (And.intro rfl (And.intro rfl (And.intro rfl (And.intro rfl (And.intro rfl (And.intro rfl (And.intro rfl trivial)))))))
      · have h := eT h c9
        refine Ev.iload (pc := 118) dX9_film_118 rfl ?_
        refine Ev.sipush (pc := 120) dX9_film_120 (v := 999) (by decide) ?_
        refine Ev.icmp_eq (pc := 123) (tgt := 133) dX9_film_123 (by decide) (fun c9 => ?_) (fun c9 => ?_)
        · have h := eT h c9
          exact Ev.fg (ev_X9_film_133 _ _ _ ih hK154 _ _ _ _ _ _ _ h) (And.intro rfl (And.intro rfl (And.intro rfl (And.intro rfl (And.intro rfl (And.intro rfl (And.intro rfl trivial)))))))
        · have h := eF h c9
          refine Ev.aload_n (pc := 126) dX9_film_126 rfl ?_
          refine Ev.ldc (pc := 127) dX9_film_127 ld_RX9_41 ?_
          refine eBk h (fun q6 hq6 h => ?_)
          refine Ev.callV (pc := 129) (as := [.int (-1000001)]) (st := []) (z := 1) dX9_film_129 wc_X9_found ml_RX9_42 im_X9_found se_X9_found lC_0 rfl rfl (ev_X9_found (-1000001) M _ hq6) rfl rfl (by decide) rfl rfl (Nat.le_of_ble_eq_true rfl) ?_
          obtain rfl := Option.some.inj h
          exact Ev.iret (pc := 132) dX9_film_132 rfl rfl
def F_X9_film_211 (rec : Int32 → Int32 → Int32 → Int32 → Int32 → eMem → Option (Int32 × eMem)) (v1 : Int32) (v2 : Int32) (v3 : Int32) (v4 : Int32) (v5 : Int32) (v6 : Int32) (M : eMem) : Option (Int32 × eMem) :=
  if v6 = 1 then
    (F_X8_develop v5 1 v2 M).bind fun q9 =>
    rec v1 v2 v3 v4 (v5 + 1) q9
  else
    (F_X8_develop v5 0 v2 M).bind fun q8 =>
    rec v1 v2 v3 v4 (v5 + 1) q8
set_option maxRecDepth 100000 in
set_option maxHeartbeats 4000000 in
theorem ev_X9_film_211 (rec : Int32 → Int32 → Int32 → Int32 → Int32 → eMem → Option (Int32 × eMem)) (q : (Int32 × eMem)) (hrec : ∀ (v1 : Int32) (v2 : Int32) (v3 : Int32) (v4 : Int32) (v5 : Int32) (M : eMem), rec v1 v2 v3 v4 v5 M = some q → Ev layC 3 m_X9_film 179 [some (.ref 0), some (.int v1), some (.int v2), some (.int v3), some (.int v4), some (.int v5), none] [] M (some (.int q.1), q.2)) (v1 : Int32) (v2 : Int32) (v3 : Int32) (v4 : Int32) (v5 : Int32) (v6 : Int32) (M : eMem) (h : F_X9_film_211 rec v1 v2 v3 v4 v5 v6 M = some q) : Ev layC 3 m_X9_film 211 [some (.ref 0), some (.int v1), some (.int v2), some (.int v3), some (.int v4), some (.int v5), some (.int v6)] [] M (some (.int q.1), q.2) := by
  rw [F_X9_film_211] at h
  refine Ev.aload_n (pc := 211) dX9_film_211 rfl ?_
  refine Ev.getR (pc := 212) dX9_film_212 fl_RX9_12 lC_0 rfl ?_
  refine Ev.iload (pc := 215) dX9_film_215 rfl ?_
  refine Ev.iload (pc := 217) dX9_film_217 rfl ?_
  refine Ev.iconst (pc := 219) dX9_film_219 (v := 1) (by decide) ?_
  refine Ev.icmp_ne (pc := 220) (tgt := 227) dX9_film_220 (by decide) (fun c9 => ?_) (fun c9 => ?_)
  · have h := eF h c9
    refine Ev.iconst (pc := 227) dX9_film_227 (v := 0) (by decide) ?_
    refine Ev.iload_n (pc := 228) dX9_film_228 rfl ?_
    refine eBk h (fun q8 hq8 h => ?_)
    refine Ev.callV (pc := 229) (as := [.int v5, .int 0, .int v2]) (st := []) (z := 0) dX9_film_229 wc_X8_develop ml_RX9_241 im_X8_develop se_X8_develop lC_1 rfl rfl (ev_X8_develop v5 0 v2 M _ hq8) rfl rfl (by decide) rfl rfl (Nat.le_of_ble_eq_true rfl) ?_
    refine Ev.iincv (pc := 232) dX9_film_232 (v := 1) (by decide) rfl (by decide) rfl rfl ?_
    refine Ev.goto (pc := 235) (tgt := 179) dX9_film_235 (by decide) ?_
    exact Ev.fg (hrec _ _ _ _ _ _ h) (And.intro rfl (And.intro rfl (And.intro rfl (And.intro rfl (And.intro rfl (And.intro rfl trivial))))))
  · have h := eT h c9
    refine Ev.iconst (pc := 223) dX9_film_223 (v := 1) (by decide) ?_
    refine Ev.goto (pc := 224) (tgt := 228) dX9_film_224 (by decide) ?_
    refine Ev.iload_n (pc := 228) dX9_film_228 rfl ?_
    refine eBk h (fun q9 hq9 h => ?_)
    refine Ev.callV (pc := 229) (as := [.int v5, .int 1, .int v2]) (st := []) (z := 0) dX9_film_229 wc_X8_develop ml_RX9_241 im_X8_develop se_X8_develop lC_1 rfl rfl (ev_X8_develop v5 1 v2 M _ hq9) rfl rfl (by decide) rfl rfl (Nat.le_of_ble_eq_true rfl) ?_
    refine Ev.iincv (pc := 232) dX9_film_232 (v := 1) (by decide) rfl (by decide) rfl rfl ?_
    refine Ev.goto (pc := 235) (tgt := 179) dX9_film_235 (by decide) ?_
    exact Ev.fg (hrec _ _ _ _ _ _ h) (And.intro rfl (And.intro rfl (And.intro rfl (And.intro rfl (And.intro rfl (And.intro rfl trivial))))))
def F_X9_film_179  : Nat → Int32 → Int32 → Int32 → Int32 → Int32 → eMem → Option (Int32 × eMem)
  | 0, _, _, _, _, _, _ => none
  | n + 1, v1, v2, v3, v4, v5, M =>
    if v5 < v3 then
      eG (eIn v1 4) <|
      eG (eIn v5 20) <|
      if (M.1 (151 + v1.toNatClampNeg) v5.toNatClampNeg) = 1 then
        F_X9_film_211 (fun v1 v2 v3 v4 v5 M => F_X9_film_179 n v1 v2 v3 v4 v5 M) v1 v2 v3 v4 v5 (M.1 (151 + v1.toNatClampNeg) v5.toNatClampNeg) M
      else
        if (M.1 (151 + v1.toNatClampNeg) v5.toNatClampNeg) = 2 then
          F_X9_film_211 (fun v1 v2 v3 v4 v5 M => F_X9_film_179 n v1 v2 v3 v4 v5 M) v1 v2 v3 v4 v5 (M.1 (151 + v1.toNatClampNeg) v5.toNatClampNeg) M
        else
          F_X9_film_179 n v1 v2 v3 v4 (v5 + 1) M
    else
      some (v4, M)
set_option maxRecDepth 100000 in
set_option maxHeartbeats 4000000 in
theorem ev_X9_film_179  (q : (Int32 × eMem))  : ∀ (fuel : Nat) (v1 : Int32) (v2 : Int32) (v3 : Int32) (v4 : Int32) (v5 : Int32) (M : eMem), F_X9_film_179 fuel v1 v2 v3 v4 v5 M = some q → Ev layC 3 m_X9_film 179 [some (.ref 0), some (.int v1), some (.int v2), some (.int v3), some (.int v4), some (.int v5), none] [] M (some (.int q.1), q.2) := by
  intro fuel
  induction fuel with
  | zero => intro v1 v2 v3 v4 v5 M h; rw [F_X9_film_179] at h; cases h
  | succ n ih =>
    intro v1 v2 v3 v4 v5 M h
    rw [F_X9_film_179] at h
    refine Ev.iload (pc := 179) dX9_film_179 rfl ?_
    refine Ev.iload_n (pc := 181) dX9_film_181 rfl ?_
    refine Ev.icmp_ge (pc := 182) (tgt := 238) dX9_film_182 (by decide) (fun c9 => ?_) (fun c9 => ?_)
    · have h := eF h c9
      refine Ev.iload (pc := 238) dX9_film_238 rfl ?_
      obtain rfl := Option.some.inj h
      exact Ev.iret (pc := 240) dX9_film_240 rfl rfl
    · have h := eT h c9
      refine Ev.aload_n (pc := 185) dX9_film_185 rfl ?_
      refine Ev.getR (pc := 186) dX9_film_186 fl_RX9_29 lC_0 rfl ?_
      refine Ev.getR (pc := 189) dX9_film_189 fl_RX9_237 lC_147 rfl ?_
      refine Ev.iload_n (pc := 192) dX9_film_192 rfl ?_
      obtain ⟨g9, h⟩ := eGdB h
      have gg5 := eIn_lt g9
      refine Ev.aaldj (pc := 193) dX9_film_193 (z := 151 + v1.toNatClampNeg) lC_150 (by decide) (eIn_n0 g9) (grC_150 _ gg5) ?_
      refine Ev.iload (pc := 194) dX9_film_194 rfl ?_
      obtain ⟨g9, h⟩ := eGdB h
      refine Ev.ialdj (pc := 196) dX9_film_196 (j := v5.toNatClampNeg) (glC_150 _ gg5) g9 rfl ?_
      refine Ev.istore (pc := 197) dX9_film_197 (by decide) rfl rfl ?_
      refine Ev.iload (pc := 199) dX9_film_199 rfl ?_
      refine Ev.iconst (pc := 201) dX9_film_201 (v := 1) (by decide) ?_
      refine Ev.icmp_eq (pc := 202) (tgt := 211) dX9_film_202 (by decide) (fun c9 => ?_) (fun c9 => ?_)
      · have h := eT h c9
        exact Ev.fg (ev_X9_film_211 _ _ ih _ _ _ _ _ _ _ h) (And.intro rfl (And.intro rfl (And.intro rfl (And.intro rfl (And.intro rfl (And.intro rfl (And.intro rfl trivial)))))))
      · have h := eF h c9
        refine Ev.iload (pc := 205) dX9_film_205 rfl ?_
        refine Ev.iconst (pc := 207) dX9_film_207 (v := 2) (by decide) ?_
        refine Ev.icmp_ne (pc := 208) (tgt := 232) dX9_film_208 (by decide) (fun c9 => ?_) (fun c9 => ?_)
        · have h := eF h c9
          refine Ev.iincv (pc := 232) dX9_film_232 (v := 1) (by decide) rfl (by decide) rfl rfl ?_
          refine Ev.goto (pc := 235) (tgt := 179) dX9_film_235 (by decide) ?_
          exact Ev.fg (ih _ _ _ _ _ _ h) (And.intro rfl (And.intro rfl (And.intro rfl (And.intro rfl (And.intro rfl (And.intro rfl trivial))))))
        · have h := eT h c9
          exact Ev.fg (ev_X9_film_211 _ _ ih _ _ _ _ _ _ _ h) (And.intro rfl (And.intro rfl (And.intro rfl (And.intro rfl (And.intro rfl (And.intro rfl (And.intro rfl trivial)))))))
def F_X9_film (x1 : Int32) (x2 : Int32) (M : eMem) : Option (Int32 × eMem) :=
  (F_X9_isIn x1 4).bind fun q1 =>
  if q1 = 0 then
    (F_X9_found (-1000001) M).bind fun q2 =>
    some (q2.1, q2.2)
  else
    (F_X9_isBetween x2 0 (M.1 2 11)).bind fun q3 =>
    if q3 = 0 then
      (F_X9_found (-1000001) M).bind fun q13 =>
      some (q13.1, q13.2)
    else
      (F_X4_isMissing x1 M).bind fun q4 =>
      if q4 = 0 then
        eG (eIn x1 4) <|
        if (M.1 12 10) < (M.1 149 x1.toNatClampNeg) then
          (F_X9_found (-1000001) M).bind fun q11 =>
          some (q11.1, q11.2)
        else
          F_X9_film_88
            (fun v1 v2 v3 v4 M =>
              (F_X1_room M).bind fun q7 =>
              if q7 < v4 then
                (F_X9_found (-1000002) M).bind fun q10 =>
                some (q10.1, q10.2)
              else
                F_X9_film_179 eFuel v1 v2 v3 v4 0 M)
            eFuel x1 x2 (M.1 149 x1.toNatClampNeg) 0 0 M
      else
        (F_X9_found (-1000006) M).bind fun q12 =>
        some (q12.1, q12.2)
set_option maxRecDepth 100000 in
set_option maxHeartbeats 4000000 in
theorem ev_X9_film (x1 : Int32) (x2 : Int32) (M : eMem) (q : (Int32 × eMem)) (h : F_X9_film x1 x2 M = some q) : Ev layC 3 m_X9_film 0 [some (.ref 0), some (.int x1), some (.int x2), none, none, none, none] [] M (some (.int q.1), q.2) := by
  rw [F_X9_film] at h
  refine Ev.iload_n (pc := 0) dX9_film_0 rfl ?_
  refine Ev.iconst (pc := 1) dX9_film_1 (v := 4) (by decide) ?_
  refine eBk h (fun q1 hq1 h => ?_)
  refine Ev.callS (pc := 2) (as := [.int x1, .int 4]) (st := []) (z := 0) dX9_film_2 wc_X9_isIn ml_RX9_37 sm_X9_isIn (ev_X9_isIn x1 4 M _ hq1) rfl rfl (by decide) rfl rfl (Nat.le_of_ble_eq_true rfl) ?_
  refine Ev.if_eq (pc := 5) (tgt := 26) dX9_film_5 (by decide) (fun c9 => ?_) (fun c9 => ?_)
  · have h := eT h c9
    refine Ev.aload_n (pc := 26) dX9_film_26 rfl ?_
    refine Ev.ldc (pc := 27) dX9_film_27 ld_RX9_41 ?_
    refine eBk h (fun q2 hq2 h => ?_)
    refine Ev.callV (pc := 29) (as := [.int (-1000001)]) (st := []) (z := 1) dX9_film_29 wc_X9_found ml_RX9_42 im_X9_found se_X9_found lC_0 rfl rfl (ev_X9_found (-1000001) M _ hq2) rfl rfl (by decide) rfl rfl (Nat.le_of_ble_eq_true rfl) ?_
    obtain rfl := Option.some.inj h
    exact Ev.iret (pc := 32) dX9_film_32 rfl rfl
  · have h := eF h c9
    refine Ev.iload_n (pc := 8) dX9_film_8 rfl ?_
    refine Ev.iconst (pc := 9) dX9_film_9 (v := 0) (by decide) ?_
    refine Ev.aload_n (pc := 10) dX9_film_10 rfl ?_
    refine Ev.getR (pc := 11) dX9_film_11 fl_RX9_12 lC_0 rfl ?_
    refine Ev.getR (pc := 14) dX9_film_14 fl_RX9_46 lC_1 rfl ?_
    refine Ev.getI (pc := 17) dX9_film_17 fl_RX9_99 lC_2 rfl ?_
    refine eBk h (fun q3 hq3 h => ?_)
    refine Ev.callS (pc := 20) (as := [.int x2, .int 0, .int (M.1 2 11)]) (st := []) (z := 0) dX9_film_20 wc_X9_isBetween ml_RX9_55 sm_X9_isBetween (ev_X9_isBetween x2 0 (M.1 2 11) M _ hq3) rfl rfl (by decide) rfl rfl (Nat.le_of_ble_eq_true rfl) ?_
    refine Ev.if_ne (pc := 23) (tgt := 33) dX9_film_23 (by decide) (fun c9 => ?_) (fun c9 => ?_)
    · have h := eF h c9
      refine Ev.aload_n (pc := 33) dX9_film_33 rfl ?_
      refine Ev.getR (pc := 34) dX9_film_34 fl_RX9_29 lC_0 rfl ?_
      refine Ev.iload_n (pc := 37) dX9_film_37 rfl ?_
      refine eBk h (fun q4 hq4 h => ?_)
      refine Ev.callV (pc := 38) (as := [.int x1]) (st := []) (z := 0) dX9_film_38 wc_X4_isMissing ml_RX9_230 im_X4_isMissing se_X4_isMissing lC_147 rfl rfl (ev_X4_isMissing x1 M _ hq4) rfl rfl (by decide) rfl rfl (Nat.le_of_ble_eq_true rfl) ?_
      refine Ev.if_eq (pc := 41) (tgt := 51) dX9_film_41 (by decide) (fun c9 => ?_) (fun c9 => ?_)
      · have h := eT h c9
        refine Ev.aload_n (pc := 51) dX9_film_51 rfl ?_
        refine Ev.getR (pc := 52) dX9_film_52 fl_RX9_29 lC_0 rfl ?_
        refine Ev.getR (pc := 55) dX9_film_55 fl_RX9_234 lC_147 rfl ?_
        refine Ev.iload_n (pc := 58) dX9_film_58 rfl ?_
        obtain ⟨g9, h⟩ := eGdB h
        refine Ev.ialdj (pc := 59) dX9_film_59 (j := x1.toNatClampNeg) lC_149 g9 rfl ?_
        refine Ev.istore_n (pc := 60) dX9_film_60 (by decide) rfl rfl ?_
        refine Ev.iload_n (pc := 61) dX9_film_61 rfl ?_
        refine Ev.aload_n (pc := 62) dX9_film_62 rfl ?_
        refine Ev.getR (pc := 63) dX9_film_63 fl_RX9_12 lC_0 rfl ?_
        refine Ev.getR (pc := 66) dX9_film_66 fl_RX9_130 lC_1 rfl ?_
        refine Ev.getI (pc := 69) dX9_film_69 fl_RX9_134 lC_12 rfl ?_
        refine Ev.icmp_le (pc := 72) (tgt := 82) dX9_film_72 (by decide) (fun c9 => ?_) (fun c9 => ?_)
        · have h := eF h c9
          refine Ev.iconst (pc := 82) dX9_film_82 (v := 0) (by decide) ?_
          refine Ev.istore (pc := 83) dX9_film_83 (by decide) rfl rfl ?_
          refine Ev.iconst (pc := 85) dX9_film_85 (v := 0) (by decide) ?_
          refine Ev.istore (pc := 86) dX9_film_86 (by decide) rfl rfl ?_
          refine Ev.fg (ev_X9_film_88 _ _ ?_ _ _ _ _ _ _ _ h) (And.intro rfl (And.intro rfl (And.intro rfl (And.intro rfl (And.intro rfl (And.intro rfl trivial))))))
          · intro v1 v2 v3 v4 M h
            refine Ev.iload (pc := 154) dX9_film_154 rfl ?_
            refine Ev.aload_n (pc := 156) dX9_film_156 rfl ?_
            refine Ev.getR (pc := 157) dX9_film_157 fl_RX9_12 lC_0 rfl ?_
            refine Ev.getR (pc := 160) dX9_film_160 fl_RX9_212 lC_1 rfl ?_
            refine eBk h (fun q7 hq7 h => ?_)
            refine Ev.callV (pc := 163) (as := []) (st := [.int v4]) (z := 0) dX9_film_163 wc_X1_room ml_RX9_216 im_X1_room se_X1_room lC_29 rfl rfl (ev_X1_room  M _ hq7) rfl rfl (by decide) rfl rfl (Nat.le_of_ble_eq_true rfl) ?_
            refine Ev.icmp_le (pc := 166) (tgt := 176) dX9_film_166 (by decide) (fun c9 => ?_) (fun c9 => ?_)
            · have h := eF h c9
              refine Ev.iconst (pc := 176) dX9_film_176 (v := 0) (by decide) ?_
              refine Ev.istore (pc := 177) dX9_film_177 (by decide) rfl rfl ?_
              exact Ev.fg (ev_X9_film_179 _ _ _ _ _ _ _ _ h) (And.intro rfl (And.intro rfl (And.intro rfl (And.intro rfl (And.intro rfl (And.intro rfl trivial))))))
            · have h := eT h c9
              refine Ev.aload_n (pc := 169) dX9_film_169 rfl ?_
              refine Ev.ldc (pc := 170) dX9_film_170 ld_RX9_63 ?_
              refine eBk h (fun q10 hq10 h => ?_)
              refine Ev.callV (pc := 172) (as := [.int (-1000002)]) (st := []) (z := 1) dX9_film_172 wc_X9_found ml_RX9_42 im_X9_found se_X9_found lC_0 rfl rfl (ev_X9_found (-1000002) M _ hq10) rfl rfl (by decide) rfl rfl (Nat.le_of_ble_eq_true rfl) ?_
              obtain rfl := Option.some.inj h
              exact Ev.iret (pc := 175) dX9_film_175 rfl rfl
        · have h := eT h c9
          refine Ev.aload_n (pc := 75) dX9_film_75 rfl ?_
          refine Ev.ldc (pc := 76) dX9_film_76 ld_RX9_41 ?_
          refine eBk h (fun q11 hq11 h => ?_)
          refine Ev.callV (pc := 78) (as := [.int (-1000001)]) (st := []) (z := 1) dX9_film_78 wc_X9_found ml_RX9_42 im_X9_found se_X9_found lC_0 rfl rfl (ev_X9_found (-1000001) M _ hq11) rfl rfl (by decide) rfl rfl (Nat.le_of_ble_eq_true rfl) ?_
          obtain rfl := Option.some.inj h
          exact Ev.iret (pc := 81) dX9_film_81 rfl rfl
      · have h := eF h c9
        refine Ev.aload_n (pc := 44) dX9_film_44 rfl ?_
        refine Ev.ldc (pc := 45) dX9_film_45 ld_RX9_233 ?_
        refine eBk h (fun q12 hq12 h => ?_)
        refine Ev.callV (pc := 47) (as := [.int (-1000006)]) (st := []) (z := 1) dX9_film_47 wc_X9_found ml_RX9_42 im_X9_found se_X9_found lC_0 rfl rfl (ev_X9_found (-1000006) M _ hq12) rfl rfl (by decide) rfl rfl (Nat.le_of_ble_eq_true rfl) ?_
        obtain rfl := Option.some.inj h
        exact Ev.iret (pc := 50) dX9_film_50 rfl rfl
    · have h := eT h c9
      refine Ev.aload_n (pc := 26) dX9_film_26 rfl ?_
      refine Ev.ldc (pc := 27) dX9_film_27 ld_RX9_41 ?_
      refine eBk h (fun q13 hq13 h => ?_)
      refine Ev.callV (pc := 29) (as := [.int (-1000001)]) (st := []) (z := 1) dX9_film_29 wc_X9_found ml_RX9_42 im_X9_found se_X9_found lC_0 rfl rfl (ev_X9_found (-1000001) M _ hq13) rfl rfl (by decide) rfl rfl (Nat.le_of_ble_eq_true rfl) ?_
      obtain rfl := Option.some.inj h
      exact Ev.iret (pc := 32) dX9_film_32 rfl rfl
theorem dX10_isSheet_0 : decode cX10_isSheet 0 = .ok (.iload_n 0, 1) := by decide +kernel
theorem dX10_isSheet_1 : decode cX10_isSheet 1 = .ok (.iconst 0, 1) := by decide +kernel
theorem dX10_isSheet_2 : decode cX10_isSheet 2 = .ok (.iconst 3, 1) := by decide +kernel
theorem dX10_isSheet_3 : decode cX10_isSheet 3 = .ok (.invokestatic 58, 3) := by decide +kernel
theorem dX10_isSheet_6 : decode cX10_isSheet 6 = .ok (.ireturn, 1) := by decide +kernel
def F_X10_isSheet (x0 : Int32) : Option Int32 :=
  (F_X10_in x0 0 3).bind fun q1 =>
  eG (decide (vp_nar .boolean q1 = q1)) <|
  some q1
set_option maxRecDepth 100000 in
set_option maxHeartbeats 4000000 in
theorem ev_X10_isSheet {lay : List eLC} (x0 : Int32) (M : eMem) (q : Int32) (h : F_X10_isSheet x0 = some q) : Ev lay 1 m_X10_isSheet 0 [some (.int x0)] [] M (some (.int q), M) := by
  rw [F_X10_isSheet] at h
  refine Ev.iload_n (pc := 0) dX10_isSheet_0 rfl ?_
  refine Ev.iconst (pc := 1) dX10_isSheet_1 (v := 0) (by decide) ?_
  refine Ev.iconst (pc := 2) dX10_isSheet_2 (v := 3) (by decide) ?_
  refine eBk h (fun q1 hq1 h => ?_)
  refine Ev.callS (pc := 3) (as := [.int x0, .int 0, .int 3]) (st := []) (z := 0) dX10_isSheet_3 wc_X10_in ml_RX10_58 sm_X10_in (ev_X10_in x0 0 3 M _ hq1) rfl rfl (by decide) rfl rfl (Nat.le_of_ble_eq_true rfl) ?_
  obtain ⟨g9, h⟩ := eGdB h
  have g9 := of_decide_eq_true g9
  obtain rfl := Option.some.inj h
  exact Ev.iret (pc := 6) dX10_isSheet_6 rfl (eNar_boolean g9)
