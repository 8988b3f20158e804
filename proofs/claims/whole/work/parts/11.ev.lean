theorem dX9_move_0 : decode cX9_move 0 = .ok (.aload_n 0, 1) := by decide +kernel
theorem dX9_move_1 : decode cX9_move 1 = .ok (.getfield 12, 3) := by decide +kernel
theorem dX9_move_4 : decode cX9_move 4 = .ok (.getfield 46, 3) := by decide +kernel
theorem dX9_move_7 : decode cX9_move 7 = .ok (.astore_n 3, 1) := by decide +kernel
theorem dX9_move_8 : decode cX9_move 8 = .ok (.iload_n 1, 1) := by decide +kernel
theorem dX9_move_9 : decode cX9_move 9 = .ok (.aload_n 3, 1) := by decide +kernel
theorem dX9_move_10 : decode cX9_move 10 = .ok (.getfield 68, 3) := by decide +kernel
theorem dX9_move_13 : decode cX9_move 13 = .ok (.invokestatic 37, 3) := by decide +kernel
theorem dX9_move_16 : decode cX9_move 16 = .ok (.ifCond .eq 14, 3) := by decide +kernel
theorem dX9_move_19 : decode cX9_move 19 = .ok (.iload_n 2, 1) := by decide +kernel
theorem dX9_move_20 : decode cX9_move 20 = .ok (.aload_n 3, 1) := by decide +kernel
theorem dX9_move_21 : decode cX9_move 21 = .ok (.getfield 59, 3) := by decide +kernel
theorem dX9_move_24 : decode cX9_move 24 = .ok (.invokestatic 37, 3) := by decide +kernel
theorem dX9_move_27 : decode cX9_move 27 = .ok (.ifCond .ne 10, 3) := by decide +kernel
theorem dX9_move_30 : decode cX9_move 30 = .ok (.aload_n 0, 1) := by decide +kernel
theorem dX9_move_31 : decode cX9_move 31 = .ok (.ldc 41, 2) := by decide +kernel
theorem dX9_move_33 : decode cX9_move 33 = .ok (.invokevirtual 42, 3) := by decide +kernel
theorem dX9_move_36 : decode cX9_move 36 = .ok (.ireturn, 1) := by decide +kernel
theorem dX9_move_37 : decode cX9_move 37 = .ok (.aload_n 3, 1) := by decide +kernel
theorem dX9_move_38 : decode cX9_move 38 = .ok (.iload_n 1, 1) := by decide +kernel
theorem dX9_move_39 : decode cX9_move 39 = .ok (.invokevirtual 75, 3) := by decide +kernel
theorem dX9_move_42 : decode cX9_move 42 = .ok (.ifCond .ne 14, 3) := by decide +kernel
theorem dX9_move_45 : decode cX9_move 45 = .ok (.aload_n 0, 1) := by decide +kernel
theorem dX9_move_46 : decode cX9_move 46 = .ok (.getfield 12, 3) := by decide +kernel
theorem dX9_move_49 : decode cX9_move 49 = .ok (.iload_n 1, 1) := by decide +kernel
theorem dX9_move_50 : decode cX9_move 50 = .ok (.invokevirtual 79, 3) := by decide +kernel
theorem dX9_move_53 : decode cX9_move 53 = .ok (.ifCond .eq 10, 3) := by decide +kernel
theorem dX9_move_56 : decode cX9_move 56 = .ok (.aload_n 0, 1) := by decide +kernel
theorem dX9_move_57 : decode cX9_move 57 = .ok (.ldc 82, 2) := by decide +kernel
theorem dX9_move_59 : decode cX9_move 59 = .ok (.invokevirtual 42, 3) := by decide +kernel
theorem dX9_move_62 : decode cX9_move 62 = .ok (.ireturn, 1) := by decide +kernel
theorem dX9_move_63 : decode cX9_move 63 = .ok (.aload_n 3, 1) := by decide +kernel
theorem dX9_move_64 : decode cX9_move 64 = .ok (.iload_n 2, 1) := by decide +kernel
theorem dX9_move_65 : decode cX9_move 65 = .ok (.aload_n 3, 1) := by decide +kernel
theorem dX9_move_66 : decode cX9_move 66 = .ok (.getfield 83, 3) := by decide +kernel
theorem dX9_move_69 : decode cX9_move 69 = .ok (.iload_n 1, 1) := by decide +kernel
theorem dX9_move_70 : decode cX9_move 70 = .ok (.iaload, 1) := by decide +kernel
theorem dX9_move_71 : decode cX9_move 71 = .ok (.invokevirtual 86, 3) := by decide +kernel
theorem dX9_move_74 : decode cX9_move 74 = .ok (.ifCond .ne 10, 3) := by decide +kernel
theorem dX9_move_77 : decode cX9_move 77 = .ok (.aload_n 0, 1) := by decide +kernel
theorem dX9_move_78 : decode cX9_move 78 = .ok (.ldc 89, 2) := by decide +kernel
theorem dX9_move_80 : decode cX9_move 80 = .ok (.invokevirtual 42, 3) := by decide +kernel
theorem dX9_move_83 : decode cX9_move 83 = .ok (.ireturn, 1) := by decide +kernel
theorem dX9_move_84 : decode cX9_move 84 = .ok (.aload_n 3, 1) := by decide +kernel
theorem dX9_move_85 : decode cX9_move 85 = .ok (.getfield 90, 3) := by decide +kernel
theorem dX9_move_88 : decode cX9_move 88 = .ok (.iload_n 1, 1) := by decide +kernel
theorem dX9_move_89 : decode cX9_move 89 = .ok (.iload_n 2, 1) := by decide +kernel
theorem dX9_move_90 : decode cX9_move 90 = .ok (.iastore, 1) := by decide +kernel
theorem dX9_move_91 : decode cX9_move 91 = .ok (.aload_n 3, 1) := by decide +kernel
theorem dX9_move_92 : decode cX9_move 92 = .ok (.getfield 93, 3) := by decide +kernel
theorem dX9_move_95 : decode cX9_move 95 = .ok (.iload_n 1, 1) := by decide +kernel
theorem dX9_move_96 : decode cX9_move 96 = .ok (.aload_n 3, 1) := by decide +kernel
theorem dX9_move_97 : decode cX9_move 97 = .ok (.getfield 96, 3) := by decide +kernel
theorem dX9_move_100 : decode cX9_move 100 = .ok (.iload_n 2, 1) := by decide +kernel
theorem dX9_move_101 : decode cX9_move 101 = .ok (.iaload, 1) := by decide +kernel
theorem dX9_move_102 : decode cX9_move 102 = .ok (.iastore, 1) := by decide +kernel
theorem dX9_move_103 : decode cX9_move 103 = .ok (.aload_n 3, 1) := by decide +kernel
theorem dX9_move_104 : decode cX9_move 104 = .ok (.getfield 99, 3) := by decide +kernel
theorem dX9_move_107 : decode cX9_move 107 = .ok (.aload_n 3, 1) := by decide +kernel
theorem dX9_move_108 : decode cX9_move 108 = .ok (.getfield 96, 3) := by decide +kernel
theorem dX9_move_111 : decode cX9_move 111 = .ok (.iload_n 2, 1) := by decide +kernel
theorem dX9_move_112 : decode cX9_move 112 = .ok (.iaload, 1) := by decide +kernel
theorem dX9_move_113 : decode cX9_move 113 = .ok (.iadd, 1) := by decide +kernel
theorem dX9_move_114 : decode cX9_move 114 = .ok (.ireturn, 1) := by decide +kernel
def F_X9_move (x1 : Int32) (x2 : Int32) (M : eMem) : Option (Int32 × eMem) :=
  (F_X9_isIn x1 (M.1 2 9)).bind fun q1 =>
  if q1 = 0 then
    (F_X9_found (-1000001) M).bind fun q2 =>
    some (q2.1, q2.2)
  else
    (F_X9_isIn x2 (M.1 2 4)).bind fun q3 =>
    if q3 = 0 then
      (F_X9_found (-1000001) M).bind fun q10 =>
      some (q10.1, q10.2)
    else
      (F_X0_isOnRoad x1 M).bind fun q4 =>
      if q4 = 0 then
        (F_X8_isQuiet x1 M).bind fun q6 =>
        if q6.1 = 0 then
          eG (eIn x1 12) <|
          (F_X0_leadsFrom x2 (q6.2.1 7 x1.toNatClampNeg) q6.2).bind fun q7 =>
          if q7 = 0 then
            (F_X9_found (-1000003) q6.2).bind fun q8 =>
            some (q8.1, q8.2)
          else
            eG (eIn x1 12) <|
            eG (eIn x2 40) <|
            eG (eIn x1 12) <|
            eG (eIn x2 40) <|
            some (((q6.2.1 2 11) + (q6.2.1 6 x2.toNatClampNeg)), (eI (eI q6.2 9 x1.toNatClampNeg x2) 10 x1.toNatClampNeg (q6.2.1 6 x2.toNatClampNeg)))
        else
          (F_X9_found (-1000005) q6.2).bind fun q9 =>
          some (q9.1, q9.2)
      else
        (F_X9_found (-1000005) M).bind fun q5 =>
        some (q5.1, q5.2)
set_option maxRecDepth 100000 in
set_option maxHeartbeats 4000000 in
theorem ev_X9_move (x1 : Int32) (x2 : Int32) (M : eMem) (q : (Int32 × eMem)) (h : F_X9_move x1 x2 M = some q) : Ev layC 5 m_X9_move 0 [some (.ref 0), some (.int x1), some (.int x2), none] [] M (some (.int q.1), q.2) := by
  rw [F_X9_move] at h
  refine Ev.aload_n (pc := 0) dX9_move_0 rfl ?_
  refine Ev.getR (pc := 1) dX9_move_1 fl_RX9_12 lC_0 rfl ?_
  refine Ev.getR (pc := 4) dX9_move_4 fl_RX9_46 lC_1 rfl ?_
  refine Ev.astore_n (pc := 7) dX9_move_7 (by decide) rfl rfl ?_
  refine Ev.iload_n (pc := 8) dX9_move_8 rfl ?_
  refine Ev.aload_n (pc := 9) dX9_move_9 rfl ?_
  refine Ev.getI (pc := 10) dX9_move_10 fl_RX9_68 lC_2 rfl ?_
  refine eBk h (fun q1 hq1 h => ?_)
  refine Ev.callS (pc := 13) (as := [.int x1, .int (M.1 2 9)]) (st := []) (z := 0) dX9_move_13 wc_X9_isIn ml_RX9_37 sm_X9_isIn (ev_X9_isIn x1 (M.1 2 9) M _ hq1) rfl rfl (by decide) rfl rfl (Nat.le_of_ble_eq_true rfl) ?_
  refine Ev.if_eq (pc := 16) (tgt := 30) dX9_move_16 (by decide) (fun c9 => ?_) (fun c9 => ?_)
  · have h := eT h c9
    refine Ev.aload_n (pc := 30) dX9_move_30 rfl ?_
    refine Ev.ldc (pc := 31) dX9_move_31 ld_RX9_41 ?_
    refine eBk h (fun q2 hq2 h => ?_)
    refine Ev.callV (pc := 33) (as := [.int (-1000001)]) (st := []) (z := 1) dX9_move_33 wc_X9_found ml_RX9_42 im_X9_found se_X9_found lC_0 rfl rfl (ev_X9_found (-1000001) M _ hq2) rfl rfl (by decide) rfl rfl (Nat.le_of_ble_eq_true rfl) ?_
    obtain rfl := Option.some.inj h
    exact Ev.iret (pc := 36) dX9_move_36 rfl rfl
  · have h := eF h c9
    refine Ev.iload_n (pc := 19) dX9_move_19 rfl ?_
    refine Ev.aload_n (pc := 20) dX9_move_20 rfl ?_
    refine Ev.getI (pc := 21) dX9_move_21 fl_RX9_59 lC_2 rfl ?_
    refine eBk h (fun q3 hq3 h => ?_)
    refine Ev.callS (pc := 24) (as := [.int x2, .int (M.1 2 4)]) (st := []) (z := 0) dX9_move_24 wc_X9_isIn ml_RX9_37 sm_X9_isIn (ev_X9_isIn x2 (M.1 2 4) M _ hq3) rfl rfl (by decide) rfl rfl (Nat.le_of_ble_eq_true rfl) ?_
    refine Ev.if_ne (pc := 27) (tgt := 37) dX9_move_27 (by decide) (fun c9 => ?_) (fun c9 => ?_)
    · have h := eF h c9
      refine Ev.aload_n (pc := 37) dX9_move_37 rfl ?_
      refine Ev.iload_n (pc := 38) dX9_move_38 rfl ?_
      refine eBk h (fun q4 hq4 h => ?_)
      refine Ev.callV (pc := 39) (as := [.int x1]) (st := []) (z := 0) dX9_move_39 wc_X0_isOnRoad ml_RX9_75 im_X0_isOnRoad se_X0_isOnRoad lC_2 rfl rfl (ev_X0_isOnRoad x1 M _ hq4) rfl rfl (by decide) rfl rfl (Nat.le_of_ble_eq_true rfl) ?_
      refine Ev.if_ne (pc := 42) (tgt := 56) dX9_move_42 (by decide) (fun c9 => ?_) (fun c9 => ?_)
      · have h := eF h c9
        refine Ev.aload_n (pc := 56) dX9_move_56 rfl ?_
        refine Ev.ldc (pc := 57) dX9_move_57 ld_RX9_82 ?_
        refine eBk h (fun q5 hq5 h => ?_)
        refine Ev.callV (pc := 59) (as := [.int (-1000005)]) (st := []) (z := 1) dX9_move_59 wc_X9_found ml_RX9_42 im_X9_found se_X9_found lC_0 rfl rfl (ev_X9_found (-1000005) M _ hq5) rfl rfl (by decide) rfl rfl (Nat.le_of_ble_eq_true rfl) ?_
        obtain rfl := Option.some.inj h
        exact Ev.iret (pc := 62) dX9_move_62 rfl rfl
      · have h := eT h c9
        refine Ev.aload_n (pc := 45) dX9_move_45 rfl ?_
        refine Ev.getR (pc := 46) dX9_move_46 fl_RX9_12 lC_0 rfl ?_
        refine Ev.iload_n (pc := 49) dX9_move_49 rfl ?_
        refine eBk h (fun q6 hq6 h => ?_)
        refine Ev.callV (pc := 50) (as := [.int x1]) (st := []) (z := 1) dX9_move_50 wc_X8_isQuiet ml_RX9_79 im_X8_isQuiet se_X8_isQuiet lC_1 rfl rfl (ev_X8_isQuiet x1 M _ hq6) rfl rfl (by decide) rfl rfl (Nat.le_of_ble_eq_true rfl) ?_
        refine Ev.if_eq (pc := 53) (tgt := 63) dX9_move_53 (by decide) (fun c9 => ?_) (fun c9 => ?_)
        · have h := eT h c9
          refine Ev.aload_n (pc := 63) dX9_move_63 rfl ?_
          refine Ev.iload_n (pc := 64) dX9_move_64 rfl ?_
          refine Ev.aload_n (pc := 65) dX9_move_65 rfl ?_
          refine Ev.getR (pc := 66) dX9_move_66 fl_RX9_83 lC_2 rfl ?_
          refine Ev.iload_n (pc := 69) dX9_move_69 rfl ?_
          obtain ⟨g9, h⟩ := eGdB h
          refine Ev.ialdj (pc := 70) dX9_move_70 (j := x1.toNatClampNeg) lC_7 g9 rfl ?_
          refine eBk h (fun q7 hq7 h => ?_)
          refine Ev.callV (pc := 71) (as := [.int x2, .int (q6.2.1 7 x1.toNatClampNeg)]) (st := []) (z := 0) dX9_move_71 wc_X0_leadsFrom ml_RX9_86 im_X0_leadsFrom se_X0_leadsFrom lC_2 rfl rfl (ev_X0_leadsFrom x2 (q6.2.1 7 x1.toNatClampNeg) q6.2 _ hq7) rfl rfl (by decide) rfl rfl (Nat.le_of_ble_eq_true rfl) ?_
          refine Ev.if_ne (pc := 74) (tgt := 84) dX9_move_74 (by decide) (fun c9 => ?_) (fun c9 => ?_)
          · have h := eF h c9
            refine Ev.aload_n (pc := 84) dX9_move_84 rfl ?_
            refine Ev.getR (pc := 85) dX9_move_85 fl_RX9_90 lC_2 rfl ?_
            refine Ev.iload_n (pc := 88) dX9_move_88 rfl ?_
            refine Ev.iload_n (pc := 89) dX9_move_89 rfl ?_
            obtain ⟨g9, h⟩ := eGdB h
            refine Ev.iastj (pc := 90) dX9_move_90 (j := x1.toNatClampNeg) lC_9 g9 rfl ?_
            refine Ev.aload_n (pc := 91) dX9_move_91 rfl ?_
            refine Ev.getR (pc := 92) dX9_move_92 fl_RX9_93 lC_2 rfl ?_
            refine Ev.iload_n (pc := 95) dX9_move_95 rfl ?_
            refine Ev.aload_n (pc := 96) dX9_move_96 rfl ?_
            refine Ev.getR (pc := 97) dX9_move_97 fl_RX9_96 lC_2 rfl ?_
            refine Ev.iload_n (pc := 100) dX9_move_100 rfl ?_
            obtain ⟨g9, h⟩ := eGdB h
            refine Ev.ialdv (pc := 101) dX9_move_101 (v := (q6.2.1 6 x2.toNatClampNeg)) (j := x2.toNatClampNeg) lC_6 g9 rfl (eI_n (by decide)) ?_
            obtain ⟨g9, h⟩ := eGdB h
            refine Ev.iastj (pc := 102) dX9_move_102 (j := x1.toNatClampNeg) lC_10 g9 rfl ?_
            refine Ev.aload_n (pc := 103) dX9_move_103 rfl ?_
            refine Ev.getIv (pc := 104) dX9_move_104 (v := (q6.2.1 2 11)) fl_RX9_99 lC_2 rfl ((eI_n (by decide)).trans (eI_n (by decide))) ?_
            refine Ev.aload_n (pc := 107) dX9_move_107 rfl ?_
            refine Ev.getR (pc := 108) dX9_move_108 fl_RX9_96 lC_2 rfl ?_
            refine Ev.iload_n (pc := 111) dX9_move_111 rfl ?_
            obtain ⟨g9, h⟩ := eGdB h
            refine Ev.ialdv (pc := 112) dX9_move_112 (v := (q6.2.1 6 x2.toNatClampNeg)) (j := x2.toNatClampNeg) lC_6 g9 rfl ((eI_n (by decide)).trans (eI_n (by decide))) ?_
            refine Ev.iadd (pc := 113) dX9_move_113 ?_
            obtain rfl := Option.some.inj h
            exact Ev.iret (pc := 114) dX9_move_114 rfl rfl
          · have h := eT h c9
            refine Ev.aload_n (pc := 77) dX9_move_77 rfl ?_
            refine Ev.ldc (pc := 78) dX9_move_78 ld_RX9_89 ?_
            refine eBk h (fun q8 hq8 h => ?_)
            refine Ev.callV (pc := 80) (as := [.int (-1000003)]) (st := []) (z := 1) dX9_move_80 wc_X9_found ml_RX9_42 im_X9_found se_X9_found lC_0 rfl rfl (ev_X9_found (-1000003) q6.2 _ hq8) rfl rfl (by decide) rfl rfl (Nat.le_of_ble_eq_true rfl) ?_
            obtain rfl := Option.some.inj h
            exact Ev.iret (pc := 83) dX9_move_83 rfl rfl
        · have h := eF h c9
          refine Ev.aload_n (pc := 56) dX9_move_56 rfl ?_
          refine Ev.ldc (pc := 57) dX9_move_57 ld_RX9_82 ?_
          refine eBk h (fun q9 hq9 h => ?_)
          refine Ev.callV (pc := 59) (as := [.int (-1000005)]) (st := []) (z := 1) dX9_move_59 wc_X9_found ml_RX9_42 im_X9_found se_X9_found lC_0 rfl rfl (ev_X9_found (-1000005) q6.2 _ hq9) rfl rfl (by decide) rfl rfl (Nat.le_of_ble_eq_true rfl) ?_
          obtain rfl := Option.some.inj h
          exact Ev.iret (pc := 62) dX9_move_62 rfl rfl
    · have h := eT h c9
      refine Ev.aload_n (pc := 30) dX9_move_30 rfl ?_
      refine Ev.ldc (pc := 31) dX9_move_31 ld_RX9_41 ?_
      refine eBk h (fun q10 hq10 h => ?_)
      refine Ev.callV (pc := 33) (as := [.int (-1000001)]) (st := []) (z := 1) dX9_move_33 wc_X9_found ml_RX9_42 im_X9_found se_X9_found lC_0 rfl rfl (ev_X9_found (-1000001) M _ hq10) rfl rfl (by decide) rfl rfl (Nat.le_of_ble_eq_true rfl) ?_
      obtain rfl := Option.some.inj h
      exact Ev.iret (pc := 36) dX9_move_36 rfl rfl
theorem dX10_isUnit_0 : decode cX10_isUnit 0 = .ok (.iload_n 1, 1) := by decide +kernel
theorem dX10_isUnit_1 : decode cX10_isUnit 1 = .ok (.iconst 0, 1) := by decide +kernel
theorem dX10_isUnit_2 : decode cX10_isUnit 2 = .ok (.aload_n 0, 1) := by decide +kernel
theorem dX10_isUnit_3 : decode cX10_isUnit 3 = .ok (.getfield 7, 3) := by decide +kernel
theorem dX10_isUnit_6 : decode cX10_isUnit 6 = .ok (.bipush 8, 2) := by decide +kernel
theorem dX10_isUnit_8 : decode cX10_isUnit 8 = .ok (.iaload, 1) := by decide +kernel
theorem dX10_isUnit_9 : decode cX10_isUnit 9 = .ok (.iconst 1, 1) := by decide +kernel
theorem dX10_isUnit_10 : decode cX10_isUnit 10 = .ok (.isub, 1) := by decide +kernel
theorem dX10_isUnit_11 : decode cX10_isUnit 11 = .ok (.invokestatic 58, 3) := by decide +kernel
theorem dX10_isUnit_14 : decode cX10_isUnit 14 = .ok (.ireturn, 1) := by decide +kernel
def F_X10_isUnit (x1 : Int32) (M : eMem) : Option Int32 :=
  (F_X10_in x1 0 ((M.1 1 8) - 1)).bind fun q1 =>
  eG (decide (vp_nar .boolean q1 = q1)) <|
  some q1
set_option maxRecDepth 100000 in
set_option maxHeartbeats 4000000 in
theorem ev_X10_isUnit (x1 : Int32) (M : eMem) (q : Int32) (h : F_X10_isUnit x1 M = some q) : Ev layR 1 m_X10_isUnit 0 [some (.ref 0), some (.int x1)] [] M (some (.int q), M) := by
  rw [F_X10_isUnit] at h
  refine Ev.iload_n (pc := 0) dX10_isUnit_0 rfl ?_
  refine Ev.iconst (pc := 1) dX10_isUnit_1 (v := 0) (by decide) ?_
  refine Ev.aload_n (pc := 2) dX10_isUnit_2 rfl ?_
  refine Ev.getR (pc := 3) dX10_isUnit_3 fl_RX10_7 lR_0 rfl ?_
  refine Ev.bipush (pc := 6) dX10_isUnit_6 (v := 8) (by decide) ?_
  refine Ev.ialdj (pc := 8) dX10_isUnit_8 (j := 8) lR_1 (by decide) (by decide) ?_
  refine Ev.iconst (pc := 9) dX10_isUnit_9 (v := 1) (by decide) ?_
  refine Ev.isub (pc := 10) dX10_isUnit_10 ?_
  refine eBk h (fun q1 hq1 h => ?_)
  refine Ev.callS (pc := 11) (as := [.int x1, .int 0, .int ((M.1 1 8) - 1)]) (st := []) (z := 0) dX10_isUnit_11 wc_X10_in ml_RX10_58 sm_X10_in (ev_X10_in x1 0 ((M.1 1 8) - 1) M _ hq1) rfl rfl (by decide) rfl rfl (Nat.le_of_ble_eq_true rfl) ?_
  obtain ⟨g9, h⟩ := eGdB h
  have g9 := of_decide_eq_true g9
  obtain rfl := Option.some.inj h
  exact Ev.iret (pc := 14) dX10_isUnit_14 rfl (eNar_boolean g9)
theorem dX10_isRoad_0 : decode cX10_isRoad 0 = .ok (.iload_n 1, 1) := by decide +kernel
theorem dX10_isRoad_1 : decode cX10_isRoad 1 = .ok (.iconst 0, 1) := by decide +kernel
theorem dX10_isRoad_2 : decode cX10_isRoad 2 = .ok (.aload_n 0, 1) := by decide +kernel
theorem dX10_isRoad_3 : decode cX10_isRoad 3 = .ok (.getfield 7, 3) := by decide +kernel
theorem dX10_isRoad_6 : decode cX10_isRoad 6 = .ok (.bipush 7, 2) := by decide +kernel
theorem dX10_isRoad_8 : decode cX10_isRoad 8 = .ok (.iaload, 1) := by decide +kernel
theorem dX10_isRoad_9 : decode cX10_isRoad 9 = .ok (.iconst 1, 1) := by decide +kernel
theorem dX10_isRoad_10 : decode cX10_isRoad 10 = .ok (.isub, 1) := by decide +kernel
theorem dX10_isRoad_11 : decode cX10_isRoad 11 = .ok (.invokestatic 58, 3) := by decide +kernel
theorem dX10_isRoad_14 : decode cX10_isRoad 14 = .ok (.ireturn, 1) := by decide +kernel
def F_X10_isRoad (x1 : Int32) (M : eMem) : Option Int32 :=
  (F_X10_in x1 0 ((M.1 1 7) - 1)).bind fun q1 =>
  eG (decide (vp_nar .boolean q1 = q1)) <|
  some q1
set_option maxRecDepth 100000 in
set_option maxHeartbeats 4000000 in
theorem ev_X10_isRoad (x1 : Int32) (M : eMem) (q : Int32) (h : F_X10_isRoad x1 M = some q) : Ev layR 1 m_X10_isRoad 0 [some (.ref 0), some (.int x1)] [] M (some (.int q), M) := by
  rw [F_X10_isRoad] at h
  refine Ev.iload_n (pc := 0) dX10_isRoad_0 rfl ?_
  refine Ev.iconst (pc := 1) dX10_isRoad_1 (v := 0) (by decide) ?_
  refine Ev.aload_n (pc := 2) dX10_isRoad_2 rfl ?_
  refine Ev.getR (pc := 3) dX10_isRoad_3 fl_RX10_7 lR_0 rfl ?_
  refine Ev.bipush (pc := 6) dX10_isRoad_6 (v := 7) (by decide) ?_
  refine Ev.ialdj (pc := 8) dX10_isRoad_8 (j := 7) lR_1 (by decide) (by decide) ?_
  refine Ev.iconst (pc := 9) dX10_isRoad_9 (v := 1) (by decide) ?_
  refine Ev.isub (pc := 10) dX10_isRoad_10 ?_
  refine eBk h (fun q1 hq1 h => ?_)
  refine Ev.callS (pc := 11) (as := [.int x1, .int 0, .int ((M.1 1 7) - 1)]) (st := []) (z := 0) dX10_isRoad_11 wc_X10_in ml_RX10_58 sm_X10_in (ev_X10_in x1 0 ((M.1 1 7) - 1) M _ hq1) rfl rfl (by decide) rfl rfl (Nat.le_of_ble_eq_true rfl) ?_
  obtain ⟨g9, h⟩ := eGdB h
  have g9 := of_decide_eq_true g9
  obtain rfl := Option.some.inj h
  exact Ev.iret (pc := 14) dX10_isRoad_14 rfl (eNar_boolean g9)
theorem dX10_show_0 : decode cX10_show 0 = .ok (.aload_n 0, 1) := by decide +kernel
theorem dX10_show_1 : decode cX10_show 1 = .ok (.getfield 7, 3) := by decide +kernel
theorem dX10_show_4 : decode cX10_show 4 = .ok (.sipush 298, 3) := by decide +kernel
theorem dX10_show_7 : decode cX10_show 7 = .ok (.bipush 10, 2) := by decide +kernel
theorem dX10_show_9 : decode cX10_show 9 = .ok (.iload_n 1, 1) := by decide +kernel
theorem dX10_show_10 : decode cX10_show 10 = .ok (.imul, 1) := by decide +kernel
theorem dX10_show_11 : decode cX10_show 11 = .ok (.iadd, 1) := by decide +kernel
theorem dX10_show_12 : decode cX10_show 12 = .ok (.iload_n 2, 1) := by decide +kernel
theorem dX10_show_13 : decode cX10_show 13 = .ok (.iadd, 1) := by decide +kernel
theorem dX10_show_14 : decode cX10_show 14 = .ok (.iaload, 1) := by decide +kernel
theorem dX10_show_15 : decode cX10_show 15 = .ok (.ireturn, 1) := by decide +kernel
def F_X10_show (x1 : Int32) (x2 : Int32) (M : eMem) : Option Int32 :=
  eG (eIn ((298 + (10 * x1)) + x2) 2900) <|
  some (M.1 1 ((298 + (10 * x1)) + x2).toNatClampNeg)
set_option maxRecDepth 100000 in
set_option maxHeartbeats 4000000 in
theorem ev_X10_show (x1 : Int32) (x2 : Int32) (M : eMem) (q : Int32) (h : F_X10_show x1 x2 M = some q) : Ev layR 0 m_X10_show 0 [some (.ref 0), some (.int x1), some (.int x2)] [] M (some (.int q), M) := by
  rw [F_X10_show] at h
  refine Ev.aload_n (pc := 0) dX10_show_0 rfl ?_
  refine Ev.getR (pc := 1) dX10_show_1 fl_RX10_7 lR_0 rfl ?_
  refine Ev.sipush (pc := 4) dX10_show_4 (v := 298) (by decide) ?_
  refine Ev.bipush (pc := 7) dX10_show_7 (v := 10) (by decide) ?_
  refine Ev.iload_n (pc := 9) dX10_show_9 rfl ?_
  refine Ev.imul (pc := 10) dX10_show_10 ?_
  refine Ev.iadd (pc := 11) dX10_show_11 ?_
  refine Ev.iload_n (pc := 12) dX10_show_12 rfl ?_
  refine Ev.iadd (pc := 13) dX10_show_13 ?_
  obtain ⟨g9, h⟩ := eGdB h
  refine Ev.ialdj (pc := 14) dX10_show_14 (j := ((298 + (10 * x1)) + x2).toNatClampNeg) lR_1 g9 rfl ?_
  obtain rfl := Option.some.inj h
  exact Ev.iret (pc := 15) dX10_show_15 rfl rfl
theorem dX10_needOf_0 : decode cX10_needOf 0 = .ok (.aload_n 0, 1) := by decide +kernel
theorem dX10_needOf_1 : decode cX10_needOf 1 = .ok (.iload_n 1, 1) := by decide +kernel
theorem dX10_needOf_2 : decode cX10_needOf 2 = .ok (.iconst 0, 1) := by decide +kernel
theorem dX10_needOf_3 : decode cX10_needOf 3 = .ok (.invokevirtual 77, 3) := by decide +kernel
theorem dX10_needOf_6 : decode cX10_needOf 6 = .ok (.istore_n 2, 1) := by decide +kernel
theorem dX10_needOf_7 : decode cX10_needOf 7 = .ok (.iload_n 2, 1) := by decide +kernel
theorem dX10_needOf_8 : decode cX10_needOf 8 = .ok (.iconst 1, 1) := by decide +kernel
theorem dX10_needOf_9 : decode cX10_needOf 9 = .ok (.if_icmp .ne 7, 3) := by decide +kernel
theorem dX10_needOf_12 : decode cX10_needOf 12 = .ok (.iconst 1, 1) := by decide +kernel
theorem dX10_needOf_13 : decode cX10_needOf 13 = .ok (.goto 22, 3) := by decide +kernel
theorem dX10_needOf_16 : decode cX10_needOf 16 = .ok (.iload_n 2, 1) := by decide +kernel
theorem dX10_needOf_17 : decode cX10_needOf 17 = .ok (.iconst 2, 1) := by decide +kernel
theorem dX10_needOf_18 : decode cX10_needOf 18 = .ok (.if_icmp .ne 7, 3) := by decide +kernel
theorem dX10_needOf_21 : decode cX10_needOf 21 = .ok (.iconst 4, 1) := by decide +kernel
theorem dX10_needOf_22 : decode cX10_needOf 22 = .ok (.goto 13, 3) := by decide +kernel
theorem dX10_needOf_25 : decode cX10_needOf 25 = .ok (.iload_n 2, 1) := by decide +kernel
theorem dX10_needOf_26 : decode cX10_needOf 26 = .ok (.iconst 3, 1) := by decide +kernel
theorem dX10_needOf_27 : decode cX10_needOf 27 = .ok (.if_icmp .ne 7, 3) := by decide +kernel
theorem dX10_needOf_30 : decode cX10_needOf 30 = .ok (.iconst 2, 1) := by decide +kernel
theorem dX10_needOf_31 : decode cX10_needOf 31 = .ok (.goto 4, 3) := by decide +kernel
theorem dX10_needOf_34 : decode cX10_needOf 34 = .ok (.iconst 0, 1) := by decide +kernel
theorem dX10_needOf_35 : decode cX10_needOf 35 = .ok (.ireturn, 1) := by decide +kernel
def F_X10_needOf (x1 : Int32) (M : eMem) : Option Int32 :=
  (F_X10_show x1 0 M).bind fun q1 =>
  if q1 = 1 then
    some 1
  else
    if q1 = 2 then
      some 4
    else
      if q1 = 3 then
        some 2
      else
        some 0
set_option maxRecDepth 100000 in
set_option maxHeartbeats 4000000 in
theorem ev_X10_needOf (x1 : Int32) (M : eMem) (q : Int32) (h : F_X10_needOf x1 M = some q) : Ev layR 1 m_X10_needOf 0 [some (.ref 0), some (.int x1), none] [] M (some (.int q), M) := by
  rw [F_X10_needOf] at h
  refine Ev.aload_n (pc := 0) dX10_needOf_0 rfl ?_
  refine Ev.iload_n (pc := 1) dX10_needOf_1 rfl ?_
  refine Ev.iconst (pc := 2) dX10_needOf_2 (v := 0) (by decide) ?_
  refine eBk h (fun q1 hq1 h => ?_)
  refine Ev.callV (pc := 3) (as := [.int x1, .int 0]) (st := []) (z := 0) dX10_needOf_3 wc_X10_show ml_RX10_77 im_X10_show se_X10_show lR_0 rfl rfl (ev_X10_show x1 0 M _ hq1) rfl rfl (by decide) rfl rfl (Nat.le_of_ble_eq_true rfl) ?_
  refine Ev.istore_n (pc := 6) dX10_needOf_6 (by decide) rfl rfl ?_
  refine Ev.iload_n (pc := 7) dX10_needOf_7 rfl ?_
  refine Ev.iconst (pc := 8) dX10_needOf_8 (v := 1) (by decide) ?_
  refine Ev.icmp_ne (pc := 9) (tgt := 16) dX10_needOf_9 (by decide) (fun c9 => ?_) (fun c9 => ?_)
  · have h := eF h c9
    refine Ev.iload_n (pc := 16) dX10_needOf_16 rfl ?_
    refine Ev.iconst (pc := 17) dX10_needOf_17 (v := 2) (by decide) ?_
    refine Ev.icmp_ne (pc := 18) (tgt := 25) dX10_needOf_18 (by decide) (fun c9 => ?_) (fun c9 => ?_)
    · have h := eF h c9
      refine Ev.iload_n (pc := 25) dX10_needOf_25 rfl ?_
      refine Ev.iconst (pc := 26) dX10_needOf_26 (v := 3) (by decide) ?_
      refine Ev.icmp_ne (pc := 27) (tgt := 34) dX10_needOf_27 (by decide) (fun c9 => ?_) (fun c9 => ?_)
      · have h := eF h c9
        refine Ev.iconst (pc := 34) dX10_needOf_34 (v := 0) (by decide) ?_
        obtain rfl := Option.some.inj h
        exact Ev.iret (pc := 35) dX10_needOf_35 rfl rfl
      · have h := eT h c9
        refine Ev.iconst (pc := 30) dX10_needOf_30 (v := 2) (by decide) ?_
        refine Ev.goto (pc := 31) (tgt := 35) dX10_needOf_31 (by decide) ?_
        obtain rfl := Option.some.inj h
        exact Ev.iret (pc := 35) dX10_needOf_35 rfl rfl
    · have h := eT h c9
      refine Ev.iconst (pc := 21) dX10_needOf_21 (v := 4) (by decide) ?_
      refine Ev.goto (pc := 22) (tgt := 35) dX10_needOf_22 (by decide) ?_
      obtain rfl := Option.some.inj h
      exact Ev.iret (pc := 35) dX10_needOf_35 rfl rfl
  · have h := eT h c9
    refine Ev.iconst (pc := 12) dX10_needOf_12 (v := 1) (by decide) ?_
    refine Ev.goto (pc := 13) (tgt := 35) dX10_needOf_13 (by decide) ?_
    obtain rfl := Option.some.inj h
    exact Ev.iret (pc := 35) dX10_needOf_35 rfl rfl
theorem dX10_isUnder_0 : decode cX10_isUnder 0 = .ok (.iload_n 1, 1) := by decide +kernel
theorem dX10_isUnder_1 : decode cX10_isUnder 1 = .ok (.ifCond .eq 18, 3) := by decide +kernel
theorem dX10_isUnder_4 : decode cX10_isUnder 4 = .ok (.iload_n 0, 1) := by decide +kernel
theorem dX10_isUnder_5 : decode cX10_isUnder 5 = .ok (.iload_n 1, 1) := by decide +kernel
theorem dX10_isUnder_6 : decode cX10_isUnder 6 = .ok (.if_icmp .eq 13, 3) := by decide +kernel
theorem dX10_isUnder_9 : decode cX10_isUnder 9 = .ok (.iload_n 0, 1) := by decide +kernel
theorem dX10_isUnder_10 : decode cX10_isUnder 10 = .ok (.iconst 2, 1) := by decide +kernel
theorem dX10_isUnder_11 : decode cX10_isUnder 11 = .ok (.if_icmp .ne 12, 3) := by decide +kernel
theorem dX10_isUnder_14 : decode cX10_isUnder 14 = .ok (.iload_n 1, 1) := by decide +kernel
theorem dX10_isUnder_15 : decode cX10_isUnder 15 = .ok (.iconst 1, 1) := by decide +kernel
theorem dX10_isUnder_16 : decode cX10_isUnder 16 = .ok (.if_icmp .ne 7, 3) := by decide +kernel
theorem dX10_isUnder_19 : decode cX10_isUnder 19 = .ok (.iconst 1, 1) := by decide +kernel
theorem dX10_isUnder_20 : decode cX10_isUnder 20 = .ok (.goto 4, 3) := by decide +kernel
theorem dX10_isUnder_23 : decode cX10_isUnder 23 = .ok (.iconst 0, 1) := by decide +kernel
theorem dX10_isUnder_24 : decode cX10_isUnder 24 = .ok (.ireturn, 1) := by decide +kernel
def F_X10_isUnder_19   : Option Int32 :=
  some 1
set_option maxRecDepth 100000 in
set_option maxHeartbeats 4000000 in
theorem ev_X10_isUnder_19 {lay : List eLC}  (q : Int32) (M : eMem)   (h : F_X10_isUnder_19  = some q) : Ev lay 0 m_X10_isUnder 19 [none, none] [] M (some (.int q), M) := by
  rw [F_X10_isUnder_19] at h
  refine Ev.iconst (pc := 19) dX10_isUnder_19 (v := 1) (by decide) ?_
  refine Ev.goto (pc := 20) (tgt := 24) dX10_isUnder_20 (by decide) ?_
  obtain rfl := Option.some.inj h
  exact Ev.iret (pc := 24) dX10_isUnder_24 rfl rfl
def F_X10_isUnder (x0 : Int32) (x1 : Int32) : Option Int32 :=
  if x1 = 0 then
    F_X10_isUnder_19
  else
    if x0 = x1 then
      F_X10_isUnder_19
    else
      if x0 = 2 then
        if x1 = 1 then
          F_X10_isUnder_19
        else
          some 0
      else
        some 0
set_option maxRecDepth 100000 in
set_option maxHeartbeats 4000000 in
theorem ev_X10_isUnder {lay : List eLC} (x0 : Int32) (x1 : Int32) (M : eMem) (q : Int32) (h : F_X10_isUnder x0 x1 = some q) : Ev lay 0 m_X10_isUnder 0 [some (.int x0), some (.int x1)] [] M (some (.int q), M) := by
  rw [F_X10_isUnder] at h
  refine Ev.iload_n (pc := 0) dX10_isUnder_0 rfl ?_
  refine Ev.if_eq (pc := 1) (tgt := 19) dX10_isUnder_1 (by decide) (fun c9 => ?_) (fun c9 => ?_)
  · have h := eT h c9
    exact Ev.fg (ev_X10_isUnder_19 _ _ h) trivial
  · have h := eF h c9
    refine Ev.iload_n (pc := 4) dX10_isUnder_4 rfl ?_
    refine Ev.iload_n (pc := 5) dX10_isUnder_5 rfl ?_
    refine Ev.icmp_eq (pc := 6) (tgt := 19) dX10_isUnder_6 (by decide) (fun c9 => ?_) (fun c9 => ?_)
    · have h := eT h c9
      exact Ev.fg (ev_X10_isUnder_19 _ _ h) trivial
    · have h := eF h c9
      refine Ev.iload_n (pc := 9) dX10_isUnder_9 rfl ?_
      refine Ev.iconst (pc := 10) dX10_isUnder_10 (v := 2) (by decide) ?_
      refine Ev.icmp_ne (pc := 11) (tgt := 23) dX10_isUnder_11 (by decide) (fun c9 => ?_) (fun c9 => ?_)
      · have h := eF h c9
        refine Ev.iconst (pc := 23) dX10_isUnder_23 (v := 0) (by decide) ?_
        obtain rfl := Option.some.inj h
        exact Ev.iret (pc := 24) dX10_isUnder_24 rfl rfl
      · have h := eT h c9
        refine Ev.iload_n (pc := 14) dX10_isUnder_14 rfl ?_
        refine Ev.iconst (pc := 15) dX10_isUnder_15 (v := 1) (by decide) ?_
        refine Ev.icmp_ne (pc := 16) (tgt := 23) dX10_isUnder_16 (by decide) (fun c9 => ?_) (fun c9 => ?_)
        · have h := eF h c9
          refine Ev.iconst (pc := 23) dX10_isUnder_23 (v := 0) (by decide) ?_
          obtain rfl := Option.some.inj h
          exact Ev.iret (pc := 24) dX10_isUnder_24 rfl rfl
        · have h := eT h c9
          exact Ev.fg (ev_X10_isUnder_19 _ _ h) trivial
theorem dX10_valueOf_0 : decode cX10_valueOf 0 = .ok (.iload_n 1, 1) := by decide +kernel
theorem dX10_valueOf_1 : decode cX10_valueOf 1 = .ok (.tableswitch 66 0 3 #[31, 41, 51, 59], 31) := by decide +kernel
theorem dX10_valueOf_32 : decode cX10_valueOf 32 = .ok (.aload_n 0, 1) := by decide +kernel
theorem dX10_valueOf_33 : decode cX10_valueOf 33 = .ok (.getfield 7, 3) := by decide +kernel
theorem dX10_valueOf_36 : decode cX10_valueOf 36 = .ok (.iconst 0, 1) := by decide +kernel
theorem dX10_valueOf_37 : decode cX10_valueOf 37 = .ok (.iaload, 1) := by decide +kernel
theorem dX10_valueOf_38 : decode cX10_valueOf 38 = .ok (.bipush 24, 2) := by decide +kernel
theorem dX10_valueOf_40 : decode cX10_valueOf 40 = .ok (.idiv, 1) := by decide +kernel
theorem dX10_valueOf_41 : decode cX10_valueOf 41 = .ok (.ireturn, 1) := by decide +kernel
theorem dX10_valueOf_42 : decode cX10_valueOf 42 = .ok (.aload_n 0, 1) := by decide +kernel
theorem dX10_valueOf_43 : decode cX10_valueOf 43 = .ok (.getfield 7, 3) := by decide +kernel
theorem dX10_valueOf_46 : decode cX10_valueOf 46 = .ok (.iconst 0, 1) := by decide +kernel
theorem dX10_valueOf_47 : decode cX10_valueOf 47 = .ok (.iaload, 1) := by decide +kernel
theorem dX10_valueOf_48 : decode cX10_valueOf 48 = .ok (.bipush 24, 2) := by decide +kernel
theorem dX10_valueOf_50 : decode cX10_valueOf 50 = .ok (.irem, 1) := by decide +kernel
theorem dX10_valueOf_51 : decode cX10_valueOf 51 = .ok (.ireturn, 1) := by decide +kernel
theorem dX10_valueOf_52 : decode cX10_valueOf 52 = .ok (.aload_n 0, 1) := by decide +kernel
theorem dX10_valueOf_53 : decode cX10_valueOf 53 = .ok (.iload_n 2, 1) := by decide +kernel
theorem dX10_valueOf_54 : decode cX10_valueOf 54 = .ok (.bipush 8, 2) := by decide +kernel
theorem dX10_valueOf_56 : decode cX10_valueOf 56 = .ok (.invokevirtual 77, 3) := by decide +kernel
theorem dX10_valueOf_59 : decode cX10_valueOf 59 = .ok (.ireturn, 1) := by decide +kernel
theorem dX10_valueOf_60 : decode cX10_valueOf 60 = .ok (.aload_n 0, 1) := by decide +kernel
theorem dX10_valueOf_61 : decode cX10_valueOf 61 = .ok (.iload_n 2, 1) := by decide +kernel
theorem dX10_valueOf_62 : decode cX10_valueOf 62 = .ok (.iconst 1, 1) := by decide +kernel
theorem dX10_valueOf_63 : decode cX10_valueOf 63 = .ok (.invokevirtual 77, 3) := by decide +kernel
theorem dX10_valueOf_66 : decode cX10_valueOf 66 = .ok (.ireturn, 1) := by decide +kernel
theorem dX10_valueOf_67 : decode cX10_valueOf 67 = .ok (.aload_n 0, 1) := by decide +kernel
theorem dX10_valueOf_68 : decode cX10_valueOf 68 = .ok (.iload_n 2, 1) := by decide +kernel
theorem dX10_valueOf_69 : decode cX10_valueOf 69 = .ok (.iconst 2, 1) := by decide +kernel
theorem dX10_valueOf_70 : decode cX10_valueOf 70 = .ok (.invokevirtual 77, 3) := by decide +kernel
theorem dX10_valueOf_73 : decode cX10_valueOf 73 = .ok (.ireturn, 1) := by decide +kernel
def F_X10_valueOf (x1 : Int32) (x2 : Int32) (M : eMem) : Option Int32 :=
  if x1 = 0 then
    some ((M.1 1 0) / 24)
  else
  if x1 = 1 then
    some ((M.1 1 0) - (M.1 1 0) / 24 * 24)
  else
  if x1 = 2 then
    (F_X10_show x2 8 M).bind fun q3 =>
    some q3
  else
  if x1 = 3 then
    (F_X10_show x2 1 M).bind fun q5 =>
    some q5
  else
  (F_X10_show x2 2 M).bind fun q7 =>
  some q7
set_option maxRecDepth 100000 in
set_option maxHeartbeats 4000000 in
theorem ev_X10_valueOf (x1 : Int32) (x2 : Int32) (M : eMem) (q : Int32) (h : F_X10_valueOf x1 x2 M = some q) : Ev layR 1 m_X10_valueOf 0 [some (.ref 0), some (.int x1), some (.int x2)] [] M (some (.int q), M) := by
  rw [F_X10_valueOf] at h
  refine Ev.iload_n (pc := 0) dX10_valueOf_0 rfl ?_
  by_cases cs1 : x1 = 0
  · have h := eT h cs1
    refine Ev.tsIn (pc := 1) (tgt := 32) (off := 31) dX10_valueOf_1 (by rw [cs1]; decide) (by rw [cs1]; decide) (by rw [cs1]; rfl) (by decide) ?_
    refine Ev.aload_n (pc := 32) dX10_valueOf_32 rfl ?_
    refine Ev.getR (pc := 33) dX10_valueOf_33 fl_RX10_7 lR_0 rfl ?_
    refine Ev.iconst (pc := 36) dX10_valueOf_36 (v := 0) (by decide) ?_
    refine Ev.ialdj (pc := 37) dX10_valueOf_37 (j := 0) lR_1 (by decide) (by decide) ?_
    refine Ev.bipush (pc := 38) dX10_valueOf_38 (v := 24) (by decide) ?_
    refine Ev.idiv (pc := 40) dX10_valueOf_40 (by decide) ?_
    obtain rfl := Option.some.inj h
    exact Ev.iret (pc := 41) dX10_valueOf_41 rfl rfl
  have h := eF h cs1
  by_cases cs2 : x1 = 1
  · have h := eT h cs2
    refine Ev.tsIn (pc := 1) (tgt := 42) (off := 41) dX10_valueOf_1 (by rw [cs2]; decide) (by rw [cs2]; decide) (by rw [cs2]; rfl) (by decide) ?_
    refine Ev.aload_n (pc := 42) dX10_valueOf_42 rfl ?_
    refine Ev.getR (pc := 43) dX10_valueOf_43 fl_RX10_7 lR_0 rfl ?_
    refine Ev.iconst (pc := 46) dX10_valueOf_46 (v := 0) (by decide) ?_
    refine Ev.ialdj (pc := 47) dX10_valueOf_47 (j := 0) lR_1 (by decide) (by decide) ?_
    refine Ev.bipush (pc := 48) dX10_valueOf_48 (v := 24) (by decide) ?_
    refine Ev.irem (pc := 50) dX10_valueOf_50 (by decide) ?_
    obtain rfl := Option.some.inj h
    exact Ev.iret (pc := 51) dX10_valueOf_51 rfl rfl
  have h := eF h cs2
  by_cases cs4 : x1 = 2
  · have h := eT h cs4
    refine Ev.tsIn (pc := 1) (tgt := 52) (off := 51) dX10_valueOf_1 (by rw [cs4]; decide) (by rw [cs4]; decide) (by rw [cs4]; rfl) (by decide) ?_
    refine Ev.aload_n (pc := 52) dX10_valueOf_52 rfl ?_
    refine Ev.iload_n (pc := 53) dX10_valueOf_53 rfl ?_
    refine Ev.bipush (pc := 54) dX10_valueOf_54 (v := 8) (by decide) ?_
    refine eBk h (fun q3 hq3 h => ?_)
    refine Ev.callV (pc := 56) (as := [.int x2, .int 8]) (st := []) (z := 0) dX10_valueOf_56 wc_X10_show ml_RX10_77 im_X10_show se_X10_show lR_0 rfl rfl (ev_X10_show x2 8 M _ hq3) rfl rfl (by decide) rfl rfl (Nat.le_of_ble_eq_true rfl) ?_
    obtain rfl := Option.some.inj h
    exact Ev.iret (pc := 59) dX10_valueOf_59 rfl rfl
  have h := eF h cs4
  by_cases cs6 : x1 = 3
  · have h := eT h cs6
    refine Ev.tsIn (pc := 1) (tgt := 60) (off := 59) dX10_valueOf_1 (by rw [cs6]; decide) (by rw [cs6]; decide) (by rw [cs6]; rfl) (by decide) ?_
    refine Ev.aload_n (pc := 60) dX10_valueOf_60 rfl ?_
    refine Ev.iload_n (pc := 61) dX10_valueOf_61 rfl ?_
    refine Ev.iconst (pc := 62) dX10_valueOf_62 (v := 1) (by decide) ?_
    refine eBk h (fun q5 hq5 h => ?_)
    refine Ev.callV (pc := 63) (as := [.int x2, .int 1]) (st := []) (z := 0) dX10_valueOf_63 wc_X10_show ml_RX10_77 im_X10_show se_X10_show lR_0 rfl rfl (ev_X10_show x2 1 M _ hq5) rfl rfl (by decide) rfl rfl (Nat.le_of_ble_eq_true rfl) ?_
    obtain rfl := Option.some.inj h
    exact Ev.iret (pc := 66) dX10_valueOf_66 rfl rfl
  have h := eF h cs6
  refine Ev.tsOut (pc := 1) (tgt := 67) dX10_valueOf_1 (eTsO 4 (by decide) (by decide) (by decide) (by
    intro k hk
    rcases (show k = 0 ∨ k = 1 ∨ k = 2 ∨ k = 3 by omega) with rfl | rfl | rfl | rfl
    · exact cs1
    · exact cs2
    · exact cs4
    · exact cs6
    )) (by decide) ?_
  refine Ev.aload_n (pc := 67) dX10_valueOf_67 rfl ?_
  refine Ev.iload_n (pc := 68) dX10_valueOf_68 rfl ?_
  refine Ev.iconst (pc := 69) dX10_valueOf_69 (v := 2) (by decide) ?_
  refine eBk h (fun q7 hq7 h => ?_)
  refine Ev.callV (pc := 70) (as := [.int x2, .int 2]) (st := []) (z := 0) dX10_valueOf_70 wc_X10_show ml_RX10_77 im_X10_show se_X10_show lR_0 rfl rfl (ev_X10_show x2 2 M _ hq7) rfl rfl (by decide) rfl rfl (Nat.le_of_ble_eq_true rfl) ?_
  obtain rfl := Option.some.inj h
  exact Ev.iret (pc := 73) dX10_valueOf_73 rfl rfl
theorem dX10_isSo_0 : decode cX10_isSo 0 = .ok (.aload_n 0, 1) := by decide +kernel
theorem dX10_isSo_1 : decode cX10_isSo 1 = .ok (.aload_n 0, 1) := by decide +kernel
theorem dX10_isSo_2 : decode cX10_isSo 2 = .ok (.getfield 7, 3) := by decide +kernel
theorem dX10_isSo_5 : decode cX10_isSo 5 = .ok (.iload_n 1, 1) := by decide +kernel
theorem dX10_isSo_6 : decode cX10_isSo 6 = .ok (.iconst 1, 1) := by decide +kernel
theorem dX10_isSo_7 : decode cX10_isSo 7 = .ok (.iadd, 1) := by decide +kernel
theorem dX10_isSo_8 : decode cX10_isSo 8 = .ok (.iaload, 1) := by decide +kernel
theorem dX10_isSo_9 : decode cX10_isSo 9 = .ok (.iload_n 2, 1) := by decide +kernel
theorem dX10_isSo_10 : decode cX10_isSo 10 = .ok (.invokevirtual 225, 3) := by decide +kernel
theorem dX10_isSo_13 : decode cX10_isSo 13 = .ok (.istore_n 3, 1) := by decide +kernel
theorem dX10_isSo_14 : decode cX10_isSo 14 = .ok (.aload_n 0, 1) := by decide +kernel
theorem dX10_isSo_15 : decode cX10_isSo 15 = .ok (.getfield 7, 3) := by decide +kernel
theorem dX10_isSo_18 : decode cX10_isSo 18 = .ok (.iload_n 1, 1) := by decide +kernel
theorem dX10_isSo_19 : decode cX10_isSo 19 = .ok (.iconst 3, 1) := by decide +kernel
theorem dX10_isSo_20 : decode cX10_isSo 20 = .ok (.iadd, 1) := by decide +kernel
theorem dX10_isSo_21 : decode cX10_isSo 21 = .ok (.iaload, 1) := by decide +kernel
theorem dX10_isSo_22 : decode cX10_isSo 22 = .ok (.istore 4, 2) := by decide +kernel
theorem dX10_isSo_24 : decode cX10_isSo 24 = .ok (.aload_n 0, 1) := by decide +kernel
theorem dX10_isSo_25 : decode cX10_isSo 25 = .ok (.getfield 7, 3) := by decide +kernel
theorem dX10_isSo_28 : decode cX10_isSo 28 = .ok (.iload_n 1, 1) := by decide +kernel
theorem dX10_isSo_29 : decode cX10_isSo 29 = .ok (.iconst 2, 1) := by decide +kernel
theorem dX10_isSo_30 : decode cX10_isSo 30 = .ok (.iadd, 1) := by decide +kernel
theorem dX10_isSo_31 : decode cX10_isSo 31 = .ok (.iaload, 1) := by decide +kernel
theorem dX10_isSo_32 : decode cX10_isSo 32 = .ok (.bipush 61, 2) := by decide +kernel
theorem dX10_isSo_34 : decode cX10_isSo 34 = .ok (.if_icmp .ne 17, 3) := by decide +kernel
theorem dX10_isSo_37 : decode cX10_isSo 37 = .ok (.iload_n 3, 1) := by decide +kernel
theorem dX10_isSo_38 : decode cX10_isSo 38 = .ok (.iload 4, 2) := by decide +kernel
theorem dX10_isSo_40 : decode cX10_isSo 40 = .ok (.if_icmp .ne 7, 3) := by decide +kernel
theorem dX10_isSo_43 : decode cX10_isSo 43 = .ok (.iconst 1, 1) := by decide +kernel
theorem dX10_isSo_44 : decode cX10_isSo 44 = .ok (.goto 45, 3) := by decide +kernel
theorem dX10_isSo_47 : decode cX10_isSo 47 = .ok (.iconst 0, 1) := by decide +kernel
theorem dX10_isSo_48 : decode cX10_isSo 48 = .ok (.goto 41, 3) := by decide +kernel
theorem dX10_isSo_51 : decode cX10_isSo 51 = .ok (.aload_n 0, 1) := by decide +kernel
theorem dX10_isSo_52 : decode cX10_isSo 52 = .ok (.getfield 7, 3) := by decide +kernel
theorem dX10_isSo_55 : decode cX10_isSo 55 = .ok (.iload_n 1, 1) := by decide +kernel
theorem dX10_isSo_56 : decode cX10_isSo 56 = .ok (.iconst 2, 1) := by decide +kernel
theorem dX10_isSo_57 : decode cX10_isSo 57 = .ok (.iadd, 1) := by decide +kernel
theorem dX10_isSo_58 : decode cX10_isSo 58 = .ok (.iaload, 1) := by decide +kernel
theorem dX10_isSo_59 : decode cX10_isSo 59 = .ok (.bipush 60, 2) := by decide +kernel
theorem dX10_isSo_61 : decode cX10_isSo 61 = .ok (.if_icmp .ne 17, 3) := by decide +kernel
theorem dX10_isSo_64 : decode cX10_isSo 64 = .ok (.iload_n 3, 1) := by decide +kernel
theorem dX10_isSo_65 : decode cX10_isSo 65 = .ok (.iload 4, 2) := by decide +kernel
theorem dX10_isSo_67 : decode cX10_isSo 67 = .ok (.if_icmp .ge 7, 3) := by decide +kernel
theorem dX10_isSo_70 : decode cX10_isSo 70 = .ok (.iconst 1, 1) := by decide +kernel
theorem dX10_isSo_71 : decode cX10_isSo 71 = .ok (.goto 18, 3) := by decide +kernel
theorem dX10_isSo_74 : decode cX10_isSo 74 = .ok (.iconst 0, 1) := by decide +kernel
theorem dX10_isSo_75 : decode cX10_isSo 75 = .ok (.goto 14, 3) := by decide +kernel
theorem dX10_isSo_78 : decode cX10_isSo 78 = .ok (.iload_n 3, 1) := by decide +kernel
theorem dX10_isSo_79 : decode cX10_isSo 79 = .ok (.iload 4, 2) := by decide +kernel
theorem dX10_isSo_81 : decode cX10_isSo 81 = .ok (.if_icmp .le 7, 3) := by decide +kernel
theorem dX10_isSo_84 : decode cX10_isSo 84 = .ok (.iconst 1, 1) := by decide +kernel
theorem dX10_isSo_85 : decode cX10_isSo 85 = .ok (.goto 4, 3) := by decide +kernel
theorem dX10_isSo_88 : decode cX10_isSo 88 = .ok (.iconst 0, 1) := by decide +kernel
theorem dX10_isSo_89 : decode cX10_isSo 89 = .ok (.istore 5, 2) := by decide +kernel
theorem dX10_isSo_91 : decode cX10_isSo 91 = .ok (.iload 5, 2) := by decide +kernel
theorem dX10_isSo_93 : decode cX10_isSo 93 = .ok (.aload_n 0, 1) := by decide +kernel
theorem dX10_isSo_94 : decode cX10_isSo 94 = .ok (.getfield 7, 3) := by decide +kernel
theorem dX10_isSo_97 : decode cX10_isSo 97 = .ok (.iload_n 1, 1) := by decide +kernel
theorem dX10_isSo_98 : decode cX10_isSo 98 = .ok (.iaload, 1) := by decide +kernel
theorem dX10_isSo_99 : decode cX10_isSo 99 = .ok (.iconst 1, 1) := by decide +kernel
theorem dX10_isSo_100 : decode cX10_isSo 100 = .ok (.if_icmp .ne 7, 3) := by decide +kernel
theorem dX10_isSo_103 : decode cX10_isSo 103 = .ok (.iconst 1, 1) := by decide +kernel
theorem dX10_isSo_104 : decode cX10_isSo 104 = .ok (.goto 4, 3) := by decide +kernel
theorem dX10_isSo_107 : decode cX10_isSo 107 = .ok (.iconst 0, 1) := by decide +kernel
theorem dX10_isSo_108 : decode cX10_isSo 108 = .ok (.if_icmp .eq 7, 3) := by decide +kernel
theorem dX10_isSo_111 : decode cX10_isSo 111 = .ok (.iconst 1, 1) := by decide +kernel
theorem dX10_isSo_112 : decode cX10_isSo 112 = .ok (.goto 4, 3) := by decide +kernel
theorem dX10_isSo_115 : decode cX10_isSo 115 = .ok (.iconst 0, 1) := by decide +kernel
theorem dX10_isSo_116 : decode cX10_isSo 116 = .ok (.ireturn, 1) := by decide +kernel
def F_X10_isSo_108  (s0 : Int32) (s1 : Int32) (M : eMem) : Option Int32 :=
  if s1 = s0 then
    some 0
  else
    some 1
set_option maxRecDepth 100000 in
set_option maxHeartbeats 4000000 in
theorem ev_X10_isSo_108  (q : Int32) (M : eMem)  (s0 : Int32) (s1 : Int32) (h : F_X10_isSo_108 s0 s1 M = some q) : Ev layR 2 m_X10_isSo 108 [none, none, none, none, none, none] [.int s0, .int s1] M (some (.int q), M) := by
  rw [F_X10_isSo_108] at h
  refine Ev.icmp_eq (pc := 108) (tgt := 115) dX10_isSo_108 (by decide) (fun c9 => ?_) (fun c9 => ?_)
  · have h := eT h c9
    refine Ev.iconst (pc := 115) dX10_isSo_115 (v := 0) (by decide) ?_
    obtain rfl := Option.some.inj h
    exact Ev.iret (pc := 116) dX10_isSo_116 rfl rfl
  · have h := eF h c9
    refine Ev.iconst (pc := 111) dX10_isSo_111 (v := 1) (by decide) ?_
    refine Ev.goto (pc := 112) (tgt := 116) dX10_isSo_112 (by decide) ?_
    obtain rfl := Option.some.inj h
    exact Ev.iret (pc := 116) dX10_isSo_116 rfl rfl
def F_X10_isSo_89  (v1 : Int32) (s0 : Int32) (M : eMem) : Option Int32 :=
  eG (eIn v1 2900) <|
  if (M.1 1 v1.toNatClampNeg) = 1 then
    F_X10_isSo_108 1 s0 M
  else
    F_X10_isSo_108 0 s0 M
set_option maxRecDepth 100000 in
set_option maxHeartbeats 4000000 in
theorem ev_X10_isSo_89  (q : Int32) (M : eMem)  (v1 : Int32) (s0 : Int32) (h : F_X10_isSo_89 v1 s0 M = some q) : Ev layR 2 m_X10_isSo 89 [some (.ref 0), some (.int v1), none, none, none, none] [.int s0] M (some (.int q), M) := by
  rw [F_X10_isSo_89] at h
  refine Ev.istore (pc := 89) dX10_isSo_89 (by decide) rfl rfl ?_
  refine Ev.iload (pc := 91) dX10_isSo_91 rfl ?_
  refine Ev.aload_n (pc := 93) dX10_isSo_93 rfl ?_
  refine Ev.getR (pc := 94) dX10_isSo_94 fl_RX10_7 lR_0 rfl ?_
  refine Ev.iload_n (pc := 97) dX10_isSo_97 rfl ?_
  obtain ⟨g9, h⟩ := eGdB h
  refine Ev.ialdj (pc := 98) dX10_isSo_98 (j := v1.toNatClampNeg) lR_1 g9 rfl ?_
  refine Ev.iconst (pc := 99) dX10_isSo_99 (v := 1) (by decide) ?_
  refine Ev.icmp_ne (pc := 100) (tgt := 107) dX10_isSo_100 (by decide) (fun c9 => ?_) (fun c9 => ?_)
  · have h := eF h c9
    refine Ev.iconst (pc := 107) dX10_isSo_107 (v := 0) (by decide) ?_
    exact Ev.fg (ev_X10_isSo_108 _ _ _ _ h) trivial
  · have h := eT h c9
    refine Ev.iconst (pc := 103) dX10_isSo_103 (v := 1) (by decide) ?_
    refine Ev.goto (pc := 104) (tgt := 108) dX10_isSo_104 (by decide) ?_
    exact Ev.fg (ev_X10_isSo_108 _ _ _ _ h) trivial
def F_X10_isSo (x1 : Int32) (x2 : Int32) (M : eMem) : Option Int32 :=
  eG (eIn (x1 + 1) 2900) <|
  (F_X10_valueOf (M.1 1 (x1 + 1).toNatClampNeg) x2 M).bind fun q1 =>
  eG (eIn (x1 + 3) 2900) <|
  eG (eIn (x1 + 2) 2900) <|
  if (M.1 1 (x1 + 2).toNatClampNeg) = 61 then
    if q1 = (M.1 1 (x1 + 3).toNatClampNeg) then
      F_X10_isSo_89 x1 1 M
    else
      F_X10_isSo_89 x1 0 M
  else
    eG (eIn (x1 + 2) 2900) <|
    if (M.1 1 (x1 + 2).toNatClampNeg) = 60 then
      if q1 < (M.1 1 (x1 + 3).toNatClampNeg) then
        F_X10_isSo_89 x1 1 M
      else
        F_X10_isSo_89 x1 0 M
    else
      if (M.1 1 (x1 + 3).toNatClampNeg) < q1 then
        F_X10_isSo_89 x1 1 M
      else
        F_X10_isSo_89 x1 0 M
set_option maxRecDepth 100000 in
set_option maxHeartbeats 4000000 in
theorem ev_X10_isSo (x1 : Int32) (x2 : Int32) (M : eMem) (q : Int32) (h : F_X10_isSo x1 x2 M = some q) : Ev layR 2 m_X10_isSo 0 [some (.ref 0), some (.int x1), some (.int x2), none, none, none] [] M (some (.int q), M) := by
  rw [F_X10_isSo] at h
  refine Ev.aload_n (pc := 0) dX10_isSo_0 rfl ?_
  refine Ev.aload_n (pc := 1) dX10_isSo_1 rfl ?_
  refine Ev.getR (pc := 2) dX10_isSo_2 fl_RX10_7 lR_0 rfl ?_
  refine Ev.iload_n (pc := 5) dX10_isSo_5 rfl ?_
  refine Ev.iconst (pc := 6) dX10_isSo_6 (v := 1) (by decide) ?_
  refine Ev.iadd (pc := 7) dX10_isSo_7 ?_
  obtain ⟨g9, h⟩ := eGdB h
  refine Ev.ialdj (pc := 8) dX10_isSo_8 (j := (x1 + 1).toNatClampNeg) lR_1 g9 rfl ?_
  refine Ev.iload_n (pc := 9) dX10_isSo_9 rfl ?_
  refine eBk h (fun q1 hq1 h => ?_)
  refine Ev.callV (pc := 10) (as := [.int (M.1 1 (x1 + 1).toNatClampNeg), .int x2]) (st := []) (z := 0) dX10_isSo_10 wc_X10_valueOf ml_RX10_225 im_X10_valueOf se_X10_valueOf lR_0 rfl rfl (ev_X10_valueOf (M.1 1 (x1 + 1).toNatClampNeg) x2 M _ hq1) rfl rfl (by decide) rfl rfl (Nat.le_of_ble_eq_true rfl) ?_
  refine Ev.istore_n (pc := 13) dX10_isSo_13 (by decide) rfl rfl ?_
  refine Ev.aload_n (pc := 14) dX10_isSo_14 rfl ?_
  refine Ev.getR (pc := 15) dX10_isSo_15 fl_RX10_7 lR_0 rfl ?_
  refine Ev.iload_n (pc := 18) dX10_isSo_18 rfl ?_
  refine Ev.iconst (pc := 19) dX10_isSo_19 (v := 3) (by decide) ?_
  refine Ev.iadd (pc := 20) dX10_isSo_20 ?_
  obtain ⟨g9, h⟩ := eGdB h
  refine Ev.ialdj (pc := 21) dX10_isSo_21 (j := (x1 + 3).toNatClampNeg) lR_1 g9 rfl ?_
  refine Ev.istore (pc := 22) dX10_isSo_22 (by decide) rfl rfl ?_
  refine Ev.aload_n (pc := 24) dX10_isSo_24 rfl ?_
  refine Ev.getR (pc := 25) dX10_isSo_25 fl_RX10_7 lR_0 rfl ?_
  refine Ev.iload_n (pc := 28) dX10_isSo_28 rfl ?_
  refine Ev.iconst (pc := 29) dX10_isSo_29 (v := 2) (by decide) ?_
  refine Ev.iadd (pc := 30) dX10_isSo_30 ?_
  obtain ⟨g9, h⟩ := eGdB h
  refine Ev.ialdj (pc := 31) dX10_isSo_31 (j := (x1 + 2).toNatClampNeg) lR_1 g9 rfl ?_
  refine Ev.bipush (pc := 32) dX10_isSo_32 (v := 61) (by decide) ?_
  refine Ev.icmp_ne (pc := 34) (tgt := 51) dX10_isSo_34 (by decide) (fun c9 => ?_) (fun c9 => ?_)
  · have h := eF h c9
    refine Ev.aload_n (pc := 51) dX10_isSo_51 rfl ?_
    refine Ev.getR (pc := 52) dX10_isSo_52 fl_RX10_7 lR_0 rfl ?_
    refine Ev.iload_n (pc := 55) dX10_isSo_55 rfl ?_
    refine Ev.iconst (pc := 56) dX10_isSo_56 (v := 2) (by decide) ?_
    refine Ev.iadd (pc := 57) dX10_isSo_57 ?_
    obtain ⟨g9, h⟩ := eGdB h
    refine Ev.ialdj (pc := 58) dX10_isSo_58 (j := (x1 + 2).toNatClampNeg) lR_1 g9 rfl ?_
    refine Ev.bipush (pc := 59) dX10_isSo_59 (v := 60) (by decide) ?_
    refine Ev.icmp_ne (pc := 61) (tgt := 78) dX10_isSo_61 (by decide) (fun c9 => ?_) (fun c9 => ?_)
    · have h := eF h c9
      refine Ev.iload_n (pc := 78) dX10_isSo_78 rfl ?_
      refine Ev.iload (pc := 79) dX10_isSo_79 rfl ?_
      refine Ev.icmp_le (pc := 81) (tgt := 88) dX10_isSo_81 (by decide) (fun c9 => ?_) (fun c9 => ?_)
      · have h := eF h c9
        refine Ev.iconst (pc := 88) dX10_isSo_88 (v := 0) (by decide) ?_
        exact Ev.fg (ev_X10_isSo_89 _ _ _ _ h) (And.intro rfl (And.intro rfl trivial))
      · have h := eT h c9
        refine Ev.iconst (pc := 84) dX10_isSo_84 (v := 1) (by decide) ?_
        refine Ev.goto (pc := 85) (tgt := 89) dX10_isSo_85 (by decide) ?_
        exact Ev.fg (ev_X10_isSo_89 _ _ _ _ h) (And.intro rfl (And.intro rfl trivial))
    · have h := eT h c9
      refine Ev.iload_n (pc := 64) dX10_isSo_64 rfl ?_
      refine Ev.iload (pc := 65) dX10_isSo_65 rfl ?_
      refine Ev.icmp_ge (pc := 67) (tgt := 74) dX10_isSo_67 (by decide) (fun c9 => ?_) (fun c9 => ?_)
      · have h := eF h c9
        refine Ev.iconst (pc := 74) dX10_isSo_74 (v := 0) (by decide) ?_
        refine Ev.goto (pc := 75) (tgt := 89) dX10_isSo_75 (by decide) ?_
        exact Ev.fg (ev_X10_isSo_89 _ _ _ _ h) (And.intro rfl (And.intro rfl trivial))
      · have h := eT h c9
        refine Ev.iconst (pc := 70) dX10_isSo_70 (v := 1) (by decide) ?_
        refine Ev.goto (pc := 71) (tgt := 89) dX10_isSo_71 (by decide) ?_
        exact Ev.fg (ev_X10_isSo_89 _ _ _ _ h) (And.intro rfl (And.intro rfl trivial))
  · have h := eT h c9
    refine Ev.iload_n (pc := 37) dX10_isSo_37 rfl ?_
    refine Ev.iload (pc := 38) dX10_isSo_38 rfl ?_
    refine Ev.icmp_ne (pc := 40) (tgt := 47) dX10_isSo_40 (by decide) (fun c9 => ?_) (fun c9 => ?_)
    · have h := eF h c9
      refine Ev.iconst (pc := 47) dX10_isSo_47 (v := 0) (by decide) ?_
      refine Ev.goto (pc := 48) (tgt := 89) dX10_isSo_48 (by decide) ?_
      exact Ev.fg (ev_X10_isSo_89 _ _ _ _ h) (And.intro rfl (And.intro rfl trivial))
    · have h := eT h c9
      refine Ev.iconst (pc := 43) dX10_isSo_43 (v := 1) (by decide) ?_
      refine Ev.goto (pc := 44) (tgt := 89) dX10_isSo_44 (by decide) ?_
      exact Ev.fg (ev_X10_isSo_89 _ _ _ _ h) (And.intro rfl (And.intro rfl trivial))
theorem dX10_isAbout_0 : decode cX10_isAbout 0 = .ok (.aload_n 0, 1) := by decide +kernel
theorem dX10_isAbout_1 : decode cX10_isAbout 1 = .ok (.iload_n 2, 1) := by decide +kernel
theorem dX10_isAbout_2 : decode cX10_isAbout 2 = .ok (.iconst 0, 1) := by decide +kernel
theorem dX10_isAbout_3 : decode cX10_isAbout 3 = .ok (.invokevirtual 77, 3) := by decide +kernel
theorem dX10_isAbout_6 : decode cX10_isAbout 6 = .ok (.aload_n 0, 1) := by decide +kernel
theorem dX10_isAbout_7 : decode cX10_isAbout 7 = .ok (.getfield 7, 3) := by decide +kernel
theorem dX10_isAbout_10 : decode cX10_isAbout 10 = .ok (.iload_n 1, 1) := by decide +kernel
theorem dX10_isAbout_11 : decode cX10_isAbout 11 = .ok (.iconst 1, 1) := by decide +kernel
theorem dX10_isAbout_12 : decode cX10_isAbout 12 = .ok (.iadd, 1) := by decide +kernel
theorem dX10_isAbout_13 : decode cX10_isAbout 13 = .ok (.iaload, 1) := by decide +kernel
theorem dX10_isAbout_14 : decode cX10_isAbout 14 = .ok (.invokestatic 112, 3) := by decide +kernel
theorem dX10_isAbout_17 : decode cX10_isAbout 17 = .ok (.ifCond .ne 5, 3) := by decide +kernel
theorem dX10_isAbout_20 : decode cX10_isAbout 20 = .ok (.iconst 0, 1) := by decide +kernel
theorem dX10_isAbout_21 : decode cX10_isAbout 21 = .ok (.ireturn, 1) := by decide +kernel
theorem dX10_isAbout_22 : decode cX10_isAbout 22 = .ok (.aload_n 0, 1) := by decide +kernel
theorem dX10_isAbout_23 : decode cX10_isAbout 23 = .ok (.getfield 7, 3) := by decide +kernel
theorem dX10_isAbout_26 : decode cX10_isAbout 26 = .ok (.iload_n 1, 1) := by decide +kernel
theorem dX10_isAbout_27 : decode cX10_isAbout 27 = .ok (.iconst 2, 1) := by decide +kernel
theorem dX10_isAbout_28 : decode cX10_isAbout 28 = .ok (.iadd, 1) := by decide +kernel
theorem dX10_isAbout_29 : decode cX10_isAbout 29 = .ok (.iaload, 1) := by decide +kernel
theorem dX10_isAbout_30 : decode cX10_isAbout 30 = .ok (.ifCond .ne 7, 3) := by decide +kernel
theorem dX10_isAbout_33 : decode cX10_isAbout 33 = .ok (.iconst 1, 1) := by decide +kernel
theorem dX10_isAbout_34 : decode cX10_isAbout 34 = .ok (.goto 4, 3) := by decide +kernel
theorem dX10_isAbout_37 : decode cX10_isAbout 37 = .ok (.iconst 0, 1) := by decide +kernel
theorem dX10_isAbout_38 : decode cX10_isAbout 38 = .ok (.istore_n 3, 1) := by decide +kernel
theorem dX10_isAbout_39 : decode cX10_isAbout 39 = .ok (.iconst 1, 1) := by decide +kernel
theorem dX10_isAbout_40 : decode cX10_isAbout 40 = .ok (.istore 4, 2) := by decide +kernel
theorem dX10_isAbout_42 : decode cX10_isAbout 42 = .ok (.iconst 0, 1) := by decide +kernel
theorem dX10_isAbout_43 : decode cX10_isAbout 43 = .ok (.istore 5, 2) := by decide +kernel
theorem dX10_isAbout_45 : decode cX10_isAbout 45 = .ok (.iload 5, 2) := by decide +kernel
theorem dX10_isAbout_47 : decode cX10_isAbout 47 = .ok (.aload_n 0, 1) := by decide +kernel
theorem dX10_isAbout_48 : decode cX10_isAbout 48 = .ok (.getfield 7, 3) := by decide +kernel
theorem dX10_isAbout_51 : decode cX10_isAbout 51 = .ok (.iload_n 1, 1) := by decide +kernel
theorem dX10_isAbout_52 : decode cX10_isAbout 52 = .ok (.iconst 2, 1) := by decide +kernel
theorem dX10_isAbout_53 : decode cX10_isAbout 53 = .ok (.iadd, 1) := by decide +kernel
theorem dX10_isAbout_54 : decode cX10_isAbout 54 = .ok (.iaload, 1) := by decide +kernel
theorem dX10_isAbout_55 : decode cX10_isAbout 55 = .ok (.if_icmp .ge 87, 3) := by decide +kernel
theorem dX10_isAbout_58 : decode cX10_isAbout 58 = .ok (.iload_n 1, 1) := by decide +kernel
theorem dX10_isAbout_59 : decode cX10_isAbout 59 = .ok (.iconst 3, 1) := by decide +kernel
theorem dX10_isAbout_60 : decode cX10_isAbout 60 = .ok (.iadd, 1) := by decide +kernel
theorem dX10_isAbout_61 : decode cX10_isAbout 61 = .ok (.iconst 5, 1) := by decide +kernel
theorem dX10_isAbout_62 : decode cX10_isAbout 62 = .ok (.iload 5, 2) := by decide +kernel
theorem dX10_isAbout_64 : decode cX10_isAbout 64 = .ok (.imul, 1) := by decide +kernel
theorem dX10_isAbout_65 : decode cX10_isAbout 65 = .ok (.iadd, 1) := by decide +kernel
theorem dX10_isAbout_66 : decode cX10_isAbout 66 = .ok (.istore 6, 2) := by decide +kernel
theorem dX10_isAbout_68 : decode cX10_isAbout 68 = .ok (.iload_n 3, 1) := by decide +kernel
theorem dX10_isAbout_69 : decode cX10_isAbout 69 = .ok (.ifCond .ne 26, 3) := by decide +kernel
theorem dX10_isAbout_72 : decode cX10_isAbout 72 = .ok (.iload 5, 2) := by decide +kernel
theorem dX10_isAbout_74 : decode cX10_isAbout 74 = .ok (.ifCond .le 25, 3) := by decide +kernel
theorem dX10_isAbout_77 : decode cX10_isAbout 77 = .ok (.aload_n 0, 1) := by decide +kernel
theorem dX10_isAbout_78 : decode cX10_isAbout 78 = .ok (.getfield 7, 3) := by decide +kernel
theorem dX10_isAbout_81 : decode cX10_isAbout 81 = .ok (.iload 6, 2) := by decide +kernel
theorem dX10_isAbout_83 : decode cX10_isAbout 83 = .ok (.iconst 4, 1) := by decide +kernel
theorem dX10_isAbout_84 : decode cX10_isAbout 84 = .ok (.iadd, 1) := by decide +kernel
theorem dX10_isAbout_85 : decode cX10_isAbout 85 = .ok (.iaload, 1) := by decide +kernel
theorem dX10_isAbout_86 : decode cX10_isAbout 86 = .ok (.iconst 1, 1) := by decide +kernel
theorem dX10_isAbout_87 : decode cX10_isAbout 87 = .ok (.if_icmp .ne 12, 3) := by decide +kernel
theorem dX10_isAbout_90 : decode cX10_isAbout 90 = .ok (.iload 4, 2) := by decide +kernel
theorem dX10_isAbout_92 : decode cX10_isAbout 92 = .ok (.ifCond .eq 7, 3) := by decide +kernel
theorem dX10_isAbout_95 : decode cX10_isAbout 95 = .ok (.iconst 1, 1) := by decide +kernel
theorem dX10_isAbout_96 : decode cX10_isAbout 96 = .ok (.goto 4, 3) := by decide +kernel
theorem dX10_isAbout_99 : decode cX10_isAbout 99 = .ok (.iconst 0, 1) := by decide +kernel
theorem dX10_isAbout_100 : decode cX10_isAbout 100 = .ok (.istore_n 3, 1) := by decide +kernel
theorem dX10_isAbout_101 : decode cX10_isAbout 101 = .ok (.aload_n 0, 1) := by decide +kernel
theorem dX10_isAbout_102 : decode cX10_isAbout 102 = .ok (.getfield 7, 3) := by decide +kernel
theorem dX10_isAbout_105 : decode cX10_isAbout 105 = .ok (.iload 6, 2) := by decide +kernel
theorem dX10_isAbout_107 : decode cX10_isAbout 107 = .ok (.iconst 4, 1) := by decide +kernel
theorem dX10_isAbout_108 : decode cX10_isAbout 108 = .ok (.iadd, 1) := by decide +kernel
theorem dX10_isAbout_109 : decode cX10_isAbout 109 = .ok (.iaload, 1) := by decide +kernel
theorem dX10_isAbout_110 : decode cX10_isAbout 110 = .ok (.iconst 1, 1) := by decide +kernel
theorem dX10_isAbout_111 : decode cX10_isAbout 111 = .ok (.if_icmp .eq 8, 3) := by decide +kernel
theorem dX10_isAbout_114 : decode cX10_isAbout 114 = .ok (.iload 4, 2) := by decide +kernel
theorem dX10_isAbout_116 : decode cX10_isAbout 116 = .ok (.ifCond .eq 17, 3) := by decide +kernel
theorem dX10_isAbout_119 : decode cX10_isAbout 119 = .ok (.aload_n 0, 1) := by decide +kernel
theorem dX10_isAbout_120 : decode cX10_isAbout 120 = .ok (.iload 6, 2) := by decide +kernel
theorem dX10_isAbout_122 : decode cX10_isAbout 122 = .ok (.iload_n 2, 1) := by decide +kernel
theorem dX10_isAbout_123 : decode cX10_isAbout 123 = .ok (.invokevirtual 228, 3) := by decide +kernel
theorem dX10_isAbout_126 : decode cX10_isAbout 126 = .ok (.ifCond .eq 7, 3) := by decide +kernel
theorem dX10_isAbout_129 : decode cX10_isAbout 129 = .ok (.iconst 1, 1) := by decide +kernel
theorem dX10_isAbout_130 : decode cX10_isAbout 130 = .ok (.goto 4, 3) := by decide +kernel
theorem dX10_isAbout_133 : decode cX10_isAbout 133 = .ok (.iconst 0, 1) := by decide +kernel
theorem dX10_isAbout_134 : decode cX10_isAbout 134 = .ok (.istore 4, 2) := by decide +kernel
theorem dX10_isAbout_136 : decode cX10_isAbout 136 = .ok (.iinc 5 1, 3) := by decide +kernel
theorem dX10_isAbout_139 : decode cX10_isAbout 139 = .ok (.goto (-94), 3) := by decide +kernel
theorem dX10_isAbout_142 : decode cX10_isAbout 142 = .ok (.iload_n 3, 1) := by decide +kernel
theorem dX10_isAbout_143 : decode cX10_isAbout 143 = .ok (.ifCond .ne 8, 3) := by decide +kernel
theorem dX10_isAbout_146 : decode cX10_isAbout 146 = .ok (.iload 4, 2) := by decide +kernel
theorem dX10_isAbout_148 : decode cX10_isAbout 148 = .ok (.ifCond .eq 7, 3) := by decide +kernel
theorem dX10_isAbout_151 : decode cX10_isAbout 151 = .ok (.iconst 1, 1) := by decide +kernel
theorem dX10_isAbout_152 : decode cX10_isAbout 152 = .ok (.goto 4, 3) := by decide +kernel
theorem dX10_isAbout_155 : decode cX10_isAbout 155 = .ok (.iconst 0, 1) := by decide +kernel
theorem dX10_isAbout_156 : decode cX10_isAbout 156 = .ok (.ireturn, 1) := by decide +kernel
def F_X10_isAbout_119 (rec : Int32 → Int32 → Int32 → Int32 → Int32 → Option Int32) (K142 : Int32 → Int32 → Option Int32) (v1 : Int32) (v2 : Int32) (v3 : Int32) (v5 : Int32) (v6 : Int32) (M : eMem) : Option Int32 :=
  (F_X10_isSo v6 v2 M).bind fun q3 =>
  if q3 = 0 then
    rec v1 v2 v3 0 (v5 + 1)
  else
    rec v1 v2 v3 1 (v5 + 1)
set_option maxRecDepth 100000 in
set_option maxHeartbeats 4000000 in
theorem ev_X10_isAbout_119 (rec : Int32 → Int32 → Int32 → Int32 → Int32 → Option Int32) (K142 : Int32 → Int32 → Option Int32) (q : Int32) (M : eMem) (hrec : ∀ (v1 : Int32) (v2 : Int32) (v3 : Int32) (v4 : Int32) (v5 : Int32), rec v1 v2 v3 v4 v5 = some q → Ev layR 3 m_X10_isAbout 45 [some (.ref 0), some (.int v1), some (.int v2), some (.int v3), some (.int v4), some (.int v5), none] [] M (some (.int q), M)) (hK142 : ∀ (v3 : Int32) (v4 : Int32), K142 v3 v4 = some q → Ev layR 3 m_X10_isAbout 142 [none, none, none, some (.int v3), some (.int v4), none, none] [] M (some (.int q), M)) (v1 : Int32) (v2 : Int32) (v3 : Int32) (v5 : Int32) (v6 : Int32) (h : F_X10_isAbout_119 rec K142 v1 v2 v3 v5 v6 M = some q) : Ev layR 3 m_X10_isAbout 119 [some (.ref 0), some (.int v1), some (.int v2), some (.int v3), none, some (.int v5), some (.int v6)] [] M (some (.int q), M) := by
  rw [F_X10_isAbout_119] at h
  refine Ev.aload_n (pc := 119) dX10_isAbout_119 rfl ?_
  refine Ev.iload (pc := 120) dX10_isAbout_120 rfl ?_
  refine Ev.iload_n (pc := 122) dX10_isAbout_122 rfl ?_
  refine eBk h (fun q3 hq3 h => ?_)
  refine Ev.callV (pc := 123) (as := [.int v6, .int v2]) (st := []) (z := 3) dX10_isAbout_123 wc_X10_isSo ml_RX10_228 im_X10_isSo se_X10_isSo lR_0 rfl rfl (ev_X10_isSo v6 v2 M _ hq3) rfl rfl (by decide) rfl rfl (Nat.le_of_ble_eq_true rfl) ?_
  refine Ev.if_eq (pc := 126) (tgt := 133) dX10_isAbout_126 (by decide) (fun c9 => ?_) (fun c9 => ?_)
  · have h := eT h c9
    refine Ev.iconst (pc := 133) dX10_isAbout_133 (v := 0) (by decide) ?_
    refine Ev.istore (pc := 134) dX10_isAbout_134 (by decide) rfl rfl ?_
    refine Ev.iincv (pc := 136) dX10_isAbout_136 (v := 1) (by decide) rfl (by decide) rfl rfl ?_
    refine Ev.goto (pc := 139) (tgt := 45) dX10_isAbout_139 (by decide) ?_
    exact Ev.fg (hrec _ _ _ _ _ h) (And.intro rfl (And.intro rfl (And.intro rfl (And.intro rfl (And.intro rfl (And.intro rfl trivial))))))
  · have h := eF h c9
    refine Ev.iconst (pc := 129) dX10_isAbout_129 (v := 1) (by decide) ?_
    refine Ev.goto (pc := 130) (tgt := 134) dX10_isAbout_130 (by decide) ?_
    refine Ev.istore (pc := 134) dX10_isAbout_134 (by decide) rfl rfl ?_
    refine Ev.iincv (pc := 136) dX10_isAbout_136 (v := 1) (by decide) rfl (by decide) rfl rfl ?_
    refine Ev.goto (pc := 139) (tgt := 45) dX10_isAbout_139 (by decide) ?_
    exact Ev.fg (hrec _ _ _ _ _ h) (And.intro rfl (And.intro rfl (And.intro rfl (And.intro rfl (And.intro rfl (And.intro rfl trivial))))))
def F_X10_isAbout_100 (rec : Int32 → Int32 → Int32 → Int32 → Int32 → Option Int32) (K142 : Int32 → Int32 → Option Int32) (v1 : Int32) (v2 : Int32) (v4 : Int32) (v5 : Int32) (v6 : Int32) (s0 : Int32) (M : eMem) : Option Int32 :=
  eG (eIn (v6 + 4) 2900) <|
  if (M.1 1 (v6 + 4).toNatClampNeg) = 1 then
    F_X10_isAbout_119 (fun v1 v2 v3 v4 v5 => rec v1 v2 v3 v4 v5) K142 v1 v2 s0 v5 v6 M
  else
    if v4 = 0 then
      rec v1 v2 s0 0 (v5 + 1)
    else
      F_X10_isAbout_119 (fun v1 v2 v3 v4 v5 => rec v1 v2 v3 v4 v5) K142 v1 v2 s0 v5 v6 M
set_option maxRecDepth 100000 in
set_option maxHeartbeats 4000000 in
theorem ev_X10_isAbout_100 (rec : Int32 → Int32 → Int32 → Int32 → Int32 → Option Int32) (K142 : Int32 → Int32 → Option Int32) (q : Int32) (M : eMem) (hrec : ∀ (v1 : Int32) (v2 : Int32) (v3 : Int32) (v4 : Int32) (v5 : Int32), rec v1 v2 v3 v4 v5 = some q → Ev layR 3 m_X10_isAbout 45 [some (.ref 0), some (.int v1), some (.int v2), some (.int v3), some (.int v4), some (.int v5), none] [] M (some (.int q), M)) (hK142 : ∀ (v3 : Int32) (v4 : Int32), K142 v3 v4 = some q → Ev layR 3 m_X10_isAbout 142 [none, none, none, some (.int v3), some (.int v4), none, none] [] M (some (.int q), M)) (v1 : Int32) (v2 : Int32) (v4 : Int32) (v5 : Int32) (v6 : Int32) (s0 : Int32) (h : F_X10_isAbout_100 rec K142 v1 v2 v4 v5 v6 s0 M = some q) : Ev layR 3 m_X10_isAbout 100 [some (.ref 0), some (.int v1), some (.int v2), none, some (.int v4), some (.int v5), some (.int v6)] [.int s0] M (some (.int q), M) := by
  rw [F_X10_isAbout_100] at h
  refine Ev.istore_n (pc := 100) dX10_isAbout_100 (by decide) rfl rfl ?_
  refine Ev.aload_n (pc := 101) dX10_isAbout_101 rfl ?_
  refine Ev.getR (pc := 102) dX10_isAbout_102 fl_RX10_7 lR_0 rfl ?_
  refine Ev.iload (pc := 105) dX10_isAbout_105 rfl ?_
  refine Ev.iconst (pc := 107) dX10_isAbout_107 (v := 4) (by decide) ?_
  refine Ev.iadd (pc := 108) dX10_isAbout_108 ?_
  obtain ⟨g9, h⟩ := eGdB h
  refine Ev.ialdj (pc := 109) dX10_isAbout_109 (j := (v6 + 4).toNatClampNeg) lR_1 g9 rfl ?_
  refine Ev.iconst (pc := 110) dX10_isAbout_110 (v := 1) (by decide) ?_
  refine Ev.icmp_eq (pc := 111) (tgt := 119) dX10_isAbout_111 (by decide) (fun c9 => ?_) (fun c9 => ?_)
  · have h := eT h c9
    exact Ev.fg (ev_X10_isAbout_119 _ _ _ _ hrec hK142 _ _ _ _ _ h) (And.intro rfl (And.intro rfl (And.intro rfl (And.intro rfl (And.intro rfl (And.intro rfl trivial))))))
  · have h := eF h c9
    refine Ev.iload (pc := 114) dX10_isAbout_114 rfl ?_
    refine Ev.if_eq (pc := 116) (tgt := 133) dX10_isAbout_116 (by decide) (fun c9 => ?_) (fun c9 => ?_)
    · have h := eT h c9
      refine Ev.iconst (pc := 133) dX10_isAbout_133 (v := 0) (by decide) ?_
      refine Ev.istore (pc := 134) dX10_isAbout_134 (by decide) rfl rfl ?_
      refine Ev.iincv (pc := 136) dX10_isAbout_136 (v := 1) (by decide) rfl (by decide) rfl rfl ?_
      refine Ev.goto (pc := 139) (tgt := 45) dX10_isAbout_139 (by decide) ?_
      exact Ev.fg (hrec _ _ _ _ _ h) (And.intro rfl (And.intro rfl (And.intro rfl (And.intro rfl (And.intro rfl (And.intro rfl trivial))))))
    · have h := eF h c9
      exact Ev.fg (ev_X10_isAbout_119 _ _ _ _ hrec hK142 _ _ _ _ _ h) (And.intro rfl (And.intro rfl (And.intro rfl (And.intro rfl (And.intro rfl (And.intro rfl trivial))))))
def F_X10_isAbout_95 (rec : Int32 → Int32 → Int32 → Int32 → Int32 → Option Int32) (K142 : Int32 → Int32 → Option Int32) (v1 : Int32) (v2 : Int32) (v4 : Int32) (v5 : Int32) (v6 : Int32) (M : eMem) : Option Int32 :=
  F_X10_isAbout_100 (fun v1 v2 v3 v4 v5 => rec v1 v2 v3 v4 v5) K142 v1 v2 v4 v5 v6 1 M
set_option maxRecDepth 100000 in
set_option maxHeartbeats 4000000 in
theorem ev_X10_isAbout_95 (rec : Int32 → Int32 → Int32 → Int32 → Int32 → Option Int32) (K142 : Int32 → Int32 → Option Int32) (q : Int32) (M : eMem) (hrec : ∀ (v1 : Int32) (v2 : Int32) (v3 : Int32) (v4 : Int32) (v5 : Int32), rec v1 v2 v3 v4 v5 = some q → Ev layR 3 m_X10_isAbout 45 [some (.ref 0), some (.int v1), some (.int v2), some (.int v3), some (.int v4), some (.int v5), none] [] M (some (.int q), M)) (hK142 : ∀ (v3 : Int32) (v4 : Int32), K142 v3 v4 = some q → Ev layR 3 m_X10_isAbout 142 [none, none, none, some (.int v3), some (.int v4), none, none] [] M (some (.int q), M)) (v1 : Int32) (v2 : Int32) (v4 : Int32) (v5 : Int32) (v6 : Int32) (h : F_X10_isAbout_95 rec K142 v1 v2 v4 v5 v6 M = some q) : Ev layR 3 m_X10_isAbout 95 [some (.ref 0), some (.int v1), some (.int v2), none, some (.int v4), some (.int v5), some (.int v6)] [] M (some (.int q), M) := by
  rw [F_X10_isAbout_95] at h
  refine Ev.iconst (pc := 95) dX10_isAbout_95 (v := 1) (by decide) ?_
  refine Ev.goto (pc := 96) (tgt := 100) dX10_isAbout_96 (by decide) ?_
  exact Ev.fg (ev_X10_isAbout_100 _ _ _ _ hrec hK142 _ _ _ _ _ _ h) (And.intro rfl (And.intro rfl (And.intro rfl (And.intro rfl (And.intro rfl (And.intro rfl trivial))))))
def F_X10_isAbout_99 (rec : Int32 → Int32 → Int32 → Int32 → Int32 → Option Int32) (K142 : Int32 → Int32 → Option Int32) (v1 : Int32) (v2 : Int32) (v4 : Int32) (v5 : Int32) (v6 : Int32) (M : eMem) : Option Int32 :=
  F_X10_isAbout_100 (fun v1 v2 v3 v4 v5 => rec v1 v2 v3 v4 v5) K142 v1 v2 v4 v5 v6 0 M
set_option maxRecDepth 100000 in
set_option maxHeartbeats 4000000 in
theorem ev_X10_isAbout_99 (rec : Int32 → Int32 → Int32 → Int32 → Int32 → Option Int32) (K142 : Int32 → Int32 → Option Int32) (q : Int32) (M : eMem) (hrec : ∀ (v1 : Int32) (v2 : Int32) (v3 : Int32) (v4 : Int32) (v5 : Int32), rec v1 v2 v3 v4 v5 = some q → Ev layR 3 m_X10_isAbout 45 [some (.ref 0), some (.int v1), some (.int v2), some (.int v3), some (.int v4), some (.int v5), none] [] M (some (.int q), M)) (hK142 : ∀ (v3 : Int32) (v4 : Int32), K142 v3 v4 = some q → Ev layR 3 m_X10_isAbout 142 [none, none, none, some (.int v3), some (.int v4), none, none] [] M (some (.int q), M)) (v1 : Int32) (v2 : Int32) (v4 : Int32) (v5 : Int32) (v6 : Int32) (h : F_X10_isAbout_99 rec K142 v1 v2 v4 v5 v6 M = some q) : Ev layR 3 m_X10_isAbout 99 [some (.ref 0), some (.int v1), some (.int v2), none, some (.int v4), some (.int v5), some (.int v6)] [] M (some (.int q), M) := by
  rw [F_X10_isAbout_99] at h
  refine Ev.iconst (pc := 99) dX10_isAbout_99 (v := 0) (by decide) ?_
  exact Ev.fg (ev_X10_isAbout_100 _ _ _ _ hrec hK142 _ _ _ _ _ _ h) (And.intro rfl (And.intro rfl (And.intro rfl (And.intro rfl (And.intro rfl (And.intro rfl trivial))))))
def F_X10_isAbout_45 (K142 : Int32 → Int32 → Option Int32) : Nat → eMem → Int32 → Int32 → Int32 → Int32 → Int32 → Option Int32
  | 0, _, _, _, _, _, _ => none
  | n + 1, M, v1, v2, v3, v4, v5 =>
    eG (eIn (v1 + 2) 2900) <|
    if v5 < (M.1 1 (v1 + 2).toNatClampNeg) then
      if v3 = 0 then
        if 0 < v5 then
          eG (eIn (((v1 + 3) + (5 * v5)) + 4) 2900) <|
          if (M.1 1 (((v1 + 3) + (5 * v5)) + 4).toNatClampNeg) = 1 then
            if v4 = 0 then
              F_X10_isAbout_99 (fun v1 v2 v3 v4 v5 => F_X10_isAbout_45 K142 n M v1 v2 v3 v4 v5) K142 v1 v2 v4 v5 ((v1 + 3) + (5 * v5)) M
            else
              F_X10_isAbout_95 (fun v1 v2 v3 v4 v5 => F_X10_isAbout_45 K142 n M v1 v2 v3 v4 v5) K142 v1 v2 v4 v5 ((v1 + 3) + (5 * v5)) M
          else
            F_X10_isAbout_99 (fun v1 v2 v3 v4 v5 => F_X10_isAbout_45 K142 n M v1 v2 v3 v4 v5) K142 v1 v2 v4 v5 ((v1 + 3) + (5 * v5)) M
        else
          F_X10_isAbout_99 (fun v1 v2 v3 v4 v5 => F_X10_isAbout_45 K142 n M v1 v2 v3 v4 v5) K142 v1 v2 v4 v5 ((v1 + 3) + (5 * v5)) M
      else
        F_X10_isAbout_95 (fun v1 v2 v3 v4 v5 => F_X10_isAbout_45 K142 n M v1 v2 v3 v4 v5) K142 v1 v2 v4 v5 ((v1 + 3) + (5 * v5)) M
    else
      K142 v3 v4
set_option maxRecDepth 100000 in
set_option maxHeartbeats 4000000 in
theorem ev_X10_isAbout_45 (K142 : Int32 → Int32 → Option Int32) (q : Int32) (M : eMem) (hK142 : ∀ (v3 : Int32) (v4 : Int32), K142 v3 v4 = some q → Ev layR 3 m_X10_isAbout 142 [none, none, none, some (.int v3), some (.int v4), none, none] [] M (some (.int q), M)) : ∀ (fuel : Nat) (v1 : Int32) (v2 : Int32) (v3 : Int32) (v4 : Int32) (v5 : Int32), F_X10_isAbout_45 K142 fuel M v1 v2 v3 v4 v5 = some q → Ev layR 3 m_X10_isAbout 45 [some (.ref 0), some (.int v1), some (.int v2), some (.int v3), some (.int v4), some (.int v5), none] [] M (some (.int q), M) := by
  intro fuel
  induction fuel with
  | zero => intro v1 v2 v3 v4 v5 h; rw [F_X10_isAbout_45] at h; cases h
  | succ n ih =>
    intro v1 v2 v3 v4 v5 h
    rw [F_X10_isAbout_45] at h
    refine Ev.iload (pc := 45) dX10_isAbout_45 rfl ?_
    refine Ev.aload_n (pc := 47) dX10_isAbout_47 rfl ?_
    refine Ev.getR (pc := 48) dX10_isAbout_48 fl_RX10_7 lR_0 rfl ?_
    refine Ev.iload_n (pc := 51) dX10_isAbout_51 rfl ?_
    refine Ev.iconst (pc := 52) dX10_isAbout_52 (v := 2) (by decide) ?_
    refine Ev.iadd (pc := 53) dX10_isAbout_53 ?_
    obtain ⟨g9, h⟩ := eGdB h
    refine Ev.ialdj (pc := 54) dX10_isAbout_54 (j := (v1 + 2).toNatClampNeg) lR_1 g9 rfl ?_
    refine Ev.icmp_ge (pc := 55) (tgt := 142) dX10_isAbout_55 (by decide) (fun c9 => ?_) (fun c9 => ?_)
    · have h := eF h c9
      exact Ev.fg (hK142 _ _ h) (And.intro rfl (And.intro rfl trivial))
    · have h := eT h c9
      refine Ev.iload_n (pc := 58) dX10_isAbout_58 rfl ?_
      refine Ev.iconst (pc := 59) dX10_isAbout_59 (v := 3) (by decide) ?_
      refine Ev.iadd (pc := 60) dX10_isAbout_60 ?_
      refine Ev.iconst (pc := 61) dX10_isAbout_61 (v := 5) (by decide) ?_
      refine Ev.iload (pc := 62) dX10_isAbout_62 rfl ?_
      refine Ev.imul (pc := 64) dX10_isAbout_64 ?_
      refine Ev.iadd (pc := 65) dX10_isAbout_65 ?_
      refine Ev.istore (pc := 66) dX10_isAbout_66 (by decide) rfl rfl ?_
      refine Ev.iload_n (pc := 68) dX10_isAbout_68 rfl ?_
      refine Ev.if_ne (pc := 69) (tgt := 95) dX10_isAbout_69 (by decide) (fun c9 => ?_) (fun c9 => ?_)
      · have h := eF h c9
        exact Ev.fg (ev_X10_isAbout_95 _ _ _ _ ih hK142 _ _ _ _ _ h) (And.intro rfl (And.intro rfl (And.intro rfl (And.intro rfl (And.intro rfl (And.intro rfl trivial))))))
      · have h := eT h c9
        refine Ev.iload (pc := 72) dX10_isAbout_72 rfl ?_
        refine Ev.if_le (pc := 74) (tgt := 99) dX10_isAbout_74 (by decide) (fun c9 => ?_) (fun c9 => ?_)
        · have h := eF h c9
          exact Ev.fg (ev_X10_isAbout_99 _ _ _ _ ih hK142 _ _ _ _ _ h) (And.intro rfl (And.intro rfl (And.intro rfl (And.intro rfl (And.intro rfl (And.intro rfl trivial))))))
        · have h := eT h c9
          refine Ev.aload_n (pc := 77) dX10_isAbout_77 rfl ?_
          refine Ev.getR (pc := 78) dX10_isAbout_78 fl_RX10_7 lR_0 rfl ?_
          refine Ev.iload (pc := 81) dX10_isAbout_81 rfl ?_
          refine Ev.iconst (pc := 83) dX10_isAbout_83 (v := 4) (by decide) ?_
          refine Ev.iadd (pc := 84) dX10_isAbout_84 ?_
          obtain ⟨g9, h⟩ := eGdB h
          refine Ev.ialdj (pc := 85) dX10_isAbout_85 (j := (((v1 + 3) + (5 * v5)) + 4).toNatClampNeg) lR_1 g9 rfl ?_
          refine Ev.iconst (pc := 86) dX10_isAbout_86 (v := 1) (by decide) ?_
          refine Ev.icmp_ne (pc := 87) (tgt := 99) dX10_isAbout_87 (by decide) (fun c9 => ?_) (fun c9 => ?_)
          · have h := eF h c9
            exact Ev.fg (ev_X10_isAbout_99 _ _ _ _ ih hK142 _ _ _ _ _ h) (And.intro rfl (And.intro rfl (And.intro rfl (And.intro rfl (And.intro rfl (And.intro rfl trivial))))))
          · have h := eT h c9
            refine Ev.iload (pc := 90) dX10_isAbout_90 rfl ?_
            refine Ev.if_eq (pc := 92) (tgt := 99) dX10_isAbout_92 (by decide) (fun c9 => ?_) (fun c9 => ?_)
            · have h := eT h c9
              exact Ev.fg (ev_X10_isAbout_99 _ _ _ _ ih hK142 _ _ _ _ _ h) (And.intro rfl (And.intro rfl (And.intro rfl (And.intro rfl (And.intro rfl (And.intro rfl trivial))))))
            · have h := eF h c9
              exact Ev.fg (ev_X10_isAbout_95 _ _ _ _ ih hK142 _ _ _ _ _ h) (And.intro rfl (And.intro rfl (And.intro rfl (And.intro rfl (And.intro rfl (And.intro rfl trivial))))))
def F_X10_isAbout_151   (M : eMem) : Option Int32 :=
  some 1
set_option maxRecDepth 100000 in
set_option maxHeartbeats 4000000 in
theorem ev_X10_isAbout_151  (q : Int32) (M : eMem)   (h : F_X10_isAbout_151 M = some q) : Ev layR 3 m_X10_isAbout 151 [none, none, none, none, none, none, none] [] M (some (.int q), M) := by
  rw [F_X10_isAbout_151] at h
  refine Ev.iconst (pc := 151) dX10_isAbout_151 (v := 1) (by decide) ?_
  refine Ev.goto (pc := 152) (tgt := 156) dX10_isAbout_152 (by decide) ?_
  obtain rfl := Option.some.inj h
  exact Ev.iret (pc := 156) dX10_isAbout_156 rfl rfl
def F_X10_isAbout_38  (v1 : Int32) (v2 : Int32) (s0 : Int32) (M : eMem) : Option Int32 :=
  F_X10_isAbout_45
    (fun v3 v4 =>
      if v3 = 0 then
        if v4 = 0 then
          some 0
        else
          F_X10_isAbout_151 M
      else
        F_X10_isAbout_151 M)
    eFuel M v1 v2 s0 1 0
set_option maxRecDepth 100000 in
set_option maxHeartbeats 4000000 in
theorem ev_X10_isAbout_38  (q : Int32) (M : eMem)  (v1 : Int32) (v2 : Int32) (s0 : Int32) (h : F_X10_isAbout_38 v1 v2 s0 M = some q) : Ev layR 3 m_X10_isAbout 38 [some (.ref 0), some (.int v1), some (.int v2), none, none, none, none] [.int s0] M (some (.int q), M) := by
  rw [F_X10_isAbout_38] at h
  refine Ev.istore_n (pc := 38) dX10_isAbout_38 (by decide) rfl rfl ?_
  refine Ev.iconst (pc := 39) dX10_isAbout_39 (v := 1) (by decide) ?_
  refine Ev.istore (pc := 40) dX10_isAbout_40 (by decide) rfl rfl ?_
  refine Ev.iconst (pc := 42) dX10_isAbout_42 (v := 0) (by decide) ?_
  refine Ev.istore (pc := 43) dX10_isAbout_43 (by decide) rfl rfl ?_
  refine Ev.fg (ev_X10_isAbout_45 _ _ _ ?_ _ _ _ _ _ _ h) (And.intro rfl (And.intro rfl (And.intro rfl (And.intro rfl (And.intro rfl (And.intro rfl trivial))))))
  · intro v3 v4 h
    refine Ev.iload_n (pc := 142) dX10_isAbout_142 rfl ?_
    refine Ev.if_ne (pc := 143) (tgt := 151) dX10_isAbout_143 (by decide) (fun c9 => ?_) (fun c9 => ?_)
    · have h := eF h c9
      exact Ev.fg (ev_X10_isAbout_151 _ _ h) trivial
    · have h := eT h c9
      refine Ev.iload (pc := 146) dX10_isAbout_146 rfl ?_
      refine Ev.if_eq (pc := 148) (tgt := 155) dX10_isAbout_148 (by decide) (fun c9 => ?_) (fun c9 => ?_)
      · have h := eT h c9
        refine Ev.iconst (pc := 155) dX10_isAbout_155 (v := 0) (by decide) ?_
        obtain rfl := Option.some.inj h
        exact Ev.iret (pc := 156) dX10_isAbout_156 rfl rfl
      · have h := eF h c9
        exact Ev.fg (ev_X10_isAbout_151 _ _ h) trivial
def F_X10_isAbout (x1 : Int32) (x2 : Int32) (M : eMem) : Option Int32 :=
  (F_X10_show x2 0 M).bind fun q1 =>
  eG (eIn (x1 + 1) 2900) <|
  (F_X10_isUnder q1 (M.1 1 (x1 + 1).toNatClampNeg)).bind fun q2 =>
  if q2 = 0 then
    some 0
  else
    eG (eIn (x1 + 2) 2900) <|
    if (M.1 1 (x1 + 2).toNatClampNeg) = 0 then
      F_X10_isAbout_38 x1 x2 1 M
    else
      F_X10_isAbout_38 x1 x2 0 M
set_option maxRecDepth 100000 in
set_option maxHeartbeats 4000000 in
theorem ev_X10_isAbout (x1 : Int32) (x2 : Int32) (M : eMem) (q : Int32) (h : F_X10_isAbout x1 x2 M = some q) : Ev layR 3 m_X10_isAbout 0 [some (.ref 0), some (.int x1), some (.int x2), none, none, none, none] [] M (some (.int q), M) := by
  rw [F_X10_isAbout] at h
  refine Ev.aload_n (pc := 0) dX10_isAbout_0 rfl ?_
  refine Ev.iload_n (pc := 1) dX10_isAbout_1 rfl ?_
  refine Ev.iconst (pc := 2) dX10_isAbout_2 (v := 0) (by decide) ?_
  refine eBk h (fun q1 hq1 h => ?_)
  refine Ev.callV (pc := 3) (as := [.int x2, .int 0]) (st := []) (z := 0) dX10_isAbout_3 wc_X10_show ml_RX10_77 im_X10_show se_X10_show lR_0 rfl rfl (ev_X10_show x2 0 M _ hq1) rfl rfl (by decide) rfl rfl (Nat.le_of_ble_eq_true rfl) ?_
  refine Ev.aload_n (pc := 6) dX10_isAbout_6 rfl ?_
  refine Ev.getR (pc := 7) dX10_isAbout_7 fl_RX10_7 lR_0 rfl ?_
  refine Ev.iload_n (pc := 10) dX10_isAbout_10 rfl ?_
  refine Ev.iconst (pc := 11) dX10_isAbout_11 (v := 1) (by decide) ?_
  refine Ev.iadd (pc := 12) dX10_isAbout_12 ?_
  obtain ⟨g9, h⟩ := eGdB h
  refine Ev.ialdj (pc := 13) dX10_isAbout_13 (j := (x1 + 1).toNatClampNeg) lR_1 g9 rfl ?_
  refine eBk h (fun q2 hq2 h => ?_)
  refine Ev.callS (pc := 14) (as := [.int q1, .int (M.1 1 (x1 + 1).toNatClampNeg)]) (st := []) (z := 0) dX10_isAbout_14 wc_X10_isUnder ml_RX10_112 sm_X10_isUnder (ev_X10_isUnder q1 (M.1 1 (x1 + 1).toNatClampNeg) M _ hq2) rfl rfl (by decide) rfl rfl (Nat.le_of_ble_eq_true rfl) ?_
  refine Ev.if_ne (pc := 17) (tgt := 22) dX10_isAbout_17 (by decide) (fun c9 => ?_) (fun c9 => ?_)
  · have h := eF h c9
    refine Ev.aload_n (pc := 22) dX10_isAbout_22 rfl ?_
    refine Ev.getR (pc := 23) dX10_isAbout_23 fl_RX10_7 lR_0 rfl ?_
    refine Ev.iload_n (pc := 26) dX10_isAbout_26 rfl ?_
    refine Ev.iconst (pc := 27) dX10_isAbout_27 (v := 2) (by decide) ?_
    refine Ev.iadd (pc := 28) dX10_isAbout_28 ?_
    obtain ⟨g9, h⟩ := eGdB h
    refine Ev.ialdj (pc := 29) dX10_isAbout_29 (j := (x1 + 2).toNatClampNeg) lR_1 g9 rfl ?_
    refine Ev.if_ne (pc := 30) (tgt := 37) dX10_isAbout_30 (by decide) (fun c9 => ?_) (fun c9 => ?_)
    · have h := eF h c9
      refine Ev.iconst (pc := 37) dX10_isAbout_37 (v := 0) (by decide) ?_
      exact Ev.fg (ev_X10_isAbout_38 _ _ _ _ _ h) (And.intro rfl (And.intro rfl (And.intro rfl trivial)))
    · have h := eT h c9
      refine Ev.iconst (pc := 33) dX10_isAbout_33 (v := 1) (by decide) ?_
      refine Ev.goto (pc := 34) (tgt := 38) dX10_isAbout_34 (by decide) ?_
      exact Ev.fg (ev_X10_isAbout_38 _ _ _ _ _ h) (And.intro rfl (And.intro rfl (And.intro rfl trivial)))
  · have h := eT h c9
    refine Ev.iconst (pc := 20) dX10_isAbout_20 (v := 0) (by decide) ?_
    obtain rfl := Option.some.inj h
    exact Ev.iret (pc := 21) dX10_isAbout_21 rfl rfl
theorem dX10_clauseOf_0 : decode cX10_clauseOf 0 = .ok (.aload_n 0, 1) := by decide +kernel
theorem dX10_clauseOf_1 : decode cX10_clauseOf 1 = .ok (.getfield 7, 3) := by decide +kernel
theorem dX10_clauseOf_4 : decode cX10_clauseOf 4 = .ok (.iconst 0, 1) := by decide +kernel
theorem dX10_clauseOf_5 : decode cX10_clauseOf 5 = .ok (.iaload, 1) := by decide +kernel
theorem dX10_clauseOf_6 : decode cX10_clauseOf 6 = .ok (.bipush 24, 2) := by decide +kernel
theorem dX10_clauseOf_8 : decode cX10_clauseOf 8 = .ok (.idiv, 1) := by decide +kernel
theorem dX10_clauseOf_9 : decode cX10_clauseOf 9 = .ok (.istore_n 2, 1) := by decide +kernel
theorem dX10_clauseOf_10 : decode cX10_clauseOf 10 = .ok (.aload_n 0, 1) := by decide +kernel
theorem dX10_clauseOf_11 : decode cX10_clauseOf 11 = .ok (.getfield 7, 3) := by decide +kernel
theorem dX10_clauseOf_14 : decode cX10_clauseOf 14 = .ok (.bipush 11, 2) := by decide +kernel
theorem dX10_clauseOf_16 : decode cX10_clauseOf 16 = .ok (.iaload, 1) := by decide +kernel
theorem dX10_clauseOf_17 : decode cX10_clauseOf 17 = .ok (.iconst 1, 1) := by decide +kernel
theorem dX10_clauseOf_18 : decode cX10_clauseOf 18 = .ok (.isub, 1) := by decide +kernel
theorem dX10_clauseOf_19 : decode cX10_clauseOf 19 = .ok (.istore_n 3, 1) := by decide +kernel
theorem dX10_clauseOf_20 : decode cX10_clauseOf 20 = .ok (.iload_n 3, 1) := by decide +kernel
theorem dX10_clauseOf_21 : decode cX10_clauseOf 21 = .ok (.ifCond .lt 104, 3) := by decide +kernel
theorem dX10_clauseOf_24 : decode cX10_clauseOf 24 = .ok (.sipush 1764, 3) := by decide +kernel
theorem dX10_clauseOf_27 : decode cX10_clauseOf 27 = .ok (.sipush 142, 3) := by decide +kernel
theorem dX10_clauseOf_30 : decode cX10_clauseOf 30 = .ok (.iload_n 3, 1) := by decide +kernel
theorem dX10_clauseOf_31 : decode cX10_clauseOf 31 = .ok (.imul, 1) := by decide +kernel
theorem dX10_clauseOf_32 : decode cX10_clauseOf 32 = .ok (.iadd, 1) := by decide +kernel
theorem dX10_clauseOf_33 : decode cX10_clauseOf 33 = .ok (.istore 4, 2) := by decide +kernel
theorem dX10_clauseOf_35 : decode cX10_clauseOf 35 = .ok (.iconst 0, 1) := by decide +kernel
theorem dX10_clauseOf_36 : decode cX10_clauseOf 36 = .ok (.istore 5, 2) := by decide +kernel
theorem dX10_clauseOf_38 : decode cX10_clauseOf 38 = .ok (.iload 5, 2) := by decide +kernel
theorem dX10_clauseOf_40 : decode cX10_clauseOf 40 = .ok (.aload_n 0, 1) := by decide +kernel
theorem dX10_clauseOf_41 : decode cX10_clauseOf 41 = .ok (.getfield 7, 3) := by decide +kernel
theorem dX10_clauseOf_44 : decode cX10_clauseOf 44 = .ok (.iload 4, 2) := by decide +kernel
theorem dX10_clauseOf_46 : decode cX10_clauseOf 46 = .ok (.iconst 3, 1) := by decide +kernel
theorem dX10_clauseOf_47 : decode cX10_clauseOf 47 = .ok (.iadd, 1) := by decide +kernel
theorem dX10_clauseOf_48 : decode cX10_clauseOf 48 = .ok (.iaload, 1) := by decide +kernel
theorem dX10_clauseOf_49 : decode cX10_clauseOf 49 = .ok (.if_icmp .ge 70, 3) := by decide +kernel
theorem dX10_clauseOf_52 : decode cX10_clauseOf 52 = .ok (.aload_n 0, 1) := by decide +kernel
theorem dX10_clauseOf_53 : decode cX10_clauseOf 53 = .ok (.getfield 7, 3) := by decide +kernel
theorem dX10_clauseOf_56 : decode cX10_clauseOf 56 = .ok (.iload 4, 2) := by decide +kernel
theorem dX10_clauseOf_58 : decode cX10_clauseOf 58 = .ok (.iconst 2, 1) := by decide +kernel
theorem dX10_clauseOf_59 : decode cX10_clauseOf 59 = .ok (.iadd, 1) := by decide +kernel
theorem dX10_clauseOf_60 : decode cX10_clauseOf 60 = .ok (.iaload, 1) := by decide +kernel
theorem dX10_clauseOf_61 : decode cX10_clauseOf 61 = .ok (.ifCond .ne 58, 3) := by decide +kernel
theorem dX10_clauseOf_64 : decode cX10_clauseOf 64 = .ok (.iload_n 2, 1) := by decide +kernel
theorem dX10_clauseOf_65 : decode cX10_clauseOf 65 = .ok (.aload_n 0, 1) := by decide +kernel
theorem dX10_clauseOf_66 : decode cX10_clauseOf 66 = .ok (.getfield 7, 3) := by decide +kernel
theorem dX10_clauseOf_69 : decode cX10_clauseOf 69 = .ok (.iload 4, 2) := by decide +kernel
theorem dX10_clauseOf_71 : decode cX10_clauseOf 71 = .ok (.iaload, 1) := by decide +kernel
theorem dX10_clauseOf_72 : decode cX10_clauseOf 72 = .ok (.aload_n 0, 1) := by decide +kernel
theorem dX10_clauseOf_73 : decode cX10_clauseOf 73 = .ok (.getfield 7, 3) := by decide +kernel
theorem dX10_clauseOf_76 : decode cX10_clauseOf 76 = .ok (.iload 4, 2) := by decide +kernel
theorem dX10_clauseOf_78 : decode cX10_clauseOf 78 = .ok (.iconst 1, 1) := by decide +kernel
theorem dX10_clauseOf_79 : decode cX10_clauseOf 79 = .ok (.iadd, 1) := by decide +kernel
theorem dX10_clauseOf_80 : decode cX10_clauseOf 80 = .ok (.iaload, 1) := by decide +kernel
theorem dX10_clauseOf_81 : decode cX10_clauseOf 81 = .ok (.invokestatic 58, 3) := by decide +kernel
theorem dX10_clauseOf_84 : decode cX10_clauseOf 84 = .ok (.ifCond .eq 35, 3) := by decide +kernel
theorem dX10_clauseOf_87 : decode cX10_clauseOf 87 = .ok (.aload_n 0, 1) := by decide +kernel
theorem dX10_clauseOf_88 : decode cX10_clauseOf 88 = .ok (.iload 4, 2) := by decide +kernel
theorem dX10_clauseOf_90 : decode cX10_clauseOf 90 = .ok (.iconst 4, 1) := by decide +kernel
theorem dX10_clauseOf_91 : decode cX10_clauseOf 91 = .ok (.iadd, 1) := by decide +kernel
theorem dX10_clauseOf_92 : decode cX10_clauseOf 92 = .ok (.bipush 23, 2) := by decide +kernel
theorem dX10_clauseOf_94 : decode cX10_clauseOf 94 = .ok (.iload 5, 2) := by decide +kernel
theorem dX10_clauseOf_96 : decode cX10_clauseOf 96 = .ok (.imul, 1) := by decide +kernel
theorem dX10_clauseOf_97 : decode cX10_clauseOf 97 = .ok (.iadd, 1) := by decide +kernel
theorem dX10_clauseOf_98 : decode cX10_clauseOf 98 = .ok (.iload_n 1, 1) := by decide +kernel
theorem dX10_clauseOf_99 : decode cX10_clauseOf 99 = .ok (.invokevirtual 231, 3) := by decide +kernel
theorem dX10_clauseOf_102 : decode cX10_clauseOf 102 = .ok (.ifCond .eq 11, 3) := by decide +kernel
theorem dX10_clauseOf_105 : decode cX10_clauseOf 105 = .ok (.bipush 10, 2) := by decide +kernel
theorem dX10_clauseOf_107 : decode cX10_clauseOf 107 = .ok (.iload_n 3, 1) := by decide +kernel
theorem dX10_clauseOf_108 : decode cX10_clauseOf 108 = .ok (.imul, 1) := by decide +kernel
theorem dX10_clauseOf_109 : decode cX10_clauseOf 109 = .ok (.iload 5, 2) := by decide +kernel
theorem dX10_clauseOf_111 : decode cX10_clauseOf 111 = .ok (.iadd, 1) := by decide +kernel
theorem dX10_clauseOf_112 : decode cX10_clauseOf 112 = .ok (.ireturn, 1) := by decide +kernel
theorem dX10_clauseOf_113 : decode cX10_clauseOf 113 = .ok (.iinc 5 1, 3) := by decide +kernel
theorem dX10_clauseOf_116 : decode cX10_clauseOf 116 = .ok (.goto (-78), 3) := by decide +kernel
theorem dX10_clauseOf_119 : decode cX10_clauseOf 119 = .ok (.iinc 3 (-1), 3) := by decide +kernel
theorem dX10_clauseOf_122 : decode cX10_clauseOf 122 = .ok (.goto (-102), 3) := by decide +kernel
theorem dX10_clauseOf_125 : decode cX10_clauseOf 125 = .ok (.iconst (-1), 1) := by decide +kernel
theorem dX10_clauseOf_126 : decode cX10_clauseOf 126 = .ok (.ireturn, 1) := by decide +kernel
def F_X10_clauseOf_38 (K119 : Int32 → Int32 → Int32 → Option Int32) : Nat → eMem → Int32 → Int32 → Int32 → Int32 → Int32 → Option Int32
  | 0, _, _, _, _, _, _ => none
  | n + 1, M, v1, v2, v3, v4, v5 =>
    eG (eIn (v4 + 3) 2900) <|
    if v5 < (M.1 1 (v4 + 3).toNatClampNeg) then
      eG (eIn (v4 + 2) 2900) <|
      if (M.1 1 (v4 + 2).toNatClampNeg) = 0 then
        eG (eIn v4 2900) <|
        eG (eIn (v4 + 1) 2900) <|
        (F_X10_in v2 (M.1 1 v4.toNatClampNeg) (M.1 1 (v4 + 1).toNatClampNeg)).bind fun q1 =>
        if q1 = 0 then
          K119 v1 v2 v3
        else
          (F_X10_isAbout ((v4 + 4) + (23 * v5)) v1 M).bind fun q2 =>
          if q2 = 0 then
            F_X10_clauseOf_38 K119 n M v1 v2 v3 v4 (v5 + 1)
          else
            some ((10 * v3) + v5)
      else
        K119 v1 v2 v3
    else
      K119 v1 v2 v3
set_option maxRecDepth 100000 in
set_option maxHeartbeats 4000000 in
theorem ev_X10_clauseOf_38 (K119 : Int32 → Int32 → Int32 → Option Int32) (q : Int32) (M : eMem) (hK119 : ∀ (v1 : Int32) (v2 : Int32) (v3 : Int32), K119 v1 v2 v3 = some q → Ev layR 4 m_X10_clauseOf 119 [some (.ref 0), some (.int v1), some (.int v2), some (.int v3), none, none] [] M (some (.int q), M)) : ∀ (fuel : Nat) (v1 : Int32) (v2 : Int32) (v3 : Int32) (v4 : Int32) (v5 : Int32), F_X10_clauseOf_38 K119 fuel M v1 v2 v3 v4 v5 = some q → Ev layR 4 m_X10_clauseOf 38 [some (.ref 0), some (.int v1), some (.int v2), some (.int v3), some (.int v4), some (.int v5)] [] M (some (.int q), M) := by
  intro fuel
  induction fuel with
  | zero => intro v1 v2 v3 v4 v5 h; rw [F_X10_clauseOf_38] at h; cases h
  | succ n ih =>
    intro v1 v2 v3 v4 v5 h
    rw [F_X10_clauseOf_38] at h
    refine Ev.iload (pc := 38) dX10_clauseOf_38 rfl ?_
    refine Ev.aload_n (pc := 40) dX10_clauseOf_40 rfl ?_
    refine Ev.getR (pc := 41) dX10_clauseOf_41 fl_RX10_7 lR_0 rfl ?_
    refine Ev.iload (pc := 44) dX10_clauseOf_44 rfl ?_
    refine Ev.iconst (pc := 46) dX10_clauseOf_46 (v := 3) (by decide) ?_
    refine Ev.iadd (pc := 47) dX10_clauseOf_47 ?_
    obtain ⟨g9, h⟩ := eGdB h
    refine Ev.ialdj (pc := 48) dX10_clauseOf_48 (j := (v4 + 3).toNatClampNeg) lR_1 g9 rfl ?_
    refine Ev.icmp_ge (pc := 49) (tgt := 119) dX10_clauseOf_49 (by decide) (fun c9 => ?_) (fun c9 => ?_)
    · have h := eF h c9
      exact Ev.fg (hK119 _ _ _ h) (And.intro rfl (And.intro rfl (And.intro rfl (And.intro rfl trivial))))
    · have h := eT h c9
      refine Ev.aload_n (pc := 52) dX10_clauseOf_52 rfl ?_
      refine Ev.getR (pc := 53) dX10_clauseOf_53 fl_RX10_7 lR_0 rfl ?_
      refine Ev.iload (pc := 56) dX10_clauseOf_56 rfl ?_
      refine Ev.iconst (pc := 58) dX10_clauseOf_58 (v := 2) (by decide) ?_
      refine Ev.iadd (pc := 59) dX10_clauseOf_59 ?_
      obtain ⟨g9, h⟩ := eGdB h
      refine Ev.ialdj (pc := 60) dX10_clauseOf_60 (j := (v4 + 2).toNatClampNeg) lR_1 g9 rfl ?_
      refine Ev.if_ne (pc := 61) (tgt := 119) dX10_clauseOf_61 (by decide) (fun c9 => ?_) (fun c9 => ?_)
      · have h := eF h c9
        exact Ev.fg (hK119 _ _ _ h) (And.intro rfl (And.intro rfl (And.intro rfl (And.intro rfl trivial))))
      · have h := eT h c9
        refine Ev.iload_n (pc := 64) dX10_clauseOf_64 rfl ?_
        refine Ev.aload_n (pc := 65) dX10_clauseOf_65 rfl ?_
        refine Ev.getR (pc := 66) dX10_clauseOf_66 fl_RX10_7 lR_0 rfl ?_
        refine Ev.iload (pc := 69) dX10_clauseOf_69 rfl ?_
        obtain ⟨g9, h⟩ := eGdB h
        refine Ev.ialdj (pc := 71) dX10_clauseOf_71 (j := v4.toNatClampNeg) lR_1 g9 rfl ?_
        refine Ev.aload_n (pc := 72) dX10_clauseOf_72 rfl ?_
        refine Ev.getR (pc := 73) dX10_clauseOf_73 fl_RX10_7 lR_0 rfl ?_
        refine Ev.iload (pc := 76) dX10_clauseOf_76 rfl ?_
        refine Ev.iconst (pc := 78) dX10_clauseOf_78 (v := 1) (by decide) ?_
        refine Ev.iadd (pc := 79) dX10_clauseOf_79 ?_
        obtain ⟨g9, h⟩ := eGdB h
        refine Ev.ialdj (pc := 80) dX10_clauseOf_80 (j := (v4 + 1).toNatClampNeg) lR_1 g9 rfl ?_
        refine eBk h (fun q1 hq1 h => ?_)
        refine Ev.callS (pc := 81) (as := [.int v2, .int (M.1 1 v4.toNatClampNeg), .int (M.1 1 (v4 + 1).toNatClampNeg)]) (st := []) (z := 0) dX10_clauseOf_81 wc_X10_in ml_RX10_58 sm_X10_in (ev_X10_in v2 (M.1 1 v4.toNatClampNeg) (M.1 1 (v4 + 1).toNatClampNeg) M _ hq1) rfl rfl (by decide) rfl rfl (Nat.le_of_ble_eq_true rfl) ?_
        refine Ev.if_eq (pc := 84) (tgt := 119) dX10_clauseOf_84 (by decide) (fun c9 => ?_) (fun c9 => ?_)
        · have h := eT h c9
          exact Ev.fg (hK119 _ _ _ h) (And.intro rfl (And.intro rfl (And.intro rfl (And.intro rfl trivial))))
        · have h := eF h c9
          refine Ev.aload_n (pc := 87) dX10_clauseOf_87 rfl ?_
          refine Ev.iload (pc := 88) dX10_clauseOf_88 rfl ?_
          refine Ev.iconst (pc := 90) dX10_clauseOf_90 (v := 4) (by decide) ?_
          refine Ev.iadd (pc := 91) dX10_clauseOf_91 ?_
          refine Ev.bipush (pc := 92) dX10_clauseOf_92 (v := 23) (by decide) ?_
          refine Ev.iload (pc := 94) dX10_clauseOf_94 rfl ?_
          refine Ev.imul (pc := 96) dX10_clauseOf_96 ?_
          refine Ev.iadd (pc := 97) dX10_clauseOf_97 ?_
          refine Ev.iload_n (pc := 98) dX10_clauseOf_98 rfl ?_
          refine eBk h (fun q2 hq2 h => ?_)
          refine Ev.callV (pc := 99) (as := [.int ((v4 + 4) + (23 * v5)), .int v1]) (st := []) (z := 4) dX10_clauseOf_99 wc_X10_isAbout ml_RX10_231 im_X10_isAbout se_X10_isAbout lR_0 rfl rfl (ev_X10_isAbout ((v4 + 4) + (23 * v5)) v1 M _ hq2) rfl rfl (by decide) rfl rfl (Nat.le_of_ble_eq_true rfl) ?_
          refine Ev.if_eq (pc := 102) (tgt := 113) dX10_clauseOf_102 (by decide) (fun c9 => ?_) (fun c9 => ?_)
          · have h := eT h c9
            refine Ev.iincv (pc := 113) dX10_clauseOf_113 (v := 1) (by decide) rfl (by decide) rfl rfl ?_
            refine Ev.goto (pc := 116) (tgt := 38) dX10_clauseOf_116 (by decide) ?_
            exact Ev.fg (ih _ _ _ _ _ h) (And.intro rfl (And.intro rfl (And.intro rfl (And.intro rfl (And.intro rfl (And.intro rfl trivial))))))
          · have h := eF h c9
            refine Ev.bipush (pc := 105) dX10_clauseOf_105 (v := 10) (by decide) ?_
            refine Ev.iload_n (pc := 107) dX10_clauseOf_107 rfl ?_
            refine Ev.imul (pc := 108) dX10_clauseOf_108 ?_
            refine Ev.iload (pc := 109) dX10_clauseOf_109 rfl ?_
            refine Ev.iadd (pc := 111) dX10_clauseOf_111 ?_
            obtain rfl := Option.some.inj h
            exact Ev.iret (pc := 112) dX10_clauseOf_112 rfl rfl
def F_X10_clauseOf_20  : Nat → eMem → Int32 → Int32 → Int32 → Option Int32
  | 0, _, _, _, _ => none
  | n + 1, M, v1, v2, v3 =>
    if v3 < 0 then
      some (-1)
    else
      F_X10_clauseOf_38
        (fun v1 v2 v3 =>
          F_X10_clauseOf_20 n M v1 v2 (v3 + (-1)))
        eFuel M v1 v2 v3 (1764 + (142 * v3)) 0
set_option maxRecDepth 100000 in
set_option maxHeartbeats 4000000 in
theorem ev_X10_clauseOf_20  (q : Int32) (M : eMem)  : ∀ (fuel : Nat) (v1 : Int32) (v2 : Int32) (v3 : Int32), F_X10_clauseOf_20 fuel M v1 v2 v3 = some q → Ev layR 4 m_X10_clauseOf 20 [some (.ref 0), some (.int v1), some (.int v2), some (.int v3), none, none] [] M (some (.int q), M) := by
  intro fuel
  induction fuel with
  | zero => intro v1 v2 v3 h; rw [F_X10_clauseOf_20] at h; cases h
  | succ n ih =>
    intro v1 v2 v3 h
    rw [F_X10_clauseOf_20] at h
    refine Ev.iload_n (pc := 20) dX10_clauseOf_20 rfl ?_
    refine Ev.if_lt (pc := 21) (tgt := 125) dX10_clauseOf_21 (by decide) (fun c9 => ?_) (fun c9 => ?_)
    · have h := eT h c9
      refine Ev.iconst (pc := 125) dX10_clauseOf_125 (v := (-1)) (by decide) ?_
      obtain rfl := Option.some.inj h
      exact Ev.iret (pc := 126) dX10_clauseOf_126 rfl rfl
    · have h := eF h c9
      refine Ev.sipush (pc := 24) dX10_clauseOf_24 (v := 1764) (by decide) ?_
      refine Ev.sipush (pc := 27) dX10_clauseOf_27 (v := 142) (by decide) ?_
      refine Ev.iload_n (pc := 30) dX10_clauseOf_30 rfl ?_
      refine Ev.imul (pc := 31) dX10_clauseOf_31 ?_
      refine Ev.iadd (pc := 32) dX10_clauseOf_32 ?_
      refine Ev.istore (pc := 33) dX10_clauseOf_33 (by decide) rfl rfl ?_
      refine Ev.iconst (pc := 35) dX10_clauseOf_35 (v := 0) (by decide) ?_
      refine Ev.istore (pc := 36) dX10_clauseOf_36 (by decide) rfl rfl ?_
      refine Ev.fg (ev_X10_clauseOf_38 _ _ _ ?_ _ _ _ _ _ _ h) (And.intro rfl (And.intro rfl (And.intro rfl (And.intro rfl (And.intro rfl (And.intro rfl trivial))))))
      · intro v1 v2 v3 h
        refine Ev.iincv (pc := 119) dX10_clauseOf_119 (v := (-1)) (by decide) rfl (by decide) rfl rfl ?_
        refine Ev.goto (pc := 122) (tgt := 20) dX10_clauseOf_122 (by decide) ?_
        exact Ev.fg (ih _ _ _ h) (And.intro rfl (And.intro rfl (And.intro rfl (And.intro rfl trivial))))
def F_X10_clauseOf (x1 : Int32) (M : eMem) : Option Int32 :=
  F_X10_clauseOf_20 eFuel M x1 ((M.1 1 0) / 24) ((M.1 1 11) - 1)
set_option maxRecDepth 100000 in
set_option maxHeartbeats 4000000 in
theorem ev_X10_clauseOf (x1 : Int32) (M : eMem) (q : Int32) (h : F_X10_clauseOf x1 M = some q) : Ev layR 4 m_X10_clauseOf 0 [some (.ref 0), some (.int x1), none, none, none, none] [] M (some (.int q), M) := by
  rw [F_X10_clauseOf] at h
  refine Ev.aload_n (pc := 0) dX10_clauseOf_0 rfl ?_
  refine Ev.getR (pc := 1) dX10_clauseOf_1 fl_RX10_7 lR_0 rfl ?_
  refine Ev.iconst (pc := 4) dX10_clauseOf_4 (v := 0) (by decide) ?_
  refine Ev.ialdj (pc := 5) dX10_clauseOf_5 (j := 0) lR_1 (by decide) (by decide) ?_
  refine Ev.bipush (pc := 6) dX10_clauseOf_6 (v := 24) (by decide) ?_
  refine Ev.idiv (pc := 8) dX10_clauseOf_8 (by decide) ?_
  refine Ev.istore_n (pc := 9) dX10_clauseOf_9 (by decide) rfl rfl ?_
  refine Ev.aload_n (pc := 10) dX10_clauseOf_10 rfl ?_
  refine Ev.getR (pc := 11) dX10_clauseOf_11 fl_RX10_7 lR_0 rfl ?_
  refine Ev.bipush (pc := 14) dX10_clauseOf_14 (v := 11) (by decide) ?_
  refine Ev.ialdj (pc := 16) dX10_clauseOf_16 (j := 11) lR_1 (by decide) (by decide) ?_
  refine Ev.iconst (pc := 17) dX10_clauseOf_17 (v := 1) (by decide) ?_
  refine Ev.isub (pc := 18) dX10_clauseOf_18 ?_
  refine Ev.istore_n (pc := 19) dX10_clauseOf_19 (by decide) rfl rfl ?_
  exact Ev.fg (ev_X10_clauseOf_20 _ _ _ _ _ _ h) (And.intro rfl (And.intro rfl (And.intro rfl (And.intro rfl trivial))))
theorem dX10_wordOf_0 : decode cX10_wordOf 0 = .ok (.aload_n 0, 1) := by decide +kernel
theorem dX10_wordOf_1 : decode cX10_wordOf 1 = .ok (.iload_n 1, 1) := by decide +kernel
theorem dX10_wordOf_2 : decode cX10_wordOf 2 = .ok (.invokevirtual 234, 3) := by decide +kernel
theorem dX10_wordOf_5 : decode cX10_wordOf 5 = .ok (.istore_n 2, 1) := by decide +kernel
theorem dX10_wordOf_6 : decode cX10_wordOf 6 = .ok (.iload_n 2, 1) := by decide +kernel
theorem dX10_wordOf_7 : decode cX10_wordOf 7 = .ok (.ifCond .ge 7, 3) := by decide +kernel
theorem dX10_wordOf_10 : decode cX10_wordOf 10 = .ok (.iconst (-1), 1) := by decide +kernel
theorem dX10_wordOf_11 : decode cX10_wordOf 11 = .ok (.goto 30, 3) := by decide +kernel
theorem dX10_wordOf_14 : decode cX10_wordOf 14 = .ok (.aload_n 0, 1) := by decide +kernel
theorem dX10_wordOf_15 : decode cX10_wordOf 15 = .ok (.getfield 7, 3) := by decide +kernel
theorem dX10_wordOf_18 : decode cX10_wordOf 18 = .ok (.sipush 1764, 3) := by decide +kernel
theorem dX10_wordOf_21 : decode cX10_wordOf 21 = .ok (.sipush 142, 3) := by decide +kernel
theorem dX10_wordOf_24 : decode cX10_wordOf 24 = .ok (.iload_n 2, 1) := by decide +kernel
theorem dX10_wordOf_25 : decode cX10_wordOf 25 = .ok (.bipush 10, 2) := by decide +kernel
theorem dX10_wordOf_27 : decode cX10_wordOf 27 = .ok (.idiv, 1) := by decide +kernel
theorem dX10_wordOf_28 : decode cX10_wordOf 28 = .ok (.imul, 1) := by decide +kernel
theorem dX10_wordOf_29 : decode cX10_wordOf 29 = .ok (.iadd, 1) := by decide +kernel
theorem dX10_wordOf_30 : decode cX10_wordOf 30 = .ok (.iconst 4, 1) := by decide +kernel
theorem dX10_wordOf_31 : decode cX10_wordOf 31 = .ok (.iadd, 1) := by decide +kernel
theorem dX10_wordOf_32 : decode cX10_wordOf 32 = .ok (.bipush 23, 2) := by decide +kernel
theorem dX10_wordOf_34 : decode cX10_wordOf 34 = .ok (.iload_n 2, 1) := by decide +kernel
theorem dX10_wordOf_35 : decode cX10_wordOf 35 = .ok (.bipush 10, 2) := by decide +kernel
theorem dX10_wordOf_37 : decode cX10_wordOf 37 = .ok (.irem, 1) := by decide +kernel
theorem dX10_wordOf_38 : decode cX10_wordOf 38 = .ok (.imul, 1) := by decide +kernel
theorem dX10_wordOf_39 : decode cX10_wordOf 39 = .ok (.iadd, 1) := by decide +kernel
theorem dX10_wordOf_40 : decode cX10_wordOf 40 = .ok (.iaload, 1) := by decide +kernel
theorem dX10_wordOf_41 : decode cX10_wordOf 41 = .ok (.ireturn, 1) := by decide +kernel
def F_X10_wordOf (x1 : Int32) (M : eMem) : Option Int32 :=
  (F_X10_clauseOf x1 M).bind fun q1 =>
  if q1 < 0 then
    some (-1)
  else
    eG (eIn (((1764 + (142 * (q1 / 10))) + 4) + (23 * (q1 - q1 / 10 * 10))) 2900) <|
    some (M.1 1 (((1764 + (142 * (q1 / 10))) + 4) + (23 * (q1 - q1 / 10 * 10))).toNatClampNeg)
set_option maxRecDepth 100000 in
set_option maxHeartbeats 4000000 in
theorem ev_X10_wordOf (x1 : Int32) (M : eMem) (q : Int32) (h : F_X10_wordOf x1 M = some q) : Ev layR 5 m_X10_wordOf 0 [some (.ref 0), some (.int x1), none] [] M (some (.int q), M) := by
  rw [F_X10_wordOf] at h
  refine Ev.aload_n (pc := 0) dX10_wordOf_0 rfl ?_
  refine Ev.iload_n (pc := 1) dX10_wordOf_1 rfl ?_
  refine eBk h (fun q1 hq1 h => ?_)
  refine Ev.callV (pc := 2) (as := [.int x1]) (st := []) (z := 4) dX10_wordOf_2 wc_X10_clauseOf ml_RX10_234 im_X10_clauseOf se_X10_clauseOf lR_0 rfl rfl (ev_X10_clauseOf x1 M _ hq1) rfl rfl (by decide) rfl rfl (Nat.le_of_ble_eq_true rfl) ?_
  refine Ev.istore_n (pc := 5) dX10_wordOf_5 (by decide) rfl rfl ?_
  refine Ev.iload_n (pc := 6) dX10_wordOf_6 rfl ?_
  refine Ev.if_ge (pc := 7) (tgt := 14) dX10_wordOf_7 (by decide) (fun c9 => ?_) (fun c9 => ?_)
  · have h := eF h c9
    refine Ev.aload_n (pc := 14) dX10_wordOf_14 rfl ?_
    refine Ev.getR (pc := 15) dX10_wordOf_15 fl_RX10_7 lR_0 rfl ?_
    refine Ev.sipush (pc := 18) dX10_wordOf_18 (v := 1764) (by decide) ?_
    refine Ev.sipush (pc := 21) dX10_wordOf_21 (v := 142) (by decide) ?_
    refine Ev.iload_n (pc := 24) dX10_wordOf_24 rfl ?_
    refine Ev.bipush (pc := 25) dX10_wordOf_25 (v := 10) (by decide) ?_
    refine Ev.idiv (pc := 27) dX10_wordOf_27 (by decide) ?_
    refine Ev.imul (pc := 28) dX10_wordOf_28 ?_
    refine Ev.iadd (pc := 29) dX10_wordOf_29 ?_
    refine Ev.iconst (pc := 30) dX10_wordOf_30 (v := 4) (by decide) ?_
    refine Ev.iadd (pc := 31) dX10_wordOf_31 ?_
    refine Ev.bipush (pc := 32) dX10_wordOf_32 (v := 23) (by decide) ?_
    refine Ev.iload_n (pc := 34) dX10_wordOf_34 rfl ?_
    refine Ev.bipush (pc := 35) dX10_wordOf_35 (v := 10) (by decide) ?_
    refine Ev.irem (pc := 37) dX10_wordOf_37 (by decide) ?_
    refine Ev.imul (pc := 38) dX10_wordOf_38 ?_
    refine Ev.iadd (pc := 39) dX10_wordOf_39 ?_
    obtain ⟨g9, h⟩ := eGdB h
    refine Ev.ialdj (pc := 40) dX10_wordOf_40 (j := (((1764 + (142 * (q1 / 10))) + 4) + (23 * (q1 - q1 / 10 * 10))).toNatClampNeg) lR_1 g9 rfl ?_
    obtain rfl := Option.some.inj h
    exact Ev.iret (pc := 41) dX10_wordOf_41 rfl rfl
  · have h := eT h c9
    refine Ev.iconst (pc := 10) dX10_wordOf_10 (v := (-1)) (by decide) ?_
    refine Ev.goto (pc := 11) (tgt := 41) dX10_wordOf_11 (by decide) ?_
    obtain rfl := Option.some.inj h
    exact Ev.iret (pc := 41) dX10_wordOf_41 rfl rfl
theorem dX10_isShown_0 : decode cX10_isShown 0 = .ok (.aload_n 0, 1) := by decide +kernel
theorem dX10_isShown_1 : decode cX10_isShown 1 = .ok (.iload_n 1, 1) := by decide +kernel
theorem dX10_isShown_2 : decode cX10_isShown 2 = .ok (.iconst 5, 1) := by decide +kernel
theorem dX10_isShown_3 : decode cX10_isShown 3 = .ok (.invokevirtual 77, 3) := by decide +kernel
theorem dX10_isShown_6 : decode cX10_isShown 6 = .ok (.iconst 1, 1) := by decide +kernel
theorem dX10_isShown_7 : decode cX10_isShown 7 = .ok (.if_icmp .ne 41, 3) := by decide +kernel
theorem dX10_isShown_10 : decode cX10_isShown 10 = .ok (.aload_n 0, 1) := by decide +kernel
theorem dX10_isShown_11 : decode cX10_isShown 11 = .ok (.iload_n 1, 1) := by decide +kernel
theorem dX10_isShown_12 : decode cX10_isShown 12 = .ok (.bipush 7, 2) := by decide +kernel
theorem dX10_isShown_14 : decode cX10_isShown 14 = .ok (.invokevirtual 77, 3) := by decide +kernel
theorem dX10_isShown_17 : decode cX10_isShown 17 = .ok (.ifCond .ne 31, 3) := by decide +kernel
theorem dX10_isShown_20 : decode cX10_isShown 20 = .ok (.aload_n 0, 1) := by decide +kernel
theorem dX10_isShown_21 : decode cX10_isShown 21 = .ok (.iload_n 1, 1) := by decide +kernel
theorem dX10_isShown_22 : decode cX10_isShown 22 = .ok (.bipush 8, 2) := by decide +kernel
theorem dX10_isShown_24 : decode cX10_isShown 24 = .ok (.invokevirtual 77, 3) := by decide +kernel
theorem dX10_isShown_27 : decode cX10_isShown 27 = .ok (.aload_n 0, 1) := by decide +kernel
theorem dX10_isShown_28 : decode cX10_isShown 28 = .ok (.iload_n 1, 1) := by decide +kernel
theorem dX10_isShown_29 : decode cX10_isShown 29 = .ok (.invokevirtual 115, 3) := by decide +kernel
theorem dX10_isShown_32 : decode cX10_isShown 32 = .ok (.if_icmp .lt 16, 3) := by decide +kernel
theorem dX10_isShown_35 : decode cX10_isShown 35 = .ok (.aload_n 0, 1) := by decide +kernel
theorem dX10_isShown_36 : decode cX10_isShown 36 = .ok (.iload_n 1, 1) := by decide +kernel
theorem dX10_isShown_37 : decode cX10_isShown 37 = .ok (.invokevirtual 118, 3) := by decide +kernel
theorem dX10_isShown_40 : decode cX10_isShown 40 = .ok (.iconst 2, 1) := by decide +kernel
theorem dX10_isShown_41 : decode cX10_isShown 41 = .ok (.if_icmp .eq 7, 3) := by decide +kernel
theorem dX10_isShown_44 : decode cX10_isShown 44 = .ok (.iconst 1, 1) := by decide +kernel
theorem dX10_isShown_45 : decode cX10_isShown 45 = .ok (.goto 4, 3) := by decide +kernel
theorem dX10_isShown_48 : decode cX10_isShown 48 = .ok (.iconst 0, 1) := by decide +kernel
theorem dX10_isShown_49 : decode cX10_isShown 49 = .ok (.ireturn, 1) := by decide +kernel
def F_X10_isShown (x1 : Int32) (M : eMem) : Option Int32 :=
  (F_X10_show x1 5 M).bind fun q1 =>
  if q1 = 1 then
    (F_X10_show x1 7 M).bind fun q2 =>
    if q2 = 0 then
      (F_X10_show x1 8 M).bind fun q3 =>
      (F_X10_needOf x1 M).bind fun q4 =>
      if q3 < q4 then
        some 0
      else
        (F_X10_wordOf x1 M).bind fun q5 =>
        if q5 = 2 then
          some 0
        else
          some 1
    else
      some 0
  else
    some 0
set_option maxRecDepth 100000 in
set_option maxHeartbeats 4000000 in
theorem ev_X10_isShown (x1 : Int32) (M : eMem) (q : Int32) (h : F_X10_isShown x1 M = some q) : Ev layR 6 m_X10_isShown 0 [some (.ref 0), some (.int x1)] [] M (some (.int q), M) := by
  rw [F_X10_isShown] at h
  refine Ev.aload_n (pc := 0) dX10_isShown_0 rfl ?_
  refine Ev.iload_n (pc := 1) dX10_isShown_1 rfl ?_
  refine Ev.iconst (pc := 2) dX10_isShown_2 (v := 5) (by decide) ?_
  refine eBk h (fun q1 hq1 h => ?_)
  refine Ev.callV (pc := 3) (as := [.int x1, .int 5]) (st := []) (z := 0) dX10_isShown_3 wc_X10_show ml_RX10_77 im_X10_show se_X10_show lR_0 rfl rfl (ev_X10_show x1 5 M _ hq1) rfl rfl (by decide) rfl rfl (Nat.le_of_ble_eq_true rfl) ?_
  refine Ev.iconst (pc := 6) dX10_isShown_6 (v := 1) (by decide) ?_
  refine Ev.icmp_ne (pc := 7) (tgt := 48) dX10_isShown_7 (by decide) (fun c9 => ?_) (fun c9 => ?_)
  · have h := eF h c9
    refine Ev.iconst (pc := 48) dX10_isShown_48 (v := 0) (by decide) ?_
    obtain rfl := Option.some.inj h
    exact Ev.iret (pc := 49) dX10_isShown_49 rfl rfl
  · have h := eT h c9
    refine Ev.aload_n (pc := 10) dX10_isShown_10 rfl ?_
    refine Ev.iload_n (pc := 11) dX10_isShown_11 rfl ?_
    refine Ev.bipush (pc := 12) dX10_isShown_12 (v := 7) (by decide) ?_
    refine eBk h (fun q2 hq2 h => ?_)
    refine Ev.callV (pc := 14) (as := [.int x1, .int 7]) (st := []) (z := 0) dX10_isShown_14 wc_X10_show ml_RX10_77 im_X10_show se_X10_show lR_0 rfl rfl (ev_X10_show x1 7 M _ hq2) rfl rfl (by decide) rfl rfl (Nat.le_of_ble_eq_true rfl) ?_
    refine Ev.if_ne (pc := 17) (tgt := 48) dX10_isShown_17 (by decide) (fun c9 => ?_) (fun c9 => ?_)
    · have h := eF h c9
      refine Ev.iconst (pc := 48) dX10_isShown_48 (v := 0) (by decide) ?_
      obtain rfl := Option.some.inj h
      exact Ev.iret (pc := 49) dX10_isShown_49 rfl rfl
    · have h := eT h c9
      refine Ev.aload_n (pc := 20) dX10_isShown_20 rfl ?_
      refine Ev.iload_n (pc := 21) dX10_isShown_21 rfl ?_
      refine Ev.bipush (pc := 22) dX10_isShown_22 (v := 8) (by decide) ?_
      refine eBk h (fun q3 hq3 h => ?_)
      refine Ev.callV (pc := 24) (as := [.int x1, .int 8]) (st := []) (z := 0) dX10_isShown_24 wc_X10_show ml_RX10_77 im_X10_show se_X10_show lR_0 rfl rfl (ev_X10_show x1 8 M _ hq3) rfl rfl (by decide) rfl rfl (Nat.le_of_ble_eq_true rfl) ?_
      refine Ev.aload_n (pc := 27) dX10_isShown_27 rfl ?_
      refine Ev.iload_n (pc := 28) dX10_isShown_28 rfl ?_
      refine eBk h (fun q4 hq4 h => ?_)
      refine Ev.callV (pc := 29) (as := [.int x1]) (st := [.int q3]) (z := 1) dX10_isShown_29 wc_X10_needOf ml_RX10_115 im_X10_needOf se_X10_needOf lR_0 rfl rfl (ev_X10_needOf x1 M _ hq4) rfl rfl (by decide) rfl rfl (Nat.le_of_ble_eq_true rfl) ?_
      refine Ev.icmp_lt (pc := 32) (tgt := 48) dX10_isShown_32 (by decide) (fun c9 => ?_) (fun c9 => ?_)
      · have h := eT h c9
        refine Ev.iconst (pc := 48) dX10_isShown_48 (v := 0) (by decide) ?_
        obtain rfl := Option.some.inj h
        exact Ev.iret (pc := 49) dX10_isShown_49 rfl rfl
      · have h := eF h c9
        refine Ev.aload_n (pc := 35) dX10_isShown_35 rfl ?_
        refine Ev.iload_n (pc := 36) dX10_isShown_36 rfl ?_
        refine eBk h (fun q5 hq5 h => ?_)
        refine Ev.callV (pc := 37) (as := [.int x1]) (st := []) (z := 1) dX10_isShown_37 wc_X10_wordOf ml_RX10_118 im_X10_wordOf se_X10_wordOf lR_0 rfl rfl (ev_X10_wordOf x1 M _ hq5) rfl rfl (by decide) rfl rfl (Nat.le_of_ble_eq_true rfl) ?_
        refine Ev.iconst (pc := 40) dX10_isShown_40 (v := 2) (by decide) ?_
        refine Ev.icmp_eq (pc := 41) (tgt := 48) dX10_isShown_41 (by decide) (fun c9 => ?_) (fun c9 => ?_)
        · have h := eT h c9
          refine Ev.iconst (pc := 48) dX10_isShown_48 (v := 0) (by decide) ?_
          obtain rfl := Option.some.inj h
          exact Ev.iret (pc := 49) dX10_isShown_49 rfl rfl
        · have h := eF h c9
          refine Ev.iconst (pc := 44) dX10_isShown_44 (v := 1) (by decide) ?_
          refine Ev.goto (pc := 45) (tgt := 49) dX10_isShown_45 (by decide) ?_
          obtain rfl := Option.some.inj h
          exact Ev.iret (pc := 49) dX10_isShown_49 rfl rfl
theorem dX10_isQuiet_0 : decode cX10_isQuiet 0 = .ok (.iconst 0, 1) := by decide +kernel
theorem dX10_isQuiet_1 : decode cX10_isQuiet 1 = .ok (.istore_n 2, 1) := by decide +kernel
theorem dX10_isQuiet_2 : decode cX10_isQuiet 2 = .ok (.iconst 0, 1) := by decide +kernel
theorem dX10_isQuiet_3 : decode cX10_isQuiet 3 = .ok (.istore_n 3, 1) := by decide +kernel
theorem dX10_isQuiet_4 : decode cX10_isQuiet 4 = .ok (.iload_n 3, 1) := by decide +kernel
theorem dX10_isQuiet_5 : decode cX10_isQuiet 5 = .ok (.aload_n 0, 1) := by decide +kernel
theorem dX10_isQuiet_6 : decode cX10_isQuiet 6 = .ok (.getfield 7, 3) := by decide +kernel
theorem dX10_isQuiet_9 : decode cX10_isQuiet 9 = .ok (.bipush 9, 2) := by decide +kernel
theorem dX10_isQuiet_11 : decode cX10_isQuiet 11 = .ok (.iaload, 1) := by decide +kernel
theorem dX10_isQuiet_12 : decode cX10_isQuiet 12 = .ok (.if_icmp .ge 48, 3) := by decide +kernel
theorem dX10_isQuiet_15 : decode cX10_isQuiet 15 = .ok (.iload_n 2, 1) := by decide +kernel
theorem dX10_isQuiet_16 : decode cX10_isQuiet 16 = .ok (.ifCond .ne 32, 3) := by decide +kernel
theorem dX10_isQuiet_19 : decode cX10_isQuiet 19 = .ok (.aload_n 0, 1) := by decide +kernel
theorem dX10_isQuiet_20 : decode cX10_isQuiet 20 = .ok (.iload_n 3, 1) := by decide +kernel
theorem dX10_isQuiet_21 : decode cX10_isQuiet 21 = .ok (.iconst 0, 1) := by decide +kernel
theorem dX10_isQuiet_22 : decode cX10_isQuiet 22 = .ok (.invokevirtual 77, 3) := by decide +kernel
theorem dX10_isQuiet_25 : decode cX10_isQuiet 25 = .ok (.bipush 6, 2) := by decide +kernel
theorem dX10_isQuiet_27 : decode cX10_isQuiet 27 = .ok (.if_icmp .ne 25, 3) := by decide +kernel
theorem dX10_isQuiet_30 : decode cX10_isQuiet 30 = .ok (.aload_n 0, 1) := by decide +kernel
theorem dX10_isQuiet_31 : decode cX10_isQuiet 31 = .ok (.iload_n 3, 1) := by decide +kernel
theorem dX10_isQuiet_32 : decode cX10_isQuiet 32 = .ok (.iconst 3, 1) := by decide +kernel
theorem dX10_isQuiet_33 : decode cX10_isQuiet 33 = .ok (.invokevirtual 77, 3) := by decide +kernel
theorem dX10_isQuiet_36 : decode cX10_isQuiet 36 = .ok (.iload_n 1, 1) := by decide +kernel
theorem dX10_isQuiet_37 : decode cX10_isQuiet 37 = .ok (.if_icmp .ne 15, 3) := by decide +kernel
theorem dX10_isQuiet_40 : decode cX10_isQuiet 40 = .ok (.aload_n 0, 1) := by decide +kernel
theorem dX10_isQuiet_41 : decode cX10_isQuiet 41 = .ok (.iload_n 3, 1) := by decide +kernel
theorem dX10_isQuiet_42 : decode cX10_isQuiet 42 = .ok (.invokevirtual 80, 3) := by decide +kernel
theorem dX10_isQuiet_45 : decode cX10_isQuiet 45 = .ok (.ifCond .eq 7, 3) := by decide +kernel
theorem dX10_isQuiet_48 : decode cX10_isQuiet 48 = .ok (.iconst 1, 1) := by decide +kernel
theorem dX10_isQuiet_49 : decode cX10_isQuiet 49 = .ok (.goto 4, 3) := by decide +kernel
theorem dX10_isQuiet_52 : decode cX10_isQuiet 52 = .ok (.iconst 0, 1) := by decide +kernel
theorem dX10_isQuiet_53 : decode cX10_isQuiet 53 = .ok (.istore_n 2, 1) := by decide +kernel
theorem dX10_isQuiet_54 : decode cX10_isQuiet 54 = .ok (.iinc 3 1, 3) := by decide +kernel
theorem dX10_isQuiet_57 : decode cX10_isQuiet 57 = .ok (.goto (-53), 3) := by decide +kernel
theorem dX10_isQuiet_60 : decode cX10_isQuiet 60 = .ok (.iload_n 2, 1) := by decide +kernel
theorem dX10_isQuiet_61 : decode cX10_isQuiet 61 = .ok (.ireturn, 1) := by decide +kernel
def F_X10_isQuiet_48 (rec : Int32 → Int32 → Int32 → Option Int32) (v1 : Int32) (v3 : Int32) (M : eMem) : Option Int32 :=
  rec v1 1 (v3 + 1)
set_option maxRecDepth 100000 in
set_option maxHeartbeats 4000000 in
theorem ev_X10_isQuiet_48 (rec : Int32 → Int32 → Int32 → Option Int32) (q : Int32) (M : eMem) (hrec : ∀ (v1 : Int32) (v2 : Int32) (v3 : Int32), rec v1 v2 v3 = some q → Ev layR 7 m_X10_isQuiet 4 [some (.ref 0), some (.int v1), some (.int v2), some (.int v3)] [] M (some (.int q), M)) (v1 : Int32) (v3 : Int32) (h : F_X10_isQuiet_48 rec v1 v3 M = some q) : Ev layR 7 m_X10_isQuiet 48 [some (.ref 0), some (.int v1), none, some (.int v3)] [] M (some (.int q), M) := by
  rw [F_X10_isQuiet_48] at h
  refine Ev.iconst (pc := 48) dX10_isQuiet_48 (v := 1) (by decide) ?_
  refine Ev.goto (pc := 49) (tgt := 53) dX10_isQuiet_49 (by decide) ?_
  refine Ev.istore_n (pc := 53) dX10_isQuiet_53 (by decide) rfl rfl ?_
  refine Ev.iincv (pc := 54) dX10_isQuiet_54 (v := 1) (by decide) rfl (by decide) rfl rfl ?_
  refine Ev.goto (pc := 57) (tgt := 4) dX10_isQuiet_57 (by decide) ?_
  exact Ev.fg (hrec _ _ _ h) (And.intro rfl (And.intro rfl (And.intro rfl (And.intro rfl trivial))))
def F_X10_isQuiet_4  : Nat → eMem → Int32 → Int32 → Int32 → Option Int32
  | 0, _, _, _, _ => none
  | n + 1, M, v1, v2, v3 =>
    if v3 < (M.1 1 9) then
      if v2 = 0 then
        (F_X10_show v3 0 M).bind fun q1 =>
        if q1 = 6 then
          (F_X10_show v3 3 M).bind fun q2 =>
          if q2 = v1 then
            (F_X10_isShown v3 M).bind fun q3 =>
            if q3 = 0 then
              F_X10_isQuiet_4 n M v1 0 (v3 + 1)
            else
              F_X10_isQuiet_48 (fun v1 v2 v3 => F_X10_isQuiet_4 n M v1 v2 v3) v1 v3 M
          else
            F_X10_isQuiet_4 n M v1 0 (v3 + 1)
        else
          F_X10_isQuiet_4 n M v1 0 (v3 + 1)
      else
        F_X10_isQuiet_48 (fun v1 v2 v3 => F_X10_isQuiet_4 n M v1 v2 v3) v1 v3 M
    else
      eG (decide (vp_nar .boolean v2 = v2)) <|
      some v2
set_option maxRecDepth 100000 in
set_option maxHeartbeats 4000000 in
theorem ev_X10_isQuiet_4  (q : Int32) (M : eMem)  : ∀ (fuel : Nat) (v1 : Int32) (v2 : Int32) (v3 : Int32), F_X10_isQuiet_4 fuel M v1 v2 v3 = some q → Ev layR 7 m_X10_isQuiet 4 [some (.ref 0), some (.int v1), some (.int v2), some (.int v3)] [] M (some (.int q), M) := by
  intro fuel
  induction fuel with
  | zero => intro v1 v2 v3 h; rw [F_X10_isQuiet_4] at h; cases h
  | succ n ih =>
    intro v1 v2 v3 h
    rw [F_X10_isQuiet_4] at h
    refine Ev.iload_n (pc := 4) dX10_isQuiet_4 rfl ?_
    refine Ev.aload_n (pc := 5) dX10_isQuiet_5 rfl ?_
    refine Ev.getR (pc := 6) dX10_isQuiet_6 fl_RX10_7 lR_0 rfl ?_
    refine Ev.bipush (pc := 9) dX10_isQuiet_9 (v := 9) (by decide) ?_
    refine Ev.ialdj (pc := 11) dX10_isQuiet_11 (j := 9) lR_1 (by decide) (by decide) ?_
    refine Ev.icmp_ge (pc := 12) (tgt := 60) dX10_isQuiet_12 (by decide) (fun c9 => ?_) (fun c9 => ?_)
    · have h := eF h c9
      refine Ev.iload_n (pc := 60) dX10_isQuiet_60 rfl ?_
      obtain ⟨g9, h⟩ := eGdB h
      have g9 := of_decide_eq_true g9
      obtain rfl := Option.some.inj h
      exact Ev.iret (pc := 61) dX10_isQuiet_61 rfl (eNar_boolean g9)
    · have h := eT h c9
      refine Ev.iload_n (pc := 15) dX10_isQuiet_15 rfl ?_
      refine Ev.if_ne (pc := 16) (tgt := 48) dX10_isQuiet_16 (by decide) (fun c9 => ?_) (fun c9 => ?_)
      · have h := eF h c9
        exact Ev.fg (ev_X10_isQuiet_48 _ _ _ ih _ _ h) (And.intro rfl (And.intro rfl (And.intro rfl trivial)))
      · have h := eT h c9
        refine Ev.aload_n (pc := 19) dX10_isQuiet_19 rfl ?_
        refine Ev.iload_n (pc := 20) dX10_isQuiet_20 rfl ?_
        refine Ev.iconst (pc := 21) dX10_isQuiet_21 (v := 0) (by decide) ?_
        refine eBk h (fun q1 hq1 h => ?_)
        refine Ev.callV (pc := 22) (as := [.int v3, .int 0]) (st := []) (z := 0) dX10_isQuiet_22 wc_X10_show ml_RX10_77 im_X10_show se_X10_show lR_0 rfl rfl (ev_X10_show v3 0 M _ hq1) rfl rfl (by decide) rfl rfl (Nat.le_of_ble_eq_true rfl) ?_
        refine Ev.bipush (pc := 25) dX10_isQuiet_25 (v := 6) (by decide) ?_
        refine Ev.icmp_ne (pc := 27) (tgt := 52) dX10_isQuiet_27 (by decide) (fun c9 => ?_) (fun c9 => ?_)
        · have h := eF h c9
          refine Ev.iconst (pc := 52) dX10_isQuiet_52 (v := 0) (by decide) ?_
          refine Ev.istore_n (pc := 53) dX10_isQuiet_53 (by decide) rfl rfl ?_
          refine Ev.iincv (pc := 54) dX10_isQuiet_54 (v := 1) (by decide) rfl (by decide) rfl rfl ?_
          refine Ev.goto (pc := 57) (tgt := 4) dX10_isQuiet_57 (by decide) ?_
          exact Ev.fg (ih _ _ _ h) (And.intro rfl (And.intro rfl (And.intro rfl (And.intro rfl trivial))))
        · have h := eT h c9
          refine Ev.aload_n (pc := 30) dX10_isQuiet_30 rfl ?_
          refine Ev.iload_n (pc := 31) dX10_isQuiet_31 rfl ?_
          refine Ev.iconst (pc := 32) dX10_isQuiet_32 (v := 3) (by decide) ?_
          refine eBk h (fun q2 hq2 h => ?_)
          refine Ev.callV (pc := 33) (as := [.int v3, .int 3]) (st := []) (z := 0) dX10_isQuiet_33 wc_X10_show ml_RX10_77 im_X10_show se_X10_show lR_0 rfl rfl (ev_X10_show v3 3 M _ hq2) rfl rfl (by decide) rfl rfl (Nat.le_of_ble_eq_true rfl) ?_
          refine Ev.iload_n (pc := 36) dX10_isQuiet_36 rfl ?_
          refine Ev.icmp_ne (pc := 37) (tgt := 52) dX10_isQuiet_37 (by decide) (fun c9 => ?_) (fun c9 => ?_)
          · have h := eF h c9
            refine Ev.iconst (pc := 52) dX10_isQuiet_52 (v := 0) (by decide) ?_
            refine Ev.istore_n (pc := 53) dX10_isQuiet_53 (by decide) rfl rfl ?_
            refine Ev.iincv (pc := 54) dX10_isQuiet_54 (v := 1) (by decide) rfl (by decide) rfl rfl ?_
            refine Ev.goto (pc := 57) (tgt := 4) dX10_isQuiet_57 (by decide) ?_
            exact Ev.fg (ih _ _ _ h) (And.intro rfl (And.intro rfl (And.intro rfl (And.intro rfl trivial))))
          · have h := eT h c9
            refine Ev.aload_n (pc := 40) dX10_isQuiet_40 rfl ?_
            refine Ev.iload_n (pc := 41) dX10_isQuiet_41 rfl ?_
            refine eBk h (fun q3 hq3 h => ?_)
            refine Ev.callV (pc := 42) (as := [.int v3]) (st := []) (z := 0) dX10_isQuiet_42 wc_X10_isShown ml_RX10_80 im_X10_isShown se_X10_isShown lR_0 rfl rfl (ev_X10_isShown v3 M _ hq3) rfl rfl (by decide) rfl rfl (Nat.le_of_ble_eq_true rfl) ?_
            refine Ev.if_eq (pc := 45) (tgt := 52) dX10_isQuiet_45 (by decide) (fun c9 => ?_) (fun c9 => ?_)
            · have h := eT h c9
              refine Ev.iconst (pc := 52) dX10_isQuiet_52 (v := 0) (by decide) ?_
              refine Ev.istore_n (pc := 53) dX10_isQuiet_53 (by decide) rfl rfl ?_
              refine Ev.iincv (pc := 54) dX10_isQuiet_54 (v := 1) (by decide) rfl (by decide) rfl rfl ?_
              refine Ev.goto (pc := 57) (tgt := 4) dX10_isQuiet_57 (by decide) ?_
              exact Ev.fg (ih _ _ _ h) (And.intro rfl (And.intro rfl (And.intro rfl (And.intro rfl trivial))))
            · have h := eF h c9
              exact Ev.fg (ev_X10_isQuiet_48 _ _ _ ih _ _ h) (And.intro rfl (And.intro rfl (And.intro rfl trivial)))
def F_X10_isQuiet (x1 : Int32) (M : eMem) : Option Int32 :=
  F_X10_isQuiet_4 eFuel M x1 0 0
set_option maxRecDepth 100000 in
set_option maxHeartbeats 4000000 in
theorem ev_X10_isQuiet (x1 : Int32) (M : eMem) (q : Int32) (h : F_X10_isQuiet x1 M = some q) : Ev layR 7 m_X10_isQuiet 0 [some (.ref 0), some (.int x1), none, none] [] M (some (.int q), M) := by
  rw [F_X10_isQuiet] at h
  refine Ev.iconst (pc := 0) dX10_isQuiet_0 (v := 0) (by decide) ?_
  refine Ev.istore_n (pc := 1) dX10_isQuiet_1 (by decide) rfl rfl ?_
  refine Ev.iconst (pc := 2) dX10_isQuiet_2 (v := 0) (by decide) ?_
  refine Ev.istore_n (pc := 3) dX10_isQuiet_3 (by decide) rfl rfl ?_
  exact Ev.fg (ev_X10_isQuiet_4 _ _ _ _ _ _ h) (And.intro rfl (And.intro rfl (And.intro rfl (And.intro rfl trivial))))
theorem dX10_leads_0 : decode cX10_leads 0 = .ok (.aload_n 0, 1) := by decide +kernel
theorem dX10_leads_1 : decode cX10_leads 1 = .ok (.getfield 7, 3) := by decide +kernel
theorem dX10_leads_4 : decode cX10_leads 4 = .ok (.iload_n 1, 1) := by decide +kernel
theorem dX10_leads_5 : decode cX10_leads 5 = .ok (.iconst 0, 1) := by decide +kernel
theorem dX10_leads_6 : decode cX10_leads 6 = .ok (.invokestatic 74, 3) := by decide +kernel
theorem dX10_leads_9 : decode cX10_leads 9 = .ok (.iaload, 1) := by decide +kernel
theorem dX10_leads_10 : decode cX10_leads 10 = .ok (.istore_n 3, 1) := by decide +kernel
theorem dX10_leads_11 : decode cX10_leads 11 = .ok (.aload_n 0, 1) := by decide +kernel
theorem dX10_leads_12 : decode cX10_leads 12 = .ok (.getfield 7, 3) := by decide +kernel
theorem dX10_leads_15 : decode cX10_leads 15 = .ok (.iload_n 2, 1) := by decide +kernel
theorem dX10_leads_16 : decode cX10_leads 16 = .ok (.iconst 0, 1) := by decide +kernel
theorem dX10_leads_17 : decode cX10_leads 17 = .ok (.invokestatic 70, 3) := by decide +kernel
theorem dX10_leads_20 : decode cX10_leads 20 = .ok (.iaload, 1) := by decide +kernel
theorem dX10_leads_21 : decode cX10_leads 21 = .ok (.iload_n 3, 1) := by decide +kernel
theorem dX10_leads_22 : decode cX10_leads 22 = .ok (.if_icmp .eq 17, 3) := by decide +kernel
theorem dX10_leads_25 : decode cX10_leads 25 = .ok (.aload_n 0, 1) := by decide +kernel
theorem dX10_leads_26 : decode cX10_leads 26 = .ok (.getfield 7, 3) := by decide +kernel
theorem dX10_leads_29 : decode cX10_leads 29 = .ok (.iload_n 2, 1) := by decide +kernel
theorem dX10_leads_30 : decode cX10_leads 30 = .ok (.iconst 1, 1) := by decide +kernel
theorem dX10_leads_31 : decode cX10_leads 31 = .ok (.invokestatic 70, 3) := by decide +kernel
theorem dX10_leads_34 : decode cX10_leads 34 = .ok (.iaload, 1) := by decide +kernel
theorem dX10_leads_35 : decode cX10_leads 35 = .ok (.iload_n 3, 1) := by decide +kernel
theorem dX10_leads_36 : decode cX10_leads 36 = .ok (.if_icmp .ne 7, 3) := by decide +kernel
theorem dX10_leads_39 : decode cX10_leads 39 = .ok (.iconst 1, 1) := by decide +kernel
theorem dX10_leads_40 : decode cX10_leads 40 = .ok (.goto 4, 3) := by decide +kernel
theorem dX10_leads_43 : decode cX10_leads 43 = .ok (.iconst 0, 1) := by decide +kernel
theorem dX10_leads_44 : decode cX10_leads 44 = .ok (.ireturn, 1) := by decide +kernel
def F_X10_leads_39   (M : eMem) : Option Int32 :=
  some 1
set_option maxRecDepth 100000 in
set_option maxHeartbeats 4000000 in
theorem ev_X10_leads_39  (q : Int32) (M : eMem)   (h : F_X10_leads_39 M = some q) : Ev layR 1 m_X10_leads 39 [none, none, none, none] [] M (some (.int q), M) := by
  rw [F_X10_leads_39] at h
  refine Ev.iconst (pc := 39) dX10_leads_39 (v := 1) (by decide) ?_
  refine Ev.goto (pc := 40) (tgt := 44) dX10_leads_40 (by decide) ?_
  obtain rfl := Option.some.inj h
  exact Ev.iret (pc := 44) dX10_leads_44 rfl rfl
def F_X10_leads (x1 : Int32) (x2 : Int32) (M : eMem) : Option Int32 :=
  (F_X10_unitAt x1 0).bind fun q1 =>
  eG (eIn q1 2900) <|
  (F_X10_road x2 0).bind fun q2 =>
  eG (eIn q2 2900) <|
  if (M.1 1 q2.toNatClampNeg) = (M.1 1 q1.toNatClampNeg) then
    F_X10_leads_39 M
  else
    (F_X10_road x2 1).bind fun q3 =>
    eG (eIn q3 2900) <|
    if (M.1 1 q3.toNatClampNeg) = (M.1 1 q1.toNatClampNeg) then
      F_X10_leads_39 M
    else
      some 0
set_option maxRecDepth 100000 in
set_option maxHeartbeats 4000000 in
theorem ev_X10_leads (x1 : Int32) (x2 : Int32) (M : eMem) (q : Int32) (h : F_X10_leads x1 x2 M = some q) : Ev layR 1 m_X10_leads 0 [some (.ref 0), some (.int x1), some (.int x2), none] [] M (some (.int q), M) := by
  rw [F_X10_leads] at h
  refine Ev.aload_n (pc := 0) dX10_leads_0 rfl ?_
  refine Ev.getR (pc := 1) dX10_leads_1 fl_RX10_7 lR_0 rfl ?_
  refine Ev.iload_n (pc := 4) dX10_leads_4 rfl ?_
  refine Ev.iconst (pc := 5) dX10_leads_5 (v := 0) (by decide) ?_
  refine eBk h (fun q1 hq1 h => ?_)
  refine Ev.callS (pc := 6) (as := [.int x1, .int 0]) (st := [.ref 1]) (z := 0) dX10_leads_6 wc_X10_unitAt ml_RX10_74 sm_X10_unitAt (ev_X10_unitAt x1 0 M _ hq1) rfl rfl (by decide) rfl rfl (Nat.le_of_ble_eq_true rfl) ?_
  obtain ⟨g9, h⟩ := eGdB h
  refine Ev.ialdj (pc := 9) dX10_leads_9 (j := q1.toNatClampNeg) lR_1 g9 rfl ?_
  refine Ev.istore_n (pc := 10) dX10_leads_10 (by decide) rfl rfl ?_
  refine Ev.aload_n (pc := 11) dX10_leads_11 rfl ?_
  refine Ev.getR (pc := 12) dX10_leads_12 fl_RX10_7 lR_0 rfl ?_
  refine Ev.iload_n (pc := 15) dX10_leads_15 rfl ?_
  refine Ev.iconst (pc := 16) dX10_leads_16 (v := 0) (by decide) ?_
  refine eBk h (fun q2 hq2 h => ?_)
  refine Ev.callS (pc := 17) (as := [.int x2, .int 0]) (st := [.ref 1]) (z := 0) dX10_leads_17 wc_X10_road ml_RX10_70 sm_X10_road (ev_X10_road x2 0 M _ hq2) rfl rfl (by decide) rfl rfl (Nat.le_of_ble_eq_true rfl) ?_
  obtain ⟨g9, h⟩ := eGdB h
  refine Ev.ialdj (pc := 20) dX10_leads_20 (j := q2.toNatClampNeg) lR_1 g9 rfl ?_
  refine Ev.iload_n (pc := 21) dX10_leads_21 rfl ?_
  refine Ev.icmp_eq (pc := 22) (tgt := 39) dX10_leads_22 (by decide) (fun c9 => ?_) (fun c9 => ?_)
  · have h := eT h c9
    exact Ev.fg (ev_X10_leads_39 _ _ h) trivial
  · have h := eF h c9
    refine Ev.aload_n (pc := 25) dX10_leads_25 rfl ?_
    refine Ev.getR (pc := 26) dX10_leads_26 fl_RX10_7 lR_0 rfl ?_
    refine Ev.iload_n (pc := 29) dX10_leads_29 rfl ?_
    refine Ev.iconst (pc := 30) dX10_leads_30 (v := 1) (by decide) ?_
    refine eBk h (fun q3 hq3 h => ?_)
    refine Ev.callS (pc := 31) (as := [.int x2, .int 1]) (st := [.ref 1]) (z := 0) dX10_leads_31 wc_X10_road ml_RX10_70 sm_X10_road (ev_X10_road x2 1 M _ hq3) rfl rfl (by decide) rfl rfl (Nat.le_of_ble_eq_true rfl) ?_
    obtain ⟨g9, h⟩ := eGdB h
    refine Ev.ialdj (pc := 34) dX10_leads_34 (j := q3.toNatClampNeg) lR_1 g9 rfl ?_
    refine Ev.iload_n (pc := 35) dX10_leads_35 rfl ?_
    refine Ev.icmp_ne (pc := 36) (tgt := 43) dX10_leads_36 (by decide) (fun c9 => ?_) (fun c9 => ?_)
    · have h := eF h c9
      refine Ev.iconst (pc := 43) dX10_leads_43 (v := 0) (by decide) ?_
      obtain rfl := Option.some.inj h
      exact Ev.iret (pc := 44) dX10_leads_44 rfl rfl
    · have h := eT h c9
      exact Ev.fg (ev_X10_leads_39 _ _ h) trivial
theorem dX10_move_0 : decode cX10_move 0 = .ok (.aload_n 0, 1) := by decide +kernel
theorem dX10_move_1 : decode cX10_move 1 = .ok (.iload_n 1, 1) := by decide +kernel
theorem dX10_move_2 : decode cX10_move 2 = .ok (.invokevirtual 83, 3) := by decide +kernel
theorem dX10_move_5 : decode cX10_move 5 = .ok (.ifCond .eq 11, 3) := by decide +kernel
theorem dX10_move_8 : decode cX10_move 8 = .ok (.aload_n 0, 1) := by decide +kernel
theorem dX10_move_9 : decode cX10_move 9 = .ok (.iload_n 2, 1) := by decide +kernel
theorem dX10_move_10 : decode cX10_move 10 = .ok (.invokevirtual 86, 3) := by decide +kernel
theorem dX10_move_13 : decode cX10_move 13 = .ok (.ifCond .ne 9, 3) := by decide +kernel
theorem dX10_move_16 : decode cX10_move 16 = .ok (.aload_n 0, 1) := by decide +kernel
theorem dX10_move_17 : decode cX10_move 17 = .ok (.iconst 1, 1) := by decide +kernel
theorem dX10_move_18 : decode cX10_move 18 = .ok (.invokevirtual 66, 3) := by decide +kernel
theorem dX10_move_21 : decode cX10_move 21 = .ok (.ireturn, 1) := by decide +kernel
theorem dX10_move_22 : decode cX10_move 22 = .ok (.aload_n 0, 1) := by decide +kernel
theorem dX10_move_23 : decode cX10_move 23 = .ok (.getfield 7, 3) := by decide +kernel
theorem dX10_move_26 : decode cX10_move 26 = .ok (.iload_n 1, 1) := by decide +kernel
theorem dX10_move_27 : decode cX10_move 27 = .ok (.iconst 2, 1) := by decide +kernel
theorem dX10_move_28 : decode cX10_move 28 = .ok (.invokestatic 74, 3) := by decide +kernel
theorem dX10_move_31 : decode cX10_move 31 = .ok (.iaload, 1) := by decide +kernel
theorem dX10_move_32 : decode cX10_move 32 = .ok (.ifCond .ge 11, 3) := by decide +kernel
theorem dX10_move_35 : decode cX10_move 35 = .ok (.aload_n 0, 1) := by decide +kernel
theorem dX10_move_36 : decode cX10_move 36 = .ok (.iload_n 1, 1) := by decide +kernel
theorem dX10_move_37 : decode cX10_move 37 = .ok (.invokevirtual 89, 3) := by decide +kernel
theorem dX10_move_40 : decode cX10_move 40 = .ok (.ifCond .eq 9, 3) := by decide +kernel
theorem dX10_move_43 : decode cX10_move 43 = .ok (.aload_n 0, 1) := by decide +kernel
theorem dX10_move_44 : decode cX10_move 44 = .ok (.iconst 5, 1) := by decide +kernel
theorem dX10_move_45 : decode cX10_move 45 = .ok (.invokevirtual 66, 3) := by decide +kernel
theorem dX10_move_48 : decode cX10_move 48 = .ok (.ireturn, 1) := by decide +kernel
theorem dX10_move_49 : decode cX10_move 49 = .ok (.aload_n 0, 1) := by decide +kernel
theorem dX10_move_50 : decode cX10_move 50 = .ok (.iload_n 1, 1) := by decide +kernel
theorem dX10_move_51 : decode cX10_move 51 = .ok (.iload_n 2, 1) := by decide +kernel
theorem dX10_move_52 : decode cX10_move 52 = .ok (.invokevirtual 92, 3) := by decide +kernel
theorem dX10_move_55 : decode cX10_move 55 = .ok (.ifCond .ne 9, 3) := by decide +kernel
theorem dX10_move_58 : decode cX10_move 58 = .ok (.aload_n 0, 1) := by decide +kernel
theorem dX10_move_59 : decode cX10_move 59 = .ok (.iconst 3, 1) := by decide +kernel
theorem dX10_move_60 : decode cX10_move 60 = .ok (.invokevirtual 66, 3) := by decide +kernel
theorem dX10_move_63 : decode cX10_move 63 = .ok (.ireturn, 1) := by decide +kernel
theorem dX10_move_64 : decode cX10_move 64 = .ok (.aload_n 0, 1) := by decide +kernel
theorem dX10_move_65 : decode cX10_move 65 = .ok (.getfield 7, 3) := by decide +kernel
theorem dX10_move_68 : decode cX10_move 68 = .ok (.iload_n 1, 1) := by decide +kernel
theorem dX10_move_69 : decode cX10_move 69 = .ok (.iconst 0, 1) := by decide +kernel
theorem dX10_move_70 : decode cX10_move 70 = .ok (.invokestatic 74, 3) := by decide +kernel
theorem dX10_move_73 : decode cX10_move 73 = .ok (.iaload, 1) := by decide +kernel
theorem dX10_move_74 : decode cX10_move 74 = .ok (.istore_n 3, 1) := by decide +kernel
theorem dX10_move_75 : decode cX10_move 75 = .ok (.aload_n 0, 1) := by decide +kernel
theorem dX10_move_76 : decode cX10_move 76 = .ok (.getfield 7, 3) := by decide +kernel
theorem dX10_move_79 : decode cX10_move 79 = .ok (.iload_n 1, 1) := by decide +kernel
theorem dX10_move_80 : decode cX10_move 80 = .ok (.iconst 2, 1) := by decide +kernel
theorem dX10_move_81 : decode cX10_move 81 = .ok (.invokestatic 74, 3) := by decide +kernel
theorem dX10_move_84 : decode cX10_move 84 = .ok (.iload_n 2, 1) := by decide +kernel
theorem dX10_move_85 : decode cX10_move 85 = .ok (.iastore, 1) := by decide +kernel
theorem dX10_move_86 : decode cX10_move 86 = .ok (.aload_n 0, 1) := by decide +kernel
theorem dX10_move_87 : decode cX10_move 87 = .ok (.getfield 7, 3) := by decide +kernel
theorem dX10_move_90 : decode cX10_move 90 = .ok (.iload_n 1, 1) := by decide +kernel
theorem dX10_move_91 : decode cX10_move 91 = .ok (.iconst 3, 1) := by decide +kernel
theorem dX10_move_92 : decode cX10_move 92 = .ok (.invokestatic 74, 3) := by decide +kernel
theorem dX10_move_95 : decode cX10_move 95 = .ok (.aload_n 0, 1) := by decide +kernel
theorem dX10_move_96 : decode cX10_move 96 = .ok (.getfield 7, 3) := by decide +kernel
theorem dX10_move_99 : decode cX10_move 99 = .ok (.iload_n 2, 1) := by decide +kernel
theorem dX10_move_100 : decode cX10_move 100 = .ok (.iconst 0, 1) := by decide +kernel
theorem dX10_move_101 : decode cX10_move 101 = .ok (.invokestatic 70, 3) := by decide +kernel
theorem dX10_move_104 : decode cX10_move 104 = .ok (.iaload, 1) := by decide +kernel
theorem dX10_move_105 : decode cX10_move 105 = .ok (.iload_n 3, 1) := by decide +kernel
theorem dX10_move_106 : decode cX10_move 106 = .ok (.if_icmp .ne 16, 3) := by decide +kernel
theorem dX10_move_109 : decode cX10_move 109 = .ok (.aload_n 0, 1) := by decide +kernel
theorem dX10_move_110 : decode cX10_move 110 = .ok (.getfield 7, 3) := by decide +kernel
theorem dX10_move_113 : decode cX10_move 113 = .ok (.iload_n 2, 1) := by decide +kernel
theorem dX10_move_114 : decode cX10_move 114 = .ok (.iconst 1, 1) := by decide +kernel
theorem dX10_move_115 : decode cX10_move 115 = .ok (.invokestatic 70, 3) := by decide +kernel
theorem dX10_move_118 : decode cX10_move 118 = .ok (.iaload, 1) := by decide +kernel
theorem dX10_move_119 : decode cX10_move 119 = .ok (.goto 13, 3) := by decide +kernel
theorem dX10_move_122 : decode cX10_move 122 = .ok (.aload_n 0, 1) := by decide +kernel
theorem dX10_move_123 : decode cX10_move 123 = .ok (.getfield 7, 3) := by decide +kernel
theorem dX10_move_126 : decode cX10_move 126 = .ok (.iload_n 2, 1) := by decide +kernel
theorem dX10_move_127 : decode cX10_move 127 = .ok (.iconst 0, 1) := by decide +kernel
theorem dX10_move_128 : decode cX10_move 128 = .ok (.invokestatic 70, 3) := by decide +kernel
theorem dX10_move_131 : decode cX10_move 131 = .ok (.iaload, 1) := by decide +kernel
theorem dX10_move_132 : decode cX10_move 132 = .ok (.iastore, 1) := by decide +kernel
theorem dX10_move_133 : decode cX10_move 133 = .ok (.aload_n 0, 1) := by decide +kernel
theorem dX10_move_134 : decode cX10_move 134 = .ok (.getfield 7, 3) := by decide +kernel
theorem dX10_move_137 : decode cX10_move 137 = .ok (.iload_n 1, 1) := by decide +kernel
theorem dX10_move_138 : decode cX10_move 138 = .ok (.iconst 4, 1) := by decide +kernel
theorem dX10_move_139 : decode cX10_move 139 = .ok (.invokestatic 74, 3) := by decide +kernel
theorem dX10_move_142 : decode cX10_move 142 = .ok (.aload_n 0, 1) := by decide +kernel
theorem dX10_move_143 : decode cX10_move 143 = .ok (.getfield 7, 3) := by decide +kernel
theorem dX10_move_146 : decode cX10_move 146 = .ok (.iload_n 2, 1) := by decide +kernel
theorem dX10_move_147 : decode cX10_move 147 = .ok (.iconst 2, 1) := by decide +kernel
theorem dX10_move_148 : decode cX10_move 148 = .ok (.invokestatic 70, 3) := by decide +kernel
theorem dX10_move_151 : decode cX10_move 151 = .ok (.iaload, 1) := by decide +kernel
theorem dX10_move_152 : decode cX10_move 152 = .ok (.iastore, 1) := by decide +kernel
theorem dX10_move_153 : decode cX10_move 153 = .ok (.aload_n 0, 1) := by decide +kernel
theorem dX10_move_154 : decode cX10_move 154 = .ok (.getfield 7, 3) := by decide +kernel
theorem dX10_move_157 : decode cX10_move 157 = .ok (.iconst 0, 1) := by decide +kernel
theorem dX10_move_158 : decode cX10_move 158 = .ok (.iaload, 1) := by decide +kernel
theorem dX10_move_159 : decode cX10_move 159 = .ok (.aload_n 0, 1) := by decide +kernel
theorem dX10_move_160 : decode cX10_move 160 = .ok (.getfield 7, 3) := by decide +kernel
theorem dX10_move_163 : decode cX10_move 163 = .ok (.iload_n 2, 1) := by decide +kernel
theorem dX10_move_164 : decode cX10_move 164 = .ok (.iconst 2, 1) := by decide +kernel
theorem dX10_move_165 : decode cX10_move 165 = .ok (.invokestatic 70, 3) := by decide +kernel
theorem dX10_move_168 : decode cX10_move 168 = .ok (.iaload, 1) := by decide +kernel
theorem dX10_move_169 : decode cX10_move 169 = .ok (.iadd, 1) := by decide +kernel
theorem dX10_move_170 : decode cX10_move 170 = .ok (.ireturn, 1) := by decide +kernel
def F_X10_move_132  (v1 : Int32) (v2 : Int32) (s0 : Int32) (s1 : Int32) (M : eMem) : Option (Int32 × eMem) :=
  eG (eIn s1 2900) <|
  (F_X10_unitAt v1 4).bind fun q13 =>
  (F_X10_road v2 2).bind fun q14 =>
  eG (eIn q14 2900) <|
  eG (eIn q13 2900) <|
  (F_X10_road v2 2).bind fun q15 =>
  eG (eIn q15 2900) <|
  some ((((eI (eI M 1 s1.toNatClampNeg s0) 1 q13.toNatClampNeg ((eI M 1 s1.toNatClampNeg s0).1 1 q14.toNatClampNeg)).1 1 0) + ((eI (eI M 1 s1.toNatClampNeg s0) 1 q13.toNatClampNeg ((eI M 1 s1.toNatClampNeg s0).1 1 q14.toNatClampNeg)).1 1 q15.toNatClampNeg)), (eI (eI M 1 s1.toNatClampNeg s0) 1 q13.toNatClampNeg ((eI M 1 s1.toNatClampNeg s0).1 1 q14.toNatClampNeg)))
set_option maxRecDepth 100000 in
set_option maxHeartbeats 4000000 in
theorem ev_X10_move_132  (q : (Int32 × eMem))  (v1 : Int32) (v2 : Int32) (s0 : Int32) (s1 : Int32) (M : eMem) (h : F_X10_move_132 v1 v2 s0 s1 M = some q) : Ev layR 8 m_X10_move 132 [some (.ref 0), some (.int v1), some (.int v2), none] [.int s0, .int s1, .ref 1] M (some (.int q.1), q.2) := by
  rw [F_X10_move_132] at h
  obtain ⟨g9, h⟩ := eGdB h
  refine Ev.iastj (pc := 132) dX10_move_132 (j := s1.toNatClampNeg) lR_1 g9 rfl ?_
  refine Ev.aload_n (pc := 133) dX10_move_133 rfl ?_
  refine Ev.getR (pc := 134) dX10_move_134 fl_RX10_7 lR_0 rfl ?_
  refine Ev.iload_n (pc := 137) dX10_move_137 rfl ?_
  refine Ev.iconst (pc := 138) dX10_move_138 (v := 4) (by decide) ?_
  refine eBk h (fun q13 hq13 h => ?_)
  refine Ev.callS (pc := 139) (as := [.int v1, .int 4]) (st := [.ref 1]) (z := 0) dX10_move_139 wc_X10_unitAt ml_RX10_74 sm_X10_unitAt (ev_X10_unitAt v1 4 (eI M 1 s1.toNatClampNeg s0) _ hq13) rfl rfl (by decide) rfl rfl (Nat.le_of_ble_eq_true rfl) ?_
  refine Ev.aload_n (pc := 142) dX10_move_142 rfl ?_
  refine Ev.getR (pc := 143) dX10_move_143 fl_RX10_7 lR_0 rfl ?_
  refine Ev.iload_n (pc := 146) dX10_move_146 rfl ?_
  refine Ev.iconst (pc := 147) dX10_move_147 (v := 2) (by decide) ?_
  refine eBk h (fun q14 hq14 h => ?_)
  refine Ev.callS (pc := 148) (as := [.int v2, .int 2]) (st := [.ref 1, .int q13, .ref 1]) (z := 0) dX10_move_148 wc_X10_road ml_RX10_70 sm_X10_road (ev_X10_road v2 2 (eI M 1 s1.toNatClampNeg s0) _ hq14) rfl rfl (by decide) rfl rfl (Nat.le_of_ble_eq_true rfl) ?_
  obtain ⟨g9, h⟩ := eGdB h
  refine Ev.ialdj (pc := 151) dX10_move_151 (j := q14.toNatClampNeg) lR_1 g9 rfl ?_
  obtain ⟨g9, h⟩ := eGdB h
  refine Ev.iastj (pc := 152) dX10_move_152 (j := q13.toNatClampNeg) lR_1 g9 rfl ?_
  refine Ev.aload_n (pc := 153) dX10_move_153 rfl ?_
  refine Ev.getR (pc := 154) dX10_move_154 fl_RX10_7 lR_0 rfl ?_
  refine Ev.iconst (pc := 157) dX10_move_157 (v := 0) (by decide) ?_
  refine Ev.ialdj (pc := 158) dX10_move_158 (j := 0) lR_1 (by decide) (by decide) ?_
  refine Ev.aload_n (pc := 159) dX10_move_159 rfl ?_
  refine Ev.getR (pc := 160) dX10_move_160 fl_RX10_7 lR_0 rfl ?_
  refine Ev.iload_n (pc := 163) dX10_move_163 rfl ?_
  refine Ev.iconst (pc := 164) dX10_move_164 (v := 2) (by decide) ?_
  refine eBk h (fun q15 hq15 h => ?_)
  refine Ev.callS (pc := 165) (as := [.int v2, .int 2]) (st := [.ref 1, .int ((eI (eI M 1 s1.toNatClampNeg s0) 1 q13.toNatClampNeg ((eI M 1 s1.toNatClampNeg s0).1 1 q14.toNatClampNeg)).1 1 0)]) (z := 0) dX10_move_165 wc_X10_road ml_RX10_70 sm_X10_road (ev_X10_road v2 2 (eI (eI M 1 s1.toNatClampNeg s0) 1 q13.toNatClampNeg ((eI M 1 s1.toNatClampNeg s0).1 1 q14.toNatClampNeg)) _ hq15) rfl rfl (by decide) rfl rfl (Nat.le_of_ble_eq_true rfl) ?_
  obtain ⟨g9, h⟩ := eGdB h
  refine Ev.ialdj (pc := 168) dX10_move_168 (j := q15.toNatClampNeg) lR_1 g9 rfl ?_
  refine Ev.iadd (pc := 169) dX10_move_169 ?_
  obtain rfl := Option.some.inj h
  exact Ev.iret (pc := 170) dX10_move_170 rfl rfl
def F_X10_move (x1 : Int32) (x2 : Int32) (M : eMem) : Option (Int32 × eMem) :=
  (F_X10_isUnit x1 M).bind fun q1 =>
  if q1 = 0 then
    (F_X10_finding 1 M).bind fun q2 =>
    some (q2.1, q2.2)
  else
    (F_X10_isRoad x2 M).bind fun q3 =>
    if q3 = 0 then
      (F_X10_finding 1 M).bind fun q19 =>
      some (q19.1, q19.2)
    else
      (F_X10_unitAt x1 2).bind fun q4 =>
      eG (eIn q4 2900) <|
      if (M.1 1 q4.toNatClampNeg) < 0 then
        (F_X10_isQuiet x1 M).bind fun q6 =>
        if q6 = 0 then
          (F_X10_leads x1 x2 M).bind fun q7 =>
          if q7 = 0 then
            (F_X10_finding 3 M).bind fun q17 =>
            some (q17.1, q17.2)
          else
            (F_X10_unitAt x1 0).bind fun q8 =>
            eG (eIn q8 2900) <|
            (F_X10_unitAt x1 2).bind fun q9 =>
            eG (eIn q9 2900) <|
            (F_X10_unitAt x1 3).bind fun q10 =>
            (F_X10_road x2 0).bind fun q11 =>
            eG (eIn q11 2900) <|
            if ((eI M 1 q9.toNatClampNeg x2).1 1 q11.toNatClampNeg) = (M.1 1 q8.toNatClampNeg) then
              (F_X10_road x2 1).bind fun q16 =>
              eG (eIn q16 2900) <|
              F_X10_move_132 x1 x2 ((eI M 1 q9.toNatClampNeg x2).1 1 q16.toNatClampNeg) q10 (eI M 1 q9.toNatClampNeg x2)
            else
              (F_X10_road x2 0).bind fun q12 =>
              eG (eIn q12 2900) <|
              F_X10_move_132 x1 x2 ((eI M 1 q9.toNatClampNeg x2).1 1 q12.toNatClampNeg) q10 (eI M 1 q9.toNatClampNeg x2)
        else
          (F_X10_finding 5 M).bind fun q18 =>
          some (q18.1, q18.2)
      else
        (F_X10_finding 5 M).bind fun q5 =>
        some (q5.1, q5.2)
set_option maxRecDepth 100000 in
set_option maxHeartbeats 4000000 in
theorem ev_X10_move (x1 : Int32) (x2 : Int32) (M : eMem) (q : (Int32 × eMem)) (h : F_X10_move x1 x2 M = some q) : Ev layR 8 m_X10_move 0 [some (.ref 0), some (.int x1), some (.int x2), none] [] M (some (.int q.1), q.2) := by
  rw [F_X10_move] at h
  refine Ev.aload_n (pc := 0) dX10_move_0 rfl ?_
  refine Ev.iload_n (pc := 1) dX10_move_1 rfl ?_
  refine eBk h (fun q1 hq1 h => ?_)
  refine Ev.callV (pc := 2) (as := [.int x1]) (st := []) (z := 0) dX10_move_2 wc_X10_isUnit ml_RX10_83 im_X10_isUnit se_X10_isUnit lR_0 rfl rfl (ev_X10_isUnit x1 M _ hq1) rfl rfl (by decide) rfl rfl (Nat.le_of_ble_eq_true rfl) ?_
  refine Ev.if_eq (pc := 5) (tgt := 16) dX10_move_5 (by decide) (fun c9 => ?_) (fun c9 => ?_)
  · have h := eT h c9
    refine Ev.aload_n (pc := 16) dX10_move_16 rfl ?_
    refine Ev.iconst (pc := 17) dX10_move_17 (v := 1) (by decide) ?_
    refine eBk h (fun q2 hq2 h => ?_)
    refine Ev.callV (pc := 18) (as := [.int 1]) (st := []) (z := 0) dX10_move_18 wc_X10_finding ml_RX10_66 im_X10_finding se_X10_finding lR_0 rfl rfl (ev_X10_finding 1 M _ hq2) rfl rfl (by decide) rfl rfl (Nat.le_of_ble_eq_true rfl) ?_
    obtain rfl := Option.some.inj h
    exact Ev.iret (pc := 21) dX10_move_21 rfl rfl
  · have h := eF h c9
    refine Ev.aload_n (pc := 8) dX10_move_8 rfl ?_
    refine Ev.iload_n (pc := 9) dX10_move_9 rfl ?_
    refine eBk h (fun q3 hq3 h => ?_)
    refine Ev.callV (pc := 10) (as := [.int x2]) (st := []) (z := 0) dX10_move_10 wc_X10_isRoad ml_RX10_86 im_X10_isRoad se_X10_isRoad lR_0 rfl rfl (ev_X10_isRoad x2 M _ hq3) rfl rfl (by decide) rfl rfl (Nat.le_of_ble_eq_true rfl) ?_
    refine Ev.if_ne (pc := 13) (tgt := 22) dX10_move_13 (by decide) (fun c9 => ?_) (fun c9 => ?_)
    · have h := eF h c9
      refine Ev.aload_n (pc := 22) dX10_move_22 rfl ?_
      refine Ev.getR (pc := 23) dX10_move_23 fl_RX10_7 lR_0 rfl ?_
      refine Ev.iload_n (pc := 26) dX10_move_26 rfl ?_
      refine Ev.iconst (pc := 27) dX10_move_27 (v := 2) (by decide) ?_
      refine eBk h (fun q4 hq4 h => ?_)
      refine Ev.callS (pc := 28) (as := [.int x1, .int 2]) (st := [.ref 1]) (z := 0) dX10_move_28 wc_X10_unitAt ml_RX10_74 sm_X10_unitAt (ev_X10_unitAt x1 2 M _ hq4) rfl rfl (by decide) rfl rfl (Nat.le_of_ble_eq_true rfl) ?_
      obtain ⟨g9, h⟩ := eGdB h
      refine Ev.ialdj (pc := 31) dX10_move_31 (j := q4.toNatClampNeg) lR_1 g9 rfl ?_
      refine Ev.if_ge (pc := 32) (tgt := 43) dX10_move_32 (by decide) (fun c9 => ?_) (fun c9 => ?_)
      · have h := eF h c9
        refine Ev.aload_n (pc := 43) dX10_move_43 rfl ?_
        refine Ev.iconst (pc := 44) dX10_move_44 (v := 5) (by decide) ?_
        refine eBk h (fun q5 hq5 h => ?_)
        refine Ev.callV (pc := 45) (as := [.int 5]) (st := []) (z := 0) dX10_move_45 wc_X10_finding ml_RX10_66 im_X10_finding se_X10_finding lR_0 rfl rfl (ev_X10_finding 5 M _ hq5) rfl rfl (by decide) rfl rfl (Nat.le_of_ble_eq_true rfl) ?_
        obtain rfl := Option.some.inj h
        exact Ev.iret (pc := 48) dX10_move_48 rfl rfl
      · have h := eT h c9
        refine Ev.aload_n (pc := 35) dX10_move_35 rfl ?_
        refine Ev.iload_n (pc := 36) dX10_move_36 rfl ?_
        refine eBk h (fun q6 hq6 h => ?_)
        refine Ev.callV (pc := 37) (as := [.int x1]) (st := []) (z := 2) dX10_move_37 wc_X10_isQuiet ml_RX10_89 im_X10_isQuiet se_X10_isQuiet lR_0 rfl rfl (ev_X10_isQuiet x1 M _ hq6) rfl rfl (by decide) rfl rfl (Nat.le_of_ble_eq_true rfl) ?_
        refine Ev.if_eq (pc := 40) (tgt := 49) dX10_move_40 (by decide) (fun c9 => ?_) (fun c9 => ?_)
        · have h := eT h c9
          refine Ev.aload_n (pc := 49) dX10_move_49 rfl ?_
          refine Ev.iload_n (pc := 50) dX10_move_50 rfl ?_
          refine Ev.iload_n (pc := 51) dX10_move_51 rfl ?_
          refine eBk h (fun q7 hq7 h => ?_)
          refine Ev.callV (pc := 52) (as := [.int x1, .int x2]) (st := []) (z := 1) dX10_move_52 wc_X10_leads ml_RX10_92 im_X10_leads se_X10_leads lR_0 rfl rfl (ev_X10_leads x1 x2 M _ hq7) rfl rfl (by decide) rfl rfl (Nat.le_of_ble_eq_true rfl) ?_
          refine Ev.if_ne (pc := 55) (tgt := 64) dX10_move_55 (by decide) (fun c9 => ?_) (fun c9 => ?_)
          · have h := eF h c9
            refine Ev.aload_n (pc := 64) dX10_move_64 rfl ?_
            refine Ev.getR (pc := 65) dX10_move_65 fl_RX10_7 lR_0 rfl ?_
            refine Ev.iload_n (pc := 68) dX10_move_68 rfl ?_
            refine Ev.iconst (pc := 69) dX10_move_69 (v := 0) (by decide) ?_
            refine eBk h (fun q8 hq8 h => ?_)
            refine Ev.callS (pc := 70) (as := [.int x1, .int 0]) (st := [.ref 1]) (z := 0) dX10_move_70 wc_X10_unitAt ml_RX10_74 sm_X10_unitAt (ev_X10_unitAt x1 0 M _ hq8) rfl rfl (by decide) rfl rfl (Nat.le_of_ble_eq_true rfl) ?_
            obtain ⟨g9, h⟩ := eGdB h
            refine Ev.ialdj (pc := 73) dX10_move_73 (j := q8.toNatClampNeg) lR_1 g9 rfl ?_
            refine Ev.istore_n (pc := 74) dX10_move_74 (by decide) rfl rfl ?_
            refine Ev.aload_n (pc := 75) dX10_move_75 rfl ?_
            refine Ev.getR (pc := 76) dX10_move_76 fl_RX10_7 lR_0 rfl ?_
            refine Ev.iload_n (pc := 79) dX10_move_79 rfl ?_
            refine Ev.iconst (pc := 80) dX10_move_80 (v := 2) (by decide) ?_
            refine eBk h (fun q9 hq9 h => ?_)
            refine Ev.callS (pc := 81) (as := [.int x1, .int 2]) (st := [.ref 1]) (z := 0) dX10_move_81 wc_X10_unitAt ml_RX10_74 sm_X10_unitAt (ev_X10_unitAt x1 2 M _ hq9) rfl rfl (by decide) rfl rfl (Nat.le_of_ble_eq_true rfl) ?_
            refine Ev.iload_n (pc := 84) dX10_move_84 rfl ?_
            obtain ⟨g9, h⟩ := eGdB h
            refine Ev.iastj (pc := 85) dX10_move_85 (j := q9.toNatClampNeg) lR_1 g9 rfl ?_
            refine Ev.aload_n (pc := 86) dX10_move_86 rfl ?_
            refine Ev.getR (pc := 87) dX10_move_87 fl_RX10_7 lR_0 rfl ?_
            refine Ev.iload_n (pc := 90) dX10_move_90 rfl ?_
            refine Ev.iconst (pc := 91) dX10_move_91 (v := 3) (by decide) ?_
            refine eBk h (fun q10 hq10 h => ?_)
            refine Ev.callS (pc := 92) (as := [.int x1, .int 3]) (st := [.ref 1]) (z := 0) dX10_move_92 wc_X10_unitAt ml_RX10_74 sm_X10_unitAt (ev_X10_unitAt x1 3 (eI M 1 q9.toNatClampNeg x2) _ hq10) rfl rfl (by decide) rfl rfl (Nat.le_of_ble_eq_true rfl) ?_
            refine Ev.aload_n (pc := 95) dX10_move_95 rfl ?_
            refine Ev.getR (pc := 96) dX10_move_96 fl_RX10_7 lR_0 rfl ?_
            refine Ev.iload_n (pc := 99) dX10_move_99 rfl ?_
            refine Ev.iconst (pc := 100) dX10_move_100 (v := 0) (by decide) ?_
            refine eBk h (fun q11 hq11 h => ?_)
            refine Ev.callS (pc := 101) (as := [.int x2, .int 0]) (st := [.ref 1, .int q10, .ref 1]) (z := 0) dX10_move_101 wc_X10_road ml_RX10_70 sm_X10_road (ev_X10_road x2 0 (eI M 1 q9.toNatClampNeg x2) _ hq11) rfl rfl (by decide) rfl rfl (Nat.le_of_ble_eq_true rfl) ?_
            obtain ⟨g9, h⟩ := eGdB h
            refine Ev.ialdj (pc := 104) dX10_move_104 (j := q11.toNatClampNeg) lR_1 g9 rfl ?_
            refine Ev.iload_n (pc := 105) dX10_move_105 rfl ?_
            refine Ev.icmp_ne (pc := 106) (tgt := 122) dX10_move_106 (by decide) (fun c9 => ?_) (fun c9 => ?_)
            · have h := eF h c9
              refine Ev.aload_n (pc := 122) dX10_move_122 rfl ?_
              refine Ev.getR (pc := 123) dX10_move_123 fl_RX10_7 lR_0 rfl ?_
              refine Ev.iload_n (pc := 126) dX10_move_126 rfl ?_
              refine Ev.iconst (pc := 127) dX10_move_127 (v := 0) (by decide) ?_
              refine eBk h (fun q12 hq12 h => ?_)
              refine Ev.callS (pc := 128) (as := [.int x2, .int 0]) (st := [.ref 1, .int q10, .ref 1]) (z := 0) dX10_move_128 wc_X10_road ml_RX10_70 sm_X10_road (ev_X10_road x2 0 (eI M 1 q9.toNatClampNeg x2) _ hq12) rfl rfl (by decide) rfl rfl (Nat.le_of_ble_eq_true rfl) ?_
              obtain ⟨g9, h⟩ := eGdB h
              refine Ev.ialdj (pc := 131) dX10_move_131 (j := q12.toNatClampNeg) lR_1 g9 rfl ?_
              exact Ev.fg (ev_X10_move_132 _ _ _ _ _ _ h) (And.intro rfl (And.intro rfl (And.intro rfl trivial)))
            · have h := eT h c9
              refine Ev.aload_n (pc := 109) dX10_move_109 rfl ?_
              refine Ev.getR (pc := 110) dX10_move_110 fl_RX10_7 lR_0 rfl ?_
              refine Ev.iload_n (pc := 113) dX10_move_113 rfl ?_
              refine Ev.iconst (pc := 114) dX10_move_114 (v := 1) (by decide) ?_
              refine eBk h (fun q16 hq16 h => ?_)
              refine Ev.callS (pc := 115) (as := [.int x2, .int 1]) (st := [.ref 1, .int q10, .ref 1]) (z := 0) dX10_move_115 wc_X10_road ml_RX10_70 sm_X10_road (ev_X10_road x2 1 (eI M 1 q9.toNatClampNeg x2) _ hq16) rfl rfl (by decide) rfl rfl (Nat.le_of_ble_eq_true rfl) ?_
              obtain ⟨g9, h⟩ := eGdB h
              refine Ev.ialdj (pc := 118) dX10_move_118 (j := q16.toNatClampNeg) lR_1 g9 rfl ?_
              refine Ev.goto (pc := 119) (tgt := 132) dX10_move_119 (by decide) ?_
              exact Ev.fg (ev_X10_move_132 _ _ _ _ _ _ h) (And.intro rfl (And.intro rfl (And.intro rfl trivial)))
          · have h := eT h c9
            refine Ev.aload_n (pc := 58) dX10_move_58 rfl ?_
            refine Ev.iconst (pc := 59) dX10_move_59 (v := 3) (by decide) ?_
            refine eBk h (fun q17 hq17 h => ?_)
            refine Ev.callV (pc := 60) (as := [.int 3]) (st := []) (z := 0) dX10_move_60 wc_X10_finding ml_RX10_66 im_X10_finding se_X10_finding lR_0 rfl rfl (ev_X10_finding 3 M _ hq17) rfl rfl (by decide) rfl rfl (Nat.le_of_ble_eq_true rfl) ?_
            obtain rfl := Option.some.inj h
            exact Ev.iret (pc := 63) dX10_move_63 rfl rfl
        · have h := eF h c9
          refine Ev.aload_n (pc := 43) dX10_move_43 rfl ?_
          refine Ev.iconst (pc := 44) dX10_move_44 (v := 5) (by decide) ?_
          refine eBk h (fun q18 hq18 h => ?_)
          refine Ev.callV (pc := 45) (as := [.int 5]) (st := []) (z := 0) dX10_move_45 wc_X10_finding ml_RX10_66 im_X10_finding se_X10_finding lR_0 rfl rfl (ev_X10_finding 5 M _ hq18) rfl rfl (by decide) rfl rfl (Nat.le_of_ble_eq_true rfl) ?_
          obtain rfl := Option.some.inj h
          exact Ev.iret (pc := 48) dX10_move_48 rfl rfl
    · have h := eT h c9
      refine Ev.aload_n (pc := 16) dX10_move_16 rfl ?_
      refine Ev.iconst (pc := 17) dX10_move_17 (v := 1) (by decide) ?_
      refine eBk h (fun q19 hq19 h => ?_)
      refine Ev.callV (pc := 18) (as := [.int 1]) (st := []) (z := 0) dX10_move_18 wc_X10_finding ml_RX10_66 im_X10_finding se_X10_finding lR_0 rfl rfl (ev_X10_finding 1 M _ hq19) rfl rfl (by decide) rfl rfl (Nat.le_of_ble_eq_true rfl) ?_
      obtain rfl := Option.some.inj h
      exact Ev.iret (pc := 21) dX10_move_21 rfl rfl
theorem dX9_where_0 : decode cX9_where 0 = .ok (.aload_n 0, 1) := by decide +kernel
theorem dX9_where_1 : decode cX9_where 1 = .ok (.getfield 12, 3) := by decide +kernel
theorem dX9_where_4 : decode cX9_where 4 = .ok (.getfield 46, 3) := by decide +kernel
theorem dX9_where_7 : decode cX9_where 7 = .ok (.astore_n 3, 1) := by decide +kernel
theorem dX9_where_8 : decode cX9_where 8 = .ok (.iload_n 1, 1) := by decide +kernel
theorem dX9_where_9 : decode cX9_where 9 = .ok (.aload_n 3, 1) := by decide +kernel
theorem dX9_where_10 : decode cX9_where 10 = .ok (.getfield 68, 3) := by decide +kernel
theorem dX9_where_13 : decode cX9_where 13 = .ok (.invokestatic 37, 3) := by decide +kernel
theorem dX9_where_16 : decode cX9_where 16 = .ok (.ifCond .ne 10, 3) := by decide +kernel
theorem dX9_where_19 : decode cX9_where 19 = .ok (.aload_n 0, 1) := by decide +kernel
theorem dX9_where_20 : decode cX9_where 20 = .ok (.ldc 41, 2) := by decide +kernel
theorem dX9_where_22 : decode cX9_where 22 = .ok (.invokevirtual 42, 3) := by decide +kernel
theorem dX9_where_25 : decode cX9_where 25 = .ok (.ireturn, 1) := by decide +kernel
theorem dX9_where_26 : decode cX9_where 26 = .ok (.iload_n 2, 1) := by decide +kernel
theorem dX9_where_27 : decode cX9_where 27 = .ok (.tableswitch 57 0 3 #[29, 36, 43, 50], 29) := by decide +kernel
theorem dX9_where_56 : decode cX9_where 56 = .ok (.aload_n 3, 1) := by decide +kernel
theorem dX9_where_57 : decode cX9_where 57 = .ok (.getfield 83, 3) := by decide +kernel
theorem dX9_where_60 : decode cX9_where 60 = .ok (.iload_n 1, 1) := by decide +kernel
theorem dX9_where_61 : decode cX9_where 61 = .ok (.iaload, 1) := by decide +kernel
theorem dX9_where_62 : decode cX9_where 62 = .ok (.ireturn, 1) := by decide +kernel
theorem dX9_where_63 : decode cX9_where 63 = .ok (.aload_n 3, 1) := by decide +kernel
theorem dX9_where_64 : decode cX9_where 64 = .ok (.getfield 102, 3) := by decide +kernel
theorem dX9_where_67 : decode cX9_where 67 = .ok (.iload_n 1, 1) := by decide +kernel
theorem dX9_where_68 : decode cX9_where 68 = .ok (.iaload, 1) := by decide +kernel
theorem dX9_where_69 : decode cX9_where 69 = .ok (.ireturn, 1) := by decide +kernel
theorem dX9_where_70 : decode cX9_where 70 = .ok (.aload_n 3, 1) := by decide +kernel
theorem dX9_where_71 : decode cX9_where 71 = .ok (.getfield 90, 3) := by decide +kernel
theorem dX9_where_74 : decode cX9_where 74 = .ok (.iload_n 1, 1) := by decide +kernel
theorem dX9_where_75 : decode cX9_where 75 = .ok (.iaload, 1) := by decide +kernel
theorem dX9_where_76 : decode cX9_where 76 = .ok (.ireturn, 1) := by decide +kernel
theorem dX9_where_77 : decode cX9_where 77 = .ok (.aload_n 3, 1) := by decide +kernel
theorem dX9_where_78 : decode cX9_where 78 = .ok (.getfield 93, 3) := by decide +kernel
theorem dX9_where_81 : decode cX9_where 81 = .ok (.iload_n 1, 1) := by decide +kernel
theorem dX9_where_82 : decode cX9_where 82 = .ok (.iaload, 1) := by decide +kernel
theorem dX9_where_83 : decode cX9_where 83 = .ok (.ireturn, 1) := by decide +kernel
theorem dX9_where_84 : decode cX9_where 84 = .ok (.aload_n 0, 1) := by decide +kernel
theorem dX9_where_85 : decode cX9_where 85 = .ok (.ldc 41, 2) := by decide +kernel
theorem dX9_where_87 : decode cX9_where 87 = .ok (.invokevirtual 42, 3) := by decide +kernel
theorem dX9_where_90 : decode cX9_where 90 = .ok (.ireturn, 1) := by decide +kernel
def F_X9_where (x1 : Int32) (x2 : Int32) (M : eMem) : Option (Int32 × eMem) :=
  (F_X9_isIn x1 (M.1 2 9)).bind fun q1 =>
  if q1 = 0 then
    (F_X9_found (-1000001) M).bind fun q7 =>
    some (q7.1, q7.2)
  else
    if x2 = 0 then
      eG (eIn x1 12) <|
      some ((M.1 7 x1.toNatClampNeg), M)
    else
    if x2 = 1 then
      eG (eIn x1 12) <|
      some ((M.1 8 x1.toNatClampNeg), M)
    else
    if x2 = 2 then
      eG (eIn x1 12) <|
      some ((M.1 9 x1.toNatClampNeg), M)
    else
    if x2 = 3 then
      eG (eIn x1 12) <|
      some ((M.1 10 x1.toNatClampNeg), M)
    else
    (F_X9_found (-1000001) M).bind fun q6 =>
    some (q6.1, q6.2)
set_option maxRecDepth 100000 in
set_option maxHeartbeats 4000000 in
theorem ev_X9_where (x1 : Int32) (x2 : Int32) (M : eMem) (q : (Int32 × eMem)) (h : F_X9_where x1 x2 M = some q) : Ev layC 2 m_X9_where 0 [some (.ref 0), some (.int x1), some (.int x2), none] [] M (some (.int q.1), q.2) := by
  rw [F_X9_where] at h
  refine Ev.aload_n (pc := 0) dX9_where_0 rfl ?_
  refine Ev.getR (pc := 1) dX9_where_1 fl_RX9_12 lC_0 rfl ?_
  refine Ev.getR (pc := 4) dX9_where_4 fl_RX9_46 lC_1 rfl ?_
  refine Ev.astore_n (pc := 7) dX9_where_7 (by decide) rfl rfl ?_
  refine Ev.iload_n (pc := 8) dX9_where_8 rfl ?_
  refine Ev.aload_n (pc := 9) dX9_where_9 rfl ?_
  refine Ev.getI (pc := 10) dX9_where_10 fl_RX9_68 lC_2 rfl ?_
  refine eBk h (fun q1 hq1 h => ?_)
  refine Ev.callS (pc := 13) (as := [.int x1, .int (M.1 2 9)]) (st := []) (z := 0) dX9_where_13 wc_X9_isIn ml_RX9_37 sm_X9_isIn (ev_X9_isIn x1 (M.1 2 9) M _ hq1) rfl rfl (by decide) rfl rfl (Nat.le_of_ble_eq_true rfl) ?_
  refine Ev.if_ne (pc := 16) (tgt := 26) dX9_where_16 (by decide) (fun c9 => ?_) (fun c9 => ?_)
  · have h := eF h c9
    refine Ev.iload_n (pc := 26) dX9_where_26 rfl ?_
    by_cases cs2 : x2 = 0
    · have h := eT h cs2
      refine Ev.tsIn (pc := 27) (tgt := 56) (off := 29) dX9_where_27 (by rw [cs2]; decide) (by rw [cs2]; decide) (by rw [cs2]; rfl) (by decide) ?_
      refine Ev.aload_n (pc := 56) dX9_where_56 rfl ?_
      refine Ev.getR (pc := 57) dX9_where_57 fl_RX9_83 lC_2 rfl ?_
      refine Ev.iload_n (pc := 60) dX9_where_60 rfl ?_
      obtain ⟨g9, h⟩ := eGdB h
      refine Ev.ialdj (pc := 61) dX9_where_61 (j := x1.toNatClampNeg) lC_7 g9 rfl ?_
      obtain rfl := Option.some.inj h
      exact Ev.iret (pc := 62) dX9_where_62 rfl rfl
    have h := eF h cs2
    by_cases cs3 : x2 = 1
    · have h := eT h cs3
      refine Ev.tsIn (pc := 27) (tgt := 63) (off := 36) dX9_where_27 (by rw [cs3]; decide) (by rw [cs3]; decide) (by rw [cs3]; rfl) (by decide) ?_
      refine Ev.aload_n (pc := 63) dX9_where_63 rfl ?_
      refine Ev.getR (pc := 64) dX9_where_64 fl_RX9_102 lC_2 rfl ?_
      refine Ev.iload_n (pc := 67) dX9_where_67 rfl ?_
      obtain ⟨g9, h⟩ := eGdB h
      refine Ev.ialdj (pc := 68) dX9_where_68 (j := x1.toNatClampNeg) lC_8 g9 rfl ?_
      obtain rfl := Option.some.inj h
      exact Ev.iret (pc := 69) dX9_where_69 rfl rfl
    have h := eF h cs3
    by_cases cs4 : x2 = 2
    · have h := eT h cs4
      refine Ev.tsIn (pc := 27) (tgt := 70) (off := 43) dX9_where_27 (by rw [cs4]; decide) (by rw [cs4]; decide) (by rw [cs4]; rfl) (by decide) ?_
      refine Ev.aload_n (pc := 70) dX9_where_70 rfl ?_
      refine Ev.getR (pc := 71) dX9_where_71 fl_RX9_90 lC_2 rfl ?_
      refine Ev.iload_n (pc := 74) dX9_where_74 rfl ?_
      obtain ⟨g9, h⟩ := eGdB h
      refine Ev.ialdj (pc := 75) dX9_where_75 (j := x1.toNatClampNeg) lC_9 g9 rfl ?_
      obtain rfl := Option.some.inj h
      exact Ev.iret (pc := 76) dX9_where_76 rfl rfl
    have h := eF h cs4
    by_cases cs5 : x2 = 3
    · have h := eT h cs5
      refine Ev.tsIn (pc := 27) (tgt := 77) (off := 50) dX9_where_27 (by rw [cs5]; decide) (by rw [cs5]; decide) (by rw [cs5]; rfl) (by decide) ?_
      refine Ev.aload_n (pc := 77) dX9_where_77 rfl ?_
      refine Ev.getR (pc := 78) dX9_where_78 fl_RX9_93 lC_2 rfl ?_
      refine Ev.iload_n (pc := 81) dX9_where_81 rfl ?_
      obtain ⟨g9, h⟩ := eGdB h
      refine Ev.ialdj (pc := 82) dX9_where_82 (j := x1.toNatClampNeg) lC_10 g9 rfl ?_
      obtain rfl := Option.some.inj h
      exact Ev.iret (pc := 83) dX9_where_83 rfl rfl
    have h := eF h cs5
    refine Ev.tsOut (pc := 27) (tgt := 84) dX9_where_27 (eTsO 4 (by decide) (by decide) (by decide) (by
      intro k hk
      rcases (show k = 0 ∨ k = 1 ∨ k = 2 ∨ k = 3 by omega) with rfl | rfl | rfl | rfl
      · exact cs2
      · exact cs3
      · exact cs4
      · exact cs5
      )) (by decide) ?_
    refine Ev.aload_n (pc := 84) dX9_where_84 rfl ?_
    refine Ev.ldc (pc := 85) dX9_where_85 ld_RX9_41 ?_
    refine eBk h (fun q6 hq6 h => ?_)
    refine Ev.callV (pc := 87) (as := [.int (-1000001)]) (st := []) (z := 1) dX9_where_87 wc_X9_found ml_RX9_42 im_X9_found se_X9_found lC_0 rfl rfl (ev_X9_found (-1000001) M _ hq6) rfl rfl (by decide) rfl rfl (Nat.le_of_ble_eq_true rfl) ?_
    obtain rfl := Option.some.inj h
    exact Ev.iret (pc := 90) dX9_where_90 rfl rfl
  · have h := eT h c9
    refine Ev.aload_n (pc := 19) dX9_where_19 rfl ?_
    refine Ev.ldc (pc := 20) dX9_where_20 ld_RX9_41 ?_
    refine eBk h (fun q7 hq7 h => ?_)
    refine Ev.callV (pc := 22) (as := [.int (-1000001)]) (st := []) (z := 1) dX9_where_22 wc_X9_found ml_RX9_42 im_X9_found se_X9_found lC_0 rfl rfl (ev_X9_found (-1000001) M _ hq7) rfl rfl (by decide) rfl rfl (Nat.le_of_ble_eq_true rfl) ?_
    obtain rfl := Option.some.inj h
    exact Ev.iret (pc := 25) dX9_where_25 rfl rfl
theorem dX10_where_0 : decode cX10_where 0 = .ok (.aload_n 0, 1) := by decide +kernel
theorem dX10_where_1 : decode cX10_where 1 = .ok (.iload_n 1, 1) := by decide +kernel
theorem dX10_where_2 : decode cX10_where 2 = .ok (.invokevirtual 83, 3) := by decide +kernel
theorem dX10_where_5 : decode cX10_where 5 = .ok (.ifCond .eq 12, 3) := by decide +kernel
theorem dX10_where_8 : decode cX10_where 8 = .ok (.iload_n 2, 1) := by decide +kernel
theorem dX10_where_9 : decode cX10_where 9 = .ok (.iconst 0, 1) := by decide +kernel
theorem dX10_where_10 : decode cX10_where 10 = .ok (.iconst 3, 1) := by decide +kernel
theorem dX10_where_11 : decode cX10_where 11 = .ok (.invokestatic 58, 3) := by decide +kernel
theorem dX10_where_14 : decode cX10_where 14 = .ok (.ifCond .ne 9, 3) := by decide +kernel
theorem dX10_where_17 : decode cX10_where 17 = .ok (.aload_n 0, 1) := by decide +kernel
theorem dX10_where_18 : decode cX10_where 18 = .ok (.iconst 1, 1) := by decide +kernel
theorem dX10_where_19 : decode cX10_where 19 = .ok (.invokevirtual 66, 3) := by decide +kernel
theorem dX10_where_22 : decode cX10_where 22 = .ok (.ireturn, 1) := by decide +kernel
theorem dX10_where_23 : decode cX10_where 23 = .ok (.aload_n 0, 1) := by decide +kernel
theorem dX10_where_24 : decode cX10_where 24 = .ok (.getfield 7, 3) := by decide +kernel
theorem dX10_where_27 : decode cX10_where 27 = .ok (.iload_n 1, 1) := by decide +kernel
theorem dX10_where_28 : decode cX10_where 28 = .ok (.iload_n 2, 1) := by decide +kernel
theorem dX10_where_29 : decode cX10_where 29 = .ok (.iconst 3, 1) := by decide +kernel
theorem dX10_where_30 : decode cX10_where 30 = .ok (.if_icmp .ne 7, 3) := by decide +kernel
theorem dX10_where_33 : decode cX10_where 33 = .ok (.iconst 4, 1) := by decide +kernel
theorem dX10_where_34 : decode cX10_where 34 = .ok (.goto 4, 3) := by decide +kernel
theorem dX10_where_37 : decode cX10_where 37 = .ok (.iload_n 2, 1) := by decide +kernel
theorem dX10_where_38 : decode cX10_where 38 = .ok (.invokestatic 74, 3) := by decide +kernel
theorem dX10_where_41 : decode cX10_where 41 = .ok (.iaload, 1) := by decide +kernel
theorem dX10_where_42 : decode cX10_where 42 = .ok (.ireturn, 1) := by decide +kernel
def F_X10_where (x1 : Int32) (x2 : Int32) (M : eMem) : Option (Int32 × eMem) :=
  (F_X10_isUnit x1 M).bind fun q1 =>
  if q1 = 0 then
    (F_X10_finding 1 M).bind fun q2 =>
    some (q2.1, q2.2)
  else
    (F_X10_in x2 0 3).bind fun q3 =>
    if q3 = 0 then
      (F_X10_finding 1 M).bind fun q6 =>
      some (q6.1, q6.2)
    else
      if x2 = 3 then
        (F_X10_unitAt x1 4).bind fun q5 =>
        eG (eIn q5 2900) <|
        some ((M.1 1 q5.toNatClampNeg), M)
      else
        (F_X10_unitAt x1 x2).bind fun q4 =>
        eG (eIn q4 2900) <|
        some ((M.1 1 q4.toNatClampNeg), M)
set_option maxRecDepth 100000 in
set_option maxHeartbeats 4000000 in
theorem ev_X10_where (x1 : Int32) (x2 : Int32) (M : eMem) (q : (Int32 × eMem)) (h : F_X10_where x1 x2 M = some q) : Ev layR 2 m_X10_where 0 [some (.ref 0), some (.int x1), some (.int x2)] [] M (some (.int q.1), q.2) := by
  rw [F_X10_where] at h
  refine Ev.aload_n (pc := 0) dX10_where_0 rfl ?_
  refine Ev.iload_n (pc := 1) dX10_where_1 rfl ?_
  refine eBk h (fun q1 hq1 h => ?_)
  refine Ev.callV (pc := 2) (as := [.int x1]) (st := []) (z := 0) dX10_where_2 wc_X10_isUnit ml_RX10_83 im_X10_isUnit se_X10_isUnit lR_0 rfl rfl (ev_X10_isUnit x1 M _ hq1) rfl rfl (by decide) rfl rfl (Nat.le_of_ble_eq_true rfl) ?_
  refine Ev.if_eq (pc := 5) (tgt := 17) dX10_where_5 (by decide) (fun c9 => ?_) (fun c9 => ?_)
  · have h := eT h c9
    refine Ev.aload_n (pc := 17) dX10_where_17 rfl ?_
    refine Ev.iconst (pc := 18) dX10_where_18 (v := 1) (by decide) ?_
    refine eBk h (fun q2 hq2 h => ?_)
    refine Ev.callV (pc := 19) (as := [.int 1]) (st := []) (z := 0) dX10_where_19 wc_X10_finding ml_RX10_66 im_X10_finding se_X10_finding lR_0 rfl rfl (ev_X10_finding 1 M _ hq2) rfl rfl (by decide) rfl rfl (Nat.le_of_ble_eq_true rfl) ?_
    obtain rfl := Option.some.inj h
    exact Ev.iret (pc := 22) dX10_where_22 rfl rfl
  · have h := eF h c9
    refine Ev.iload_n (pc := 8) dX10_where_8 rfl ?_
    refine Ev.iconst (pc := 9) dX10_where_9 (v := 0) (by decide) ?_
    refine Ev.iconst (pc := 10) dX10_where_10 (v := 3) (by decide) ?_
    refine eBk h (fun q3 hq3 h => ?_)
    refine Ev.callS (pc := 11) (as := [.int x2, .int 0, .int 3]) (st := []) (z := 0) dX10_where_11 wc_X10_in ml_RX10_58 sm_X10_in (ev_X10_in x2 0 3 M _ hq3) rfl rfl (by decide) rfl rfl (Nat.le_of_ble_eq_true rfl) ?_
    refine Ev.if_ne (pc := 14) (tgt := 23) dX10_where_14 (by decide) (fun c9 => ?_) (fun c9 => ?_)
    · have h := eF h c9
      refine Ev.aload_n (pc := 23) dX10_where_23 rfl ?_
      refine Ev.getR (pc := 24) dX10_where_24 fl_RX10_7 lR_0 rfl ?_
      refine Ev.iload_n (pc := 27) dX10_where_27 rfl ?_
      refine Ev.iload_n (pc := 28) dX10_where_28 rfl ?_
      refine Ev.iconst (pc := 29) dX10_where_29 (v := 3) (by decide) ?_
      refine Ev.icmp_ne (pc := 30) (tgt := 37) dX10_where_30 (by decide) (fun c9 => ?_) (fun c9 => ?_)
      · have h := eF h c9
        refine Ev.iload_n (pc := 37) dX10_where_37 rfl ?_
        refine eBk h (fun q4 hq4 h => ?_)
        refine Ev.callS (pc := 38) (as := [.int x1, .int x2]) (st := [.ref 1]) (z := 0) dX10_where_38 wc_X10_unitAt ml_RX10_74 sm_X10_unitAt (ev_X10_unitAt x1 x2 M _ hq4) rfl rfl (by decide) rfl rfl (Nat.le_of_ble_eq_true rfl) ?_
        obtain ⟨g9, h⟩ := eGdB h
        refine Ev.ialdj (pc := 41) dX10_where_41 (j := q4.toNatClampNeg) lR_1 g9 rfl ?_
        obtain rfl := Option.some.inj h
        exact Ev.iret (pc := 42) dX10_where_42 rfl rfl
      · have h := eT h c9
        refine Ev.iconst (pc := 33) dX10_where_33 (v := 4) (by decide) ?_
        refine Ev.goto (pc := 34) (tgt := 38) dX10_where_34 (by decide) ?_
        refine eBk h (fun q5 hq5 h => ?_)
        refine Ev.callS (pc := 38) (as := [.int x1, .int 4]) (st := [.ref 1]) (z := 0) dX10_where_38 wc_X10_unitAt ml_RX10_74 sm_X10_unitAt (ev_X10_unitAt x1 4 M _ hq5) rfl rfl (by decide) rfl rfl (Nat.le_of_ble_eq_true rfl) ?_
        obtain ⟨g9, h⟩ := eGdB h
        refine Ev.ialdj (pc := 41) dX10_where_41 (j := q5.toNatClampNeg) lR_1 g9 rfl ?_
        obtain rfl := Option.some.inj h
        exact Ev.iret (pc := 42) dX10_where_42 rfl rfl
    · have h := eT h c9
      refine Ev.aload_n (pc := 17) dX10_where_17 rfl ?_
      refine Ev.iconst (pc := 18) dX10_where_18 (v := 1) (by decide) ?_
      refine eBk h (fun q6 hq6 h => ?_)
      refine Ev.callV (pc := 19) (as := [.int 1]) (st := []) (z := 0) dX10_where_19 wc_X10_finding ml_RX10_66 im_X10_finding se_X10_finding lR_0 rfl rfl (ev_X10_finding 1 M _ hq6) rfl rfl (by decide) rfl rfl (Nat.le_of_ble_eq_true rfl) ?_
      obtain rfl := Option.some.inj h
      exact Ev.iret (pc := 22) dX10_where_22 rfl rfl
theorem dX2_hasLow_0 : decode cX2_hasLow 0 = .ok (.iconst 0, 1) := by decide +kernel
theorem dX2_hasLow_1 : decode cX2_hasLow 1 = .ok (.istore 5, 2) := by decide +kernel
theorem dX2_hasLow_3 : decode cX2_hasLow 3 = .ok (.iload 5, 2) := by decide +kernel
theorem dX2_hasLow_5 : decode cX2_hasLow 5 = .ok (.aload_n 0, 1) := by decide +kernel
theorem dX2_hasLow_6 : decode cX2_hasLow 6 = .ok (.getfield 27, 3) := by decide +kernel
theorem dX2_hasLow_9 : decode cX2_hasLow 9 = .ok (.if_icmp .ge 93, 3) := by decide +kernel
theorem dX2_hasLow_12 : decode cX2_hasLow 12 = .ok (.aload_n 0, 1) := by decide +kernel
theorem dX2_hasLow_13 : decode cX2_hasLow 13 = .ok (.getfield 15, 3) := by decide +kernel
theorem dX2_hasLow_16 : decode cX2_hasLow 16 = .ok (.iload 5, 2) := by decide +kernel
theorem dX2_hasLow_18 : decode cX2_hasLow 18 = .ok (.iaload, 1) := by decide +kernel
theorem dX2_hasLow_19 : decode cX2_hasLow 19 = .ok (.iload_n 1, 1) := by decide +kernel
theorem dX2_hasLow_20 : decode cX2_hasLow 20 = .ok (.if_icmp .eq 14, 3) := by decide +kernel
theorem dX2_hasLow_23 : decode cX2_hasLow 23 = .ok (.aload_n 0, 1) := by decide +kernel
theorem dX2_hasLow_24 : decode cX2_hasLow 24 = .ok (.getfield 15, 3) := by decide +kernel
theorem dX2_hasLow_27 : decode cX2_hasLow 27 = .ok (.iload 5, 2) := by decide +kernel
theorem dX2_hasLow_29 : decode cX2_hasLow 29 = .ok (.iaload, 1) := by decide +kernel
theorem dX2_hasLow_30 : decode cX2_hasLow 30 = .ok (.iload_n 2, 1) := by decide +kernel
theorem dX2_hasLow_31 : decode cX2_hasLow 31 = .ok (.if_icmp .ne 7, 3) := by decide +kernel
theorem dX2_hasLow_34 : decode cX2_hasLow 34 = .ok (.iconst 1, 1) := by decide +kernel
theorem dX2_hasLow_35 : decode cX2_hasLow 35 = .ok (.goto 4, 3) := by decide +kernel
theorem dX2_hasLow_38 : decode cX2_hasLow 38 = .ok (.iconst 0, 1) := by decide +kernel
theorem dX2_hasLow_39 : decode cX2_hasLow 39 = .ok (.istore 6, 2) := by decide +kernel
theorem dX2_hasLow_41 : decode cX2_hasLow 41 = .ok (.aload_n 0, 1) := by decide +kernel
theorem dX2_hasLow_42 : decode cX2_hasLow 42 = .ok (.getfield 9, 3) := by decide +kernel
theorem dX2_hasLow_45 : decode cX2_hasLow 45 = .ok (.iload 5, 2) := by decide +kernel
theorem dX2_hasLow_47 : decode cX2_hasLow 47 = .ok (.iaload, 1) := by decide +kernel
theorem dX2_hasLow_48 : decode cX2_hasLow 48 = .ok (.iload_n 3, 1) := by decide +kernel
theorem dX2_hasLow_49 : decode cX2_hasLow 49 = .ok (.if_icmp .lt 21, 3) := by decide +kernel
theorem dX2_hasLow_52 : decode cX2_hasLow 52 = .ok (.aload_n 0, 1) := by decide +kernel
theorem dX2_hasLow_53 : decode cX2_hasLow 53 = .ok (.getfield 9, 3) := by decide +kernel
theorem dX2_hasLow_56 : decode cX2_hasLow 56 = .ok (.iload 5, 2) := by decide +kernel
theorem dX2_hasLow_58 : decode cX2_hasLow 58 = .ok (.iaload, 1) := by decide +kernel
theorem dX2_hasLow_59 : decode cX2_hasLow 59 = .ok (.iload_n 3, 1) := by decide +kernel
theorem dX2_hasLow_60 : decode cX2_hasLow 60 = .ok (.iload 4, 2) := by decide +kernel
theorem dX2_hasLow_62 : decode cX2_hasLow 62 = .ok (.iadd, 1) := by decide +kernel
theorem dX2_hasLow_63 : decode cX2_hasLow 63 = .ok (.if_icmp .ge 7, 3) := by decide +kernel
theorem dX2_hasLow_66 : decode cX2_hasLow 66 = .ok (.iconst 1, 1) := by decide +kernel
theorem dX2_hasLow_67 : decode cX2_hasLow 67 = .ok (.goto 4, 3) := by decide +kernel
theorem dX2_hasLow_70 : decode cX2_hasLow 70 = .ok (.iconst 0, 1) := by decide +kernel
theorem dX2_hasLow_71 : decode cX2_hasLow 71 = .ok (.istore 7, 2) := by decide +kernel
theorem dX2_hasLow_73 : decode cX2_hasLow 73 = .ok (.iload 6, 2) := by decide +kernel
theorem dX2_hasLow_75 : decode cX2_hasLow 75 = .ok (.ifCond .eq 21, 3) := by decide +kernel
theorem dX2_hasLow_78 : decode cX2_hasLow 78 = .ok (.iload 7, 2) := by decide +kernel
theorem dX2_hasLow_80 : decode cX2_hasLow 80 = .ok (.ifCond .eq 16, 3) := by decide +kernel
theorem dX2_hasLow_83 : decode cX2_hasLow 83 = .ok (.aload_n 0, 1) := by decide +kernel
theorem dX2_hasLow_84 : decode cX2_hasLow 84 = .ok (.getfield 18, 3) := by decide +kernel
theorem dX2_hasLow_87 : decode cX2_hasLow 87 = .ok (.iload 5, 2) := by decide +kernel
theorem dX2_hasLow_89 : decode cX2_hasLow 89 = .ok (.iaload, 1) := by decide +kernel
theorem dX2_hasLow_90 : decode cX2_hasLow 90 = .ok (.iconst 5, 1) := by decide +kernel
theorem dX2_hasLow_91 : decode cX2_hasLow 91 = .ok (.if_icmp .gt 5, 3) := by decide +kernel
theorem dX2_hasLow_94 : decode cX2_hasLow 94 = .ok (.iconst 1, 1) := by decide +kernel
theorem dX2_hasLow_95 : decode cX2_hasLow 95 = .ok (.ireturn, 1) := by decide +kernel
theorem dX2_hasLow_96 : decode cX2_hasLow 96 = .ok (.iinc 5 1, 3) := by decide +kernel
theorem dX2_hasLow_99 : decode cX2_hasLow 99 = .ok (.goto (-96), 3) := by decide +kernel
theorem dX2_hasLow_102 : decode cX2_hasLow 102 = .ok (.iconst 0, 1) := by decide +kernel
theorem dX2_hasLow_103 : decode cX2_hasLow 103 = .ok (.ireturn, 1) := by decide +kernel
def F_X2_hasLow_71 (rec : Int32 → Int32 → Int32 → Int32 → Int32 → Option Int32) (v1 : Int32) (v2 : Int32) (v3 : Int32) (v4 : Int32) (v5 : Int32) (v6 : Int32) (s0 : Int32) (M : eMem) : Option Int32 :=
  if v6 = 0 then
    rec v1 v2 v3 v4 (v5 + 1)
  else
    if s0 = 0 then
      rec v1 v2 v3 v4 (v5 + 1)
    else
      eG (eIn v5 30) <|
      if 5 < (M.1 26 v5.toNatClampNeg) then
        rec v1 v2 v3 v4 (v5 + 1)
      else
        some 1
set_option maxRecDepth 100000 in
set_option maxHeartbeats 4000000 in
theorem ev_X2_hasLow_71 (rec : Int32 → Int32 → Int32 → Int32 → Int32 → Option Int32) (q : Int32) (M : eMem) (hrec : ∀ (v1 : Int32) (v2 : Int32) (v3 : Int32) (v4 : Int32) (v5 : Int32), rec v1 v2 v3 v4 v5 = some q → Ev layC 0 m_X2_hasLow 3 [some (.ref 23), some (.int v1), some (.int v2), some (.int v3), some (.int v4), some (.int v5), none, none] [] M (some (.int q), M)) (v1 : Int32) (v2 : Int32) (v3 : Int32) (v4 : Int32) (v5 : Int32) (v6 : Int32) (s0 : Int32) (h : F_X2_hasLow_71 rec v1 v2 v3 v4 v5 v6 s0 M = some q) : Ev layC 0 m_X2_hasLow 71 [some (.ref 23), some (.int v1), some (.int v2), some (.int v3), some (.int v4), some (.int v5), some (.int v6), none] [.int s0] M (some (.int q), M) := by
  rw [F_X2_hasLow_71] at h
  refine Ev.istore (pc := 71) dX2_hasLow_71 (by decide) rfl rfl ?_
  refine Ev.iload (pc := 73) dX2_hasLow_73 rfl ?_
  refine Ev.if_eq (pc := 75) (tgt := 96) dX2_hasLow_75 (by decide) (fun c9 => ?_) (fun c9 => ?_)
  · have h := eT h c9
    refine Ev.iincv (pc := 96) dX2_hasLow_96 (v := 1) (by decide) rfl (by decide) rfl rfl ?_
    refine Ev.goto (pc := 99) (tgt := 3) dX2_hasLow_99 (by decide) ?_
    exact Ev.fg (hrec _ _ _ _ _ h) (And.intro rfl (And.intro rfl (And.intro rfl (And.intro rfl (And.intro rfl (And.intro rfl trivial))))))
  · have h := eF h c9
    refine Ev.iload (pc := 78) dX2_hasLow_78 rfl ?_
    refine Ev.if_eq (pc := 80) (tgt := 96) dX2_hasLow_80 (by decide) (fun c9 => ?_) (fun c9 => ?_)
    · have h := eT h c9
      refine Ev.iincv (pc := 96) dX2_hasLow_96 (v := 1) (by decide) rfl (by decide) rfl rfl ?_
      refine Ev.goto (pc := 99) (tgt := 3) dX2_hasLow_99 (by decide) ?_
      exact Ev.fg (hrec _ _ _ _ _ h) (And.intro rfl (And.intro rfl (And.intro rfl (And.intro rfl (And.intro rfl (And.intro rfl trivial))))))
    · have h := eF h c9
      refine Ev.aload_n (pc := 83) dX2_hasLow_83 rfl ?_
      refine Ev.getR (pc := 84) dX2_hasLow_84 fl_RX2_18 lC_23 rfl ?_
      refine Ev.iload (pc := 87) dX2_hasLow_87 rfl ?_
      obtain ⟨g9, h⟩ := eGdB h
      refine Ev.ialdj (pc := 89) dX2_hasLow_89 (j := v5.toNatClampNeg) lC_26 g9 rfl ?_
      refine Ev.iconst (pc := 90) dX2_hasLow_90 (v := 5) (by decide) ?_
      refine Ev.icmp_gt (pc := 91) (tgt := 96) dX2_hasLow_91 (by decide) (fun c9 => ?_) (fun c9 => ?_)
      · have h := eT h c9
        refine Ev.iincv (pc := 96) dX2_hasLow_96 (v := 1) (by decide) rfl (by decide) rfl rfl ?_
        refine Ev.goto (pc := 99) (tgt := 3) dX2_hasLow_99 (by decide) ?_
        exact Ev.fg (hrec _ _ _ _ _ h) (And.intro rfl (And.intro rfl (And.intro rfl (And.intro rfl (And.intro rfl (And.intro rfl trivial))))))
      · have h := eF h c9
        refine Ev.iconst (pc := 94) dX2_hasLow_94 (v := 1) (by decide) ?_
        obtain rfl := Option.some.inj h
        exact Ev.iret (pc := 95) dX2_hasLow_95 rfl rfl
def F_X2_hasLow_70 (rec : Int32 → Int32 → Int32 → Int32 → Int32 → Option Int32) (v1 : Int32) (v2 : Int32) (v3 : Int32) (v4 : Int32) (v5 : Int32) (v6 : Int32) (M : eMem) : Option Int32 :=
  F_X2_hasLow_71 (fun v1 v2 v3 v4 v5 => rec v1 v2 v3 v4 v5) v1 v2 v3 v4 v5 v6 0 M
set_option maxRecDepth 100000 in
set_option maxHeartbeats 4000000 in
theorem ev_X2_hasLow_70 (rec : Int32 → Int32 → Int32 → Int32 → Int32 → Option Int32) (q : Int32) (M : eMem) (hrec : ∀ (v1 : Int32) (v2 : Int32) (v3 : Int32) (v4 : Int32) (v5 : Int32), rec v1 v2 v3 v4 v5 = some q → Ev layC 0 m_X2_hasLow 3 [some (.ref 23), some (.int v1), some (.int v2), some (.int v3), some (.int v4), some (.int v5), none, none] [] M (some (.int q), M)) (v1 : Int32) (v2 : Int32) (v3 : Int32) (v4 : Int32) (v5 : Int32) (v6 : Int32) (h : F_X2_hasLow_70 rec v1 v2 v3 v4 v5 v6 M = some q) : Ev layC 0 m_X2_hasLow 70 [some (.ref 23), some (.int v1), some (.int v2), some (.int v3), some (.int v4), some (.int v5), some (.int v6), none] [] M (some (.int q), M) := by
  rw [F_X2_hasLow_70] at h
  refine Ev.iconst (pc := 70) dX2_hasLow_70 (v := 0) (by decide) ?_
  exact Ev.fg (ev_X2_hasLow_71 _ _ _ hrec _ _ _ _ _ _ _ h) (And.intro rfl (And.intro rfl (And.intro rfl (And.intro rfl (And.intro rfl (And.intro rfl (And.intro rfl trivial)))))))
def F_X2_hasLow_39 (rec : Int32 → Int32 → Int32 → Int32 → Int32 → Option Int32) (v1 : Int32) (v2 : Int32) (v3 : Int32) (v4 : Int32) (v5 : Int32) (s0 : Int32) (M : eMem) : Option Int32 :=
  eG (eIn v5 30) <|
  if (M.1 24 v5.toNatClampNeg) < v3 then
    F_X2_hasLow_70 (fun v1 v2 v3 v4 v5 => rec v1 v2 v3 v4 v5) v1 v2 v3 v4 v5 s0 M
  else
    eG (eIn v5 30) <|
    if (M.1 24 v5.toNatClampNeg) < (v3 + v4) then
      F_X2_hasLow_71 (fun v1 v2 v3 v4 v5 => rec v1 v2 v3 v4 v5) v1 v2 v3 v4 v5 s0 1 M
    else
      F_X2_hasLow_70 (fun v1 v2 v3 v4 v5 => rec v1 v2 v3 v4 v5) v1 v2 v3 v4 v5 s0 M
set_option maxRecDepth 100000 in
set_option maxHeartbeats 4000000 in
theorem ev_X2_hasLow_39 (rec : Int32 → Int32 → Int32 → Int32 → Int32 → Option Int32) (q : Int32) (M : eMem) (hrec : ∀ (v1 : Int32) (v2 : Int32) (v3 : Int32) (v4 : Int32) (v5 : Int32), rec v1 v2 v3 v4 v5 = some q → Ev layC 0 m_X2_hasLow 3 [some (.ref 23), some (.int v1), some (.int v2), some (.int v3), some (.int v4), some (.int v5), none, none] [] M (some (.int q), M)) (v1 : Int32) (v2 : Int32) (v3 : Int32) (v4 : Int32) (v5 : Int32) (s0 : Int32) (h : F_X2_hasLow_39 rec v1 v2 v3 v4 v5 s0 M = some q) : Ev layC 0 m_X2_hasLow 39 [some (.ref 23), some (.int v1), some (.int v2), some (.int v3), some (.int v4), some (.int v5), none, none] [.int s0] M (some (.int q), M) := by
  rw [F_X2_hasLow_39] at h
  refine Ev.istore (pc := 39) dX2_hasLow_39 (by decide) rfl rfl ?_
  refine Ev.aload_n (pc := 41) dX2_hasLow_41 rfl ?_
  refine Ev.getR (pc := 42) dX2_hasLow_42 fl_RX2_9 lC_23 rfl ?_
  refine Ev.iload (pc := 45) dX2_hasLow_45 rfl ?_
  obtain ⟨g9, h⟩ := eGdB h
  refine Ev.ialdj (pc := 47) dX2_hasLow_47 (j := v5.toNatClampNeg) lC_24 g9 rfl ?_
  refine Ev.iload_n (pc := 48) dX2_hasLow_48 rfl ?_
  refine Ev.icmp_lt (pc := 49) (tgt := 70) dX2_hasLow_49 (by decide) (fun c9 => ?_) (fun c9 => ?_)
  · have h := eT h c9
    exact Ev.fg (ev_X2_hasLow_70 _ _ _ hrec _ _ _ _ _ _ h) (And.intro rfl (And.intro rfl (And.intro rfl (And.intro rfl (And.intro rfl (And.intro rfl (And.intro rfl trivial)))))))
  · have h := eF h c9
    refine Ev.aload_n (pc := 52) dX2_hasLow_52 rfl ?_
    refine Ev.getR (pc := 53) dX2_hasLow_53 fl_RX2_9 lC_23 rfl ?_
    refine Ev.iload (pc := 56) dX2_hasLow_56 rfl ?_
    obtain ⟨g9, h⟩ := eGdB h
    refine Ev.ialdj (pc := 58) dX2_hasLow_58 (j := v5.toNatClampNeg) lC_24 g9 rfl ?_
    refine Ev.iload_n (pc := 59) dX2_hasLow_59 rfl ?_
    refine Ev.iload (pc := 60) dX2_hasLow_60 rfl ?_
    refine Ev.iadd (pc := 62) dX2_hasLow_62 ?_
    refine Ev.icmp_ge (pc := 63) (tgt := 70) dX2_hasLow_63 (by decide) (fun c9 => ?_) (fun c9 => ?_)
    · have h := eF h c9
      exact Ev.fg (ev_X2_hasLow_70 _ _ _ hrec _ _ _ _ _ _ h) (And.intro rfl (And.intro rfl (And.intro rfl (And.intro rfl (And.intro rfl (And.intro rfl (And.intro rfl trivial)))))))
    · have h := eT h c9
      refine Ev.iconst (pc := 66) dX2_hasLow_66 (v := 1) (by decide) ?_
      refine Ev.goto (pc := 67) (tgt := 71) dX2_hasLow_67 (by decide) ?_
      exact Ev.fg (ev_X2_hasLow_71 _ _ _ hrec _ _ _ _ _ _ _ h) (And.intro rfl (And.intro rfl (And.intro rfl (And.intro rfl (And.intro rfl (And.intro rfl (And.intro rfl trivial)))))))
def F_X2_hasLow_34 (rec : Int32 → Int32 → Int32 → Int32 → Int32 → Option Int32) (v1 : Int32) (v2 : Int32) (v3 : Int32) (v4 : Int32) (v5 : Int32) (M : eMem) : Option Int32 :=
  F_X2_hasLow_39 (fun v1 v2 v3 v4 v5 => rec v1 v2 v3 v4 v5) v1 v2 v3 v4 v5 1 M
set_option maxRecDepth 100000 in
set_option maxHeartbeats 4000000 in
theorem ev_X2_hasLow_34 (rec : Int32 → Int32 → Int32 → Int32 → Int32 → Option Int32) (q : Int32) (M : eMem) (hrec : ∀ (v1 : Int32) (v2 : Int32) (v3 : Int32) (v4 : Int32) (v5 : Int32), rec v1 v2 v3 v4 v5 = some q → Ev layC 0 m_X2_hasLow 3 [some (.ref 23), some (.int v1), some (.int v2), some (.int v3), some (.int v4), some (.int v5), none, none] [] M (some (.int q), M)) (v1 : Int32) (v2 : Int32) (v3 : Int32) (v4 : Int32) (v5 : Int32) (h : F_X2_hasLow_34 rec v1 v2 v3 v4 v5 M = some q) : Ev layC 0 m_X2_hasLow 34 [some (.ref 23), some (.int v1), some (.int v2), some (.int v3), some (.int v4), some (.int v5), none, none] [] M (some (.int q), M) := by
  rw [F_X2_hasLow_34] at h
  refine Ev.iconst (pc := 34) dX2_hasLow_34 (v := 1) (by decide) ?_
  refine Ev.goto (pc := 35) (tgt := 39) dX2_hasLow_35 (by decide) ?_
  exact Ev.fg (ev_X2_hasLow_39 _ _ _ hrec _ _ _ _ _ _ h) (And.intro rfl (And.intro rfl (And.intro rfl (And.intro rfl (And.intro rfl (And.intro rfl trivial))))))
def F_X2_hasLow_3  : Nat → eMem → Int32 → Int32 → Int32 → Int32 → Int32 → Option Int32
  | 0, _, _, _, _, _, _ => none
  | n + 1, M, v1, v2, v3, v4, v5 =>
    if v5 < (M.1 23 4) then
      eG (eIn v5 30) <|
      if (M.1 25 v5.toNatClampNeg) = v1 then
        F_X2_hasLow_34 (fun v1 v2 v3 v4 v5 => F_X2_hasLow_3 n M v1 v2 v3 v4 v5) v1 v2 v3 v4 v5 M
      else
        eG (eIn v5 30) <|
        if (M.1 25 v5.toNatClampNeg) = v2 then
          F_X2_hasLow_34 (fun v1 v2 v3 v4 v5 => F_X2_hasLow_3 n M v1 v2 v3 v4 v5) v1 v2 v3 v4 v5 M
        else
          F_X2_hasLow_39 (fun v1 v2 v3 v4 v5 => F_X2_hasLow_3 n M v1 v2 v3 v4 v5) v1 v2 v3 v4 v5 0 M
    else
      some 0
set_option maxRecDepth 100000 in
set_option maxHeartbeats 4000000 in
theorem ev_X2_hasLow_3  (q : Int32) (M : eMem)  : ∀ (fuel : Nat) (v1 : Int32) (v2 : Int32) (v3 : Int32) (v4 : Int32) (v5 : Int32), F_X2_hasLow_3 fuel M v1 v2 v3 v4 v5 = some q → Ev layC 0 m_X2_hasLow 3 [some (.ref 23), some (.int v1), some (.int v2), some (.int v3), some (.int v4), some (.int v5), none, none] [] M (some (.int q), M) := by
  intro fuel
  induction fuel with
  | zero => intro v1 v2 v3 v4 v5 h; rw [F_X2_hasLow_3] at h; cases h
  | succ n ih =>
    intro v1 v2 v3 v4 v5 h
    rw [F_X2_hasLow_3] at h
    refine Ev.iload (pc := 3) dX2_hasLow_3 rfl ?_
    refine Ev.aload_n (pc := 5) dX2_hasLow_5 rfl ?_
    refine Ev.getI (pc := 6) dX2_hasLow_6 fl_RX2_27 lC_23 rfl ?_
    refine Ev.icmp_ge (pc := 9) (tgt := 102) dX2_hasLow_9 (by decide) (fun c9 => ?_) (fun c9 => ?_)
    · have h := eF h c9
      refine Ev.iconst (pc := 102) dX2_hasLow_102 (v := 0) (by decide) ?_
      obtain rfl := Option.some.inj h
      exact Ev.iret (pc := 103) dX2_hasLow_103 rfl rfl
    · have h := eT h c9
      refine Ev.aload_n (pc := 12) dX2_hasLow_12 rfl ?_
      refine Ev.getR (pc := 13) dX2_hasLow_13 fl_RX2_15 lC_23 rfl ?_
      refine Ev.iload (pc := 16) dX2_hasLow_16 rfl ?_
      obtain ⟨g9, h⟩ := eGdB h
      refine Ev.ialdj (pc := 18) dX2_hasLow_18 (j := v5.toNatClampNeg) lC_25 g9 rfl ?_
      refine Ev.iload_n (pc := 19) dX2_hasLow_19 rfl ?_
      refine Ev.icmp_eq (pc := 20) (tgt := 34) dX2_hasLow_20 (by decide) (fun c9 => ?_) (fun c9 => ?_)
      · have h := eT h c9
        exact Ev.fg (ev_X2_hasLow_34 _ _ _ ih _ _ _ _ _ h) (And.intro rfl (And.intro rfl (And.intro rfl (And.intro rfl (And.intro rfl (And.intro rfl trivial))))))
      · have h := eF h c9
        refine Ev.aload_n (pc := 23) dX2_hasLow_23 rfl ?_
        refine Ev.getR (pc := 24) dX2_hasLow_24 fl_RX2_15 lC_23 rfl ?_
        refine Ev.iload (pc := 27) dX2_hasLow_27 rfl ?_
        obtain ⟨g9, h⟩ := eGdB h
        refine Ev.ialdj (pc := 29) dX2_hasLow_29 (j := v5.toNatClampNeg) lC_25 g9 rfl ?_
        refine Ev.iload_n (pc := 30) dX2_hasLow_30 rfl ?_
        refine Ev.icmp_ne (pc := 31) (tgt := 38) dX2_hasLow_31 (by decide) (fun c9 => ?_) (fun c9 => ?_)
        · have h := eF h c9
          refine Ev.iconst (pc := 38) dX2_hasLow_38 (v := 0) (by decide) ?_
          exact Ev.fg (ev_X2_hasLow_39 _ _ _ ih _ _ _ _ _ _ h) (And.intro rfl (And.intro rfl (And.intro rfl (And.intro rfl (And.intro rfl (And.intro rfl trivial))))))
        · have h := eT h c9
          exact Ev.fg (ev_X2_hasLow_34 _ _ _ ih _ _ _ _ _ h) (And.intro rfl (And.intro rfl (And.intro rfl (And.intro rfl (And.intro rfl (And.intro rfl trivial))))))
def F_X2_hasLow (x1 : Int32) (x2 : Int32) (x3 : Int32) (x4 : Int32) (M : eMem) : Option Int32 :=
  F_X2_hasLow_3 eFuel M x1 x2 x3 x4 0
set_option maxRecDepth 100000 in
set_option maxHeartbeats 4000000 in
theorem ev_X2_hasLow (x1 : Int32) (x2 : Int32) (x3 : Int32) (x4 : Int32) (M : eMem) (q : Int32) (h : F_X2_hasLow x1 x2 x3 x4 M = some q) : Ev layC 0 m_X2_hasLow 0 [some (.ref 23), some (.int x1), some (.int x2), some (.int x3), some (.int x4), none, none, none] [] M (some (.int q), M) := by
  rw [F_X2_hasLow] at h
  refine Ev.iconst (pc := 0) dX2_hasLow_0 (v := 0) (by decide) ?_
  refine Ev.istore (pc := 1) dX2_hasLow_1 (by decide) rfl rfl ?_
  exact Ev.fg (ev_X2_hasLow_3 _ _ _ _ _ _ _ _ h) (And.intro rfl (And.intro rfl (And.intro rfl (And.intro rfl (And.intro rfl (And.intro rfl trivial))))))
