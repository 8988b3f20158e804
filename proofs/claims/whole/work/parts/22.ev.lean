theorem dX8_closeDay_0 : decode cX8_closeDay 0 = .ok (.aload_n 0, 1) := by decide +kernel
theorem dX8_closeDay_1 : decode cX8_closeDay 1 = .ok (.getfield 12, 3) := by decide +kernel
theorem dX8_closeDay_4 : decode cX8_closeDay 4 = .ok (.aload_n 0, 1) := by decide +kernel
theorem dX8_closeDay_5 : decode cX8_closeDay 5 = .ok (.getfield 21, 3) := by decide +kernel
theorem dX8_closeDay_8 : decode cX8_closeDay 8 = .ok (.aload_n 0, 1) := by decide +kernel
theorem dX8_closeDay_9 : decode cX8_closeDay 9 = .ok (.getfield 12, 3) := by decide +kernel
theorem dX8_closeDay_12 : decode cX8_closeDay 12 = .ok (.getfield 287, 3) := by decide +kernel
theorem dX8_closeDay_15 : decode cX8_closeDay 15 = .ok (.invokevirtual 290, 3) := by decide +kernel
theorem dX8_closeDay_18 : decode cX8_closeDay 18 = .ok (.putfield 287, 3) := by decide +kernel
theorem dX8_closeDay_21 : decode cX8_closeDay 21 = .ok (.aload_n 0, 1) := by decide +kernel
theorem dX8_closeDay_22 : decode cX8_closeDay 22 = .ok (.getfield 12, 3) := by decide +kernel
theorem dX8_closeDay_25 : decode cX8_closeDay 25 = .ok (.getfield 85, 3) := by decide +kernel
theorem dX8_closeDay_28 : decode cX8_closeDay 28 = .ok (.bipush 24, 2) := by decide +kernel
theorem dX8_closeDay_30 : decode cX8_closeDay 30 = .ok (.idiv, 1) := by decide +kernel
theorem dX8_closeDay_31 : decode cX8_closeDay 31 = .ok (.istore_n 1, 1) := by decide +kernel
theorem dX8_closeDay_32 : decode cX8_closeDay 32 = .ok (.iload_n 1, 1) := by decide +kernel
theorem dX8_closeDay_33 : decode cX8_closeDay 33 = .ok (.bipush 81, 2) := by decide +kernel
theorem dX8_closeDay_35 : decode cX8_closeDay 35 = .ok (.invokestatic 162, 3) := by decide +kernel
theorem dX8_closeDay_38 : decode cX8_closeDay 38 = .ok (.ifCond .ne 4, 3) := by decide +kernel
theorem dX8_closeDay_41 : decode cX8_closeDay 41 = .ok (.return_, 1) := by decide +kernel
theorem dX8_closeDay_42 : decode cX8_closeDay 42 = .ok (.bipush 6, 2) := by decide +kernel
theorem dX8_closeDay_44 : decode cX8_closeDay 44 = .ok (.iload_n 1, 1) := by decide +kernel
theorem dX8_closeDay_45 : decode cX8_closeDay 45 = .ok (.imul, 1) := by decide +kernel
theorem dX8_closeDay_46 : decode cX8_closeDay 46 = .ok (.istore_n 2, 1) := by decide +kernel
theorem dX8_closeDay_47 : decode cX8_closeDay 47 = .ok (.aload_n 0, 1) := by decide +kernel
theorem dX8_closeDay_48 : decode cX8_closeDay 48 = .ok (.getfield 46, 3) := by decide +kernel
theorem dX8_closeDay_51 : decode cX8_closeDay 51 = .ok (.iload_n 2, 1) := by decide +kernel
theorem dX8_closeDay_52 : decode cX8_closeDay 52 = .ok (.aload_n 0, 1) := by decide +kernel
theorem dX8_closeDay_53 : decode cX8_closeDay 53 = .ok (.getfield 12, 3) := by decide +kernel
theorem dX8_closeDay_56 : decode cX8_closeDay 56 = .ok (.getfield 293, 3) := by decide +kernel
theorem dX8_closeDay_59 : decode cX8_closeDay 59 = .ok (.iastore, 1) := by decide +kernel
theorem dX8_closeDay_60 : decode cX8_closeDay 60 = .ok (.aload_n 0, 1) := by decide +kernel
theorem dX8_closeDay_61 : decode cX8_closeDay 61 = .ok (.getfield 46, 3) := by decide +kernel
theorem dX8_closeDay_64 : decode cX8_closeDay 64 = .ok (.iload_n 2, 1) := by decide +kernel
theorem dX8_closeDay_65 : decode cX8_closeDay 65 = .ok (.iconst 1, 1) := by decide +kernel
theorem dX8_closeDay_66 : decode cX8_closeDay 66 = .ok (.iadd, 1) := by decide +kernel
theorem dX8_closeDay_67 : decode cX8_closeDay 67 = .ok (.aload_n 0, 1) := by decide +kernel
theorem dX8_closeDay_68 : decode cX8_closeDay 68 = .ok (.getfield 21, 3) := by decide +kernel
theorem dX8_closeDay_71 : decode cX8_closeDay 71 = .ok (.invokevirtual 296, 3) := by decide +kernel
theorem dX8_closeDay_74 : decode cX8_closeDay 74 = .ok (.iastore, 1) := by decide +kernel
theorem dX8_closeDay_75 : decode cX8_closeDay 75 = .ok (.aload_n 0, 1) := by decide +kernel
theorem dX8_closeDay_76 : decode cX8_closeDay 76 = .ok (.getfield 46, 3) := by decide +kernel
theorem dX8_closeDay_79 : decode cX8_closeDay 79 = .ok (.iload_n 2, 1) := by decide +kernel
theorem dX8_closeDay_80 : decode cX8_closeDay 80 = .ok (.iconst 2, 1) := by decide +kernel
theorem dX8_closeDay_81 : decode cX8_closeDay 81 = .ok (.iadd, 1) := by decide +kernel
theorem dX8_closeDay_82 : decode cX8_closeDay 82 = .ok (.aload_n 0, 1) := by decide +kernel
theorem dX8_closeDay_83 : decode cX8_closeDay 83 = .ok (.getfield 12, 3) := by decide +kernel
theorem dX8_closeDay_86 : decode cX8_closeDay 86 = .ok (.getfield 287, 3) := by decide +kernel
theorem dX8_closeDay_89 : decode cX8_closeDay 89 = .ok (.iastore, 1) := by decide +kernel
theorem dX8_closeDay_90 : decode cX8_closeDay 90 = .ok (.aload_n 0, 1) := by decide +kernel
theorem dX8_closeDay_91 : decode cX8_closeDay 91 = .ok (.getfield 46, 3) := by decide +kernel
theorem dX8_closeDay_94 : decode cX8_closeDay 94 = .ok (.iload_n 2, 1) := by decide +kernel
theorem dX8_closeDay_95 : decode cX8_closeDay 95 = .ok (.iconst 3, 1) := by decide +kernel
theorem dX8_closeDay_96 : decode cX8_closeDay 96 = .ok (.iadd, 1) := by decide +kernel
theorem dX8_closeDay_97 : decode cX8_closeDay 97 = .ok (.aload_n 0, 1) := by decide +kernel
theorem dX8_closeDay_98 : decode cX8_closeDay 98 = .ok (.getfield 21, 3) := by decide +kernel
theorem dX8_closeDay_101 : decode cX8_closeDay 101 = .ok (.invokevirtual 299, 3) := by decide +kernel
theorem dX8_closeDay_104 : decode cX8_closeDay 104 = .ok (.iastore, 1) := by decide +kernel
theorem dX8_closeDay_105 : decode cX8_closeDay 105 = .ok (.aload_n 0, 1) := by decide +kernel
theorem dX8_closeDay_106 : decode cX8_closeDay 106 = .ok (.getfield 46, 3) := by decide +kernel
theorem dX8_closeDay_109 : decode cX8_closeDay 109 = .ok (.iload_n 2, 1) := by decide +kernel
theorem dX8_closeDay_110 : decode cX8_closeDay 110 = .ok (.iconst 4, 1) := by decide +kernel
theorem dX8_closeDay_111 : decode cX8_closeDay 111 = .ok (.iadd, 1) := by decide +kernel
theorem dX8_closeDay_112 : decode cX8_closeDay 112 = .ok (.aload_n 0, 1) := by decide +kernel
theorem dX8_closeDay_113 : decode cX8_closeDay 113 = .ok (.getfield 35, 3) := by decide +kernel
theorem dX8_closeDay_116 : decode cX8_closeDay 116 = .ok (.aload_n 0, 1) := by decide +kernel
theorem dX8_closeDay_117 : decode cX8_closeDay 117 = .ok (.getfield 12, 3) := by decide +kernel
theorem dX8_closeDay_120 : decode cX8_closeDay 120 = .ok (.getfield 85, 3) := by decide +kernel
theorem dX8_closeDay_123 : decode cX8_closeDay 123 = .ok (.invokevirtual 302, 3) := by decide +kernel
theorem dX8_closeDay_126 : decode cX8_closeDay 126 = .ok (.iastore, 1) := by decide +kernel
theorem dX8_closeDay_127 : decode cX8_closeDay 127 = .ok (.aload_n 0, 1) := by decide +kernel
theorem dX8_closeDay_128 : decode cX8_closeDay 128 = .ok (.getfield 56, 3) := by decide +kernel
theorem dX8_closeDay_131 : decode cX8_closeDay 131 = .ok (.aload_n 0, 1) := by decide +kernel
theorem dX8_closeDay_132 : decode cX8_closeDay 132 = .ok (.getfield 35, 3) := by decide +kernel
theorem dX8_closeDay_135 : decode cX8_closeDay 135 = .ok (.aload_n 0, 1) := by decide +kernel
theorem dX8_closeDay_136 : decode cX8_closeDay 136 = .ok (.getfield 21, 3) := by decide +kernel
theorem dX8_closeDay_139 : decode cX8_closeDay 139 = .ok (.aload_n 0, 1) := by decide +kernel
theorem dX8_closeDay_140 : decode cX8_closeDay 140 = .ok (.getfield 12, 3) := by decide +kernel
theorem dX8_closeDay_143 : decode cX8_closeDay 143 = .ok (.getfield 85, 3) := by decide +kernel
theorem dX8_closeDay_146 : decode cX8_closeDay 146 = .ok (.invokevirtual 150, 3) := by decide +kernel
theorem dX8_closeDay_149 : decode cX8_closeDay 149 = .ok (.aload_n 0, 1) := by decide +kernel
theorem dX8_closeDay_150 : decode cX8_closeDay 150 = .ok (.getfield 46, 3) := by decide +kernel
theorem dX8_closeDay_153 : decode cX8_closeDay 153 = .ok (.iload_n 2, 1) := by decide +kernel
theorem dX8_closeDay_154 : decode cX8_closeDay 154 = .ok (.iconst 5, 1) := by decide +kernel
theorem dX8_closeDay_155 : decode cX8_closeDay 155 = .ok (.iadd, 1) := by decide +kernel
theorem dX8_closeDay_156 : decode cX8_closeDay 156 = .ok (.aload_n 0, 1) := by decide +kernel
theorem dX8_closeDay_157 : decode cX8_closeDay 157 = .ok (.getfield 56, 3) := by decide +kernel
theorem dX8_closeDay_160 : decode cX8_closeDay 160 = .ok (.invokevirtual 203, 3) := by decide +kernel
theorem dX8_closeDay_163 : decode cX8_closeDay 163 = .ok (.iastore, 1) := by decide +kernel
theorem dX8_closeDay_164 : decode cX8_closeDay 164 = .ok (.return_, 1) := by decide +kernel
def F_X8_closeDay  (M : eMem) : Option eMem :=
  (F_X5_pay (M.1 2 15) M).bind fun q1 =>
  (F_X9_isIn ((q1.2.1 2 11) / 24) 81).bind fun q2 =>
  if q2 = 0 then
    some (eI q1.2 2 15 q1.1)
  else
    eG (eIn (6 * ((q1.2.1 2 11) / 24)) 486) <|
    (F_X5_handsOfAll (eI (eI q1.2 2 15 q1.1) 53 (6 * ((q1.2.1 2 11) / 24)).toNatClampNeg (q1.2.1 2 14))).bind fun q3 =>
    eG (eIn ((6 * ((q1.2.1 2 11) / 24)) + 1) 486) <|
    eG (eIn ((6 * ((q1.2.1 2 11) / 24)) + 2) 486) <|
    (F_X5_standing (eI (eI (eI (eI q1.2 2 15 q1.1) 53 (6 * ((q1.2.1 2 11) / 24)).toNatClampNeg (q1.2.1 2 14)) 53 ((6 * ((q1.2.1 2 11) / 24)) + 1).toNatClampNeg q3) 53 ((6 * ((q1.2.1 2 11) / 24)) + 2).toNatClampNeg q1.1)).bind fun q4 =>
    eG (eIn ((6 * ((q1.2.1 2 11) / 24)) + 3) 486) <|
    (F_X1_knownBy (q1.2.1 2 11) (eI (eI (eI (eI (eI q1.2 2 15 q1.1) 53 (6 * ((q1.2.1 2 11) / 24)).toNatClampNeg (q1.2.1 2 14)) 53 ((6 * ((q1.2.1 2 11) / 24)) + 1).toNatClampNeg q3) 53 ((6 * ((q1.2.1 2 11) / 24)) + 2).toNatClampNeg q1.1) 53 ((6 * ((q1.2.1 2 11) / 24)) + 3).toNatClampNeg q4)).bind fun q5 =>
    eG (eIn ((6 * ((q1.2.1 2 11) / 24)) + 4) 486) <|
    (F_X3_load (q1.2.1 2 11) (eI (eI (eI (eI (eI (eI q1.2 2 15 q1.1) 53 (6 * ((q1.2.1 2 11) / 24)).toNatClampNeg (q1.2.1 2 14)) 53 ((6 * ((q1.2.1 2 11) / 24)) + 1).toNatClampNeg q3) 53 ((6 * ((q1.2.1 2 11) / 24)) + 2).toNatClampNeg q1.1) 53 ((6 * ((q1.2.1 2 11) / 24)) + 3).toNatClampNeg q4) 53 ((6 * ((q1.2.1 2 11) / 24)) + 4).toNatClampNeg q5)).bind fun q6 =>
    (F_X3_heaviest q6).bind fun q7 =>
    eG (eIn ((6 * ((q1.2.1 2 11) / 24)) + 5) 486) <|
    some (eI q6 53 ((6 * ((q1.2.1 2 11) / 24)) + 5).toNatClampNeg q7)
set_option maxRecDepth 100000 in
set_option maxHeartbeats 4000000 in
theorem ev_X8_closeDay  (M : eMem) (q : eMem) (h : F_X8_closeDay  M = some q) : Ev layC 4 m_X8_closeDay 0 [some (.ref 1), none, none] [] M (none, q) := by
  rw [F_X8_closeDay] at h
  refine Ev.aload_n (pc := 0) dX8_closeDay_0 rfl ?_
  refine Ev.getR (pc := 1) dX8_closeDay_1 fl_RX8_12 lC_1 rfl ?_
  refine Ev.aload_n (pc := 4) dX8_closeDay_4 rfl ?_
  refine Ev.getR (pc := 5) dX8_closeDay_5 fl_RX8_21 lC_1 rfl ?_
  refine Ev.aload_n (pc := 8) dX8_closeDay_8 rfl ?_
  refine Ev.getR (pc := 9) dX8_closeDay_9 fl_RX8_12 lC_1 rfl ?_
  refine Ev.getI (pc := 12) dX8_closeDay_12 fl_RX8_287 lC_2 rfl ?_
  refine eBk h (fun q1 hq1 h => ?_)
  refine Ev.callV (pc := 15) (as := [.int (M.1 2 15)]) (st := [.ref 2]) (z := 2) dX8_closeDay_15 wc_X5_pay ml_RX8_290 im_X5_pay se_X5_pay lC_12 rfl rfl (ev_X5_pay (M.1 2 15) M _ hq1) rfl rfl (by decide) rfl rfl (Nat.le_of_ble_eq_true rfl) ?_
  refine Ev.putI (pc := 18) dX8_closeDay_18 fp_RX8_287 lC_2 rfl rfl rfl ?_
  refine Ev.aload_n (pc := 21) dX8_closeDay_21 rfl ?_
  refine Ev.getR (pc := 22) dX8_closeDay_22 fl_RX8_12 lC_1 rfl ?_
  refine Ev.getIv (pc := 25) dX8_closeDay_25 (v := (q1.2.1 2 11)) fl_RX8_85 lC_2 rfl (eI_m (by decide)) ?_
  refine Ev.bipush (pc := 28) dX8_closeDay_28 (v := 24) (by decide) ?_
  refine Ev.idiv (pc := 30) dX8_closeDay_30 (by decide) ?_
  refine Ev.istore_n (pc := 31) dX8_closeDay_31 (by decide) rfl rfl ?_
  refine Ev.iload_n (pc := 32) dX8_closeDay_32 rfl ?_
  refine Ev.bipush (pc := 33) dX8_closeDay_33 (v := 81) (by decide) ?_
  refine eBk h (fun q2 hq2 h => ?_)
  refine Ev.callSN (host := "GhostCoast") (pc := 35) (as := [.int ((q1.2.1 2 11) / 24), .int 81]) (st := []) (z := 0) dX8_closeDay_35 wc_X9_isIn mn_RX8_162 sm_X9_isIn (ev_X9_isIn ((q1.2.1 2 11) / 24) 81 (eI q1.2 2 15 q1.1) _ hq2) rfl rfl (by decide) rfl rfl (Nat.le_of_ble_eq_true rfl) ?_
  refine Ev.if_ne (pc := 38) (tgt := 42) dX8_closeDay_38 (by decide) (fun c9 => ?_) (fun c9 => ?_)
  · have h := eF h c9
    refine Ev.bipush (pc := 42) dX8_closeDay_42 (v := 6) (by decide) ?_
    refine Ev.iload_n (pc := 44) dX8_closeDay_44 rfl ?_
    refine Ev.imul (pc := 45) dX8_closeDay_45 ?_
    refine Ev.istore_n (pc := 46) dX8_closeDay_46 (by decide) rfl rfl ?_
    refine Ev.aload_n (pc := 47) dX8_closeDay_47 rfl ?_
    refine Ev.getR (pc := 48) dX8_closeDay_48 fl_RX8_46 lC_1 rfl ?_
    refine Ev.iload_n (pc := 51) dX8_closeDay_51 rfl ?_
    refine Ev.aload_n (pc := 52) dX8_closeDay_52 rfl ?_
    refine Ev.getR (pc := 53) dX8_closeDay_53 fl_RX8_12 lC_1 rfl ?_
    refine Ev.getIv (pc := 56) dX8_closeDay_56 (v := (q1.2.1 2 14)) fl_RX8_293 lC_2 rfl (eI_m (by decide)) ?_
    obtain ⟨g9, h⟩ := eGdB h
    refine Ev.iastj (pc := 59) dX8_closeDay_59 (j := (6 * ((q1.2.1 2 11) / 24)).toNatClampNeg) lC_53 g9 rfl ?_
    refine Ev.aload_n (pc := 60) dX8_closeDay_60 rfl ?_
    refine Ev.getR (pc := 61) dX8_closeDay_61 fl_RX8_46 lC_1 rfl ?_
    refine Ev.iload_n (pc := 64) dX8_closeDay_64 rfl ?_
    refine Ev.iconst (pc := 65) dX8_closeDay_65 (v := 1) (by decide) ?_
    refine Ev.iadd (pc := 66) dX8_closeDay_66 ?_
    refine Ev.aload_n (pc := 67) dX8_closeDay_67 rfl ?_
    refine Ev.getR (pc := 68) dX8_closeDay_68 fl_RX8_21 lC_1 rfl ?_
    refine eBk h (fun q3 hq3 h => ?_)
    refine Ev.callV (pc := 71) (as := []) (st := [.int ((6 * ((q1.2.1 2 11) / 24)) + 1), .ref 53]) (z := 2) dX8_closeDay_71 wc_X5_handsOfAll ml_RX8_296 im_X5_handsOfAll se_X5_handsOfAll lC_12 rfl rfl (ev_X5_handsOfAll  (eI (eI q1.2 2 15 q1.1) 53 (6 * ((q1.2.1 2 11) / 24)).toNatClampNeg (q1.2.1 2 14)) _ hq3) rfl rfl (by decide) rfl rfl (Nat.le_of_ble_eq_true rfl) ?_
    obtain ⟨g9, h⟩ := eGdB h
    refine Ev.iastj (pc := 74) dX8_closeDay_74 (j := ((6 * ((q1.2.1 2 11) / 24)) + 1).toNatClampNeg) lC_53 g9 rfl ?_
    refine Ev.aload_n (pc := 75) dX8_closeDay_75 rfl ?_
    refine Ev.getR (pc := 76) dX8_closeDay_76 fl_RX8_46 lC_1 rfl ?_
    refine Ev.iload_n (pc := 79) dX8_closeDay_79 rfl ?_
    refine Ev.iconst (pc := 80) dX8_closeDay_80 (v := 2) (by decide) ?_
    refine Ev.iadd (pc := 81) dX8_closeDay_81 ?_
    refine Ev.aload_n (pc := 82) dX8_closeDay_82 rfl ?_
    refine Ev.getR (pc := 83) dX8_closeDay_83 fl_RX8_12 lC_1 rfl ?_
    refine Ev.getIv (pc := 86) dX8_closeDay_86 (v := q1.1) fl_RX8_287 lC_2 rfl ((eI_n (by decide)).trans ((eI_n (by decide)).trans eI_e)) ?_
    obtain ⟨g9, h⟩ := eGdB h
    refine Ev.iastj (pc := 89) dX8_closeDay_89 (j := ((6 * ((q1.2.1 2 11) / 24)) + 2).toNatClampNeg) lC_53 g9 rfl ?_
    refine Ev.aload_n (pc := 90) dX8_closeDay_90 rfl ?_
    refine Ev.getR (pc := 91) dX8_closeDay_91 fl_RX8_46 lC_1 rfl ?_
    refine Ev.iload_n (pc := 94) dX8_closeDay_94 rfl ?_
    refine Ev.iconst (pc := 95) dX8_closeDay_95 (v := 3) (by decide) ?_
    refine Ev.iadd (pc := 96) dX8_closeDay_96 ?_
    refine Ev.aload_n (pc := 97) dX8_closeDay_97 rfl ?_
    refine Ev.getR (pc := 98) dX8_closeDay_98 fl_RX8_21 lC_1 rfl ?_
    refine eBk h (fun q4 hq4 h => ?_)
    refine Ev.callV (pc := 101) (as := []) (st := [.int ((6 * ((q1.2.1 2 11) / 24)) + 3), .ref 53]) (z := 2) dX8_closeDay_101 wc_X5_standing ml_RX8_299 im_X5_standing se_X5_standing lC_12 rfl rfl (ev_X5_standing  (eI (eI (eI (eI q1.2 2 15 q1.1) 53 (6 * ((q1.2.1 2 11) / 24)).toNatClampNeg (q1.2.1 2 14)) 53 ((6 * ((q1.2.1 2 11) / 24)) + 1).toNatClampNeg q3) 53 ((6 * ((q1.2.1 2 11) / 24)) + 2).toNatClampNeg q1.1) _ hq4) rfl rfl (by decide) rfl rfl (Nat.le_of_ble_eq_true rfl) ?_
    obtain ⟨g9, h⟩ := eGdB h
    refine Ev.iastj (pc := 104) dX8_closeDay_104 (j := ((6 * ((q1.2.1 2 11) / 24)) + 3).toNatClampNeg) lC_53 g9 rfl ?_
    refine Ev.aload_n (pc := 105) dX8_closeDay_105 rfl ?_
    refine Ev.getR (pc := 106) dX8_closeDay_106 fl_RX8_46 lC_1 rfl ?_
    refine Ev.iload_n (pc := 109) dX8_closeDay_109 rfl ?_
    refine Ev.iconst (pc := 110) dX8_closeDay_110 (v := 4) (by decide) ?_
    refine Ev.iadd (pc := 111) dX8_closeDay_111 ?_
    refine Ev.aload_n (pc := 112) dX8_closeDay_112 rfl ?_
    refine Ev.getR (pc := 113) dX8_closeDay_113 fl_RX8_35 lC_1 rfl ?_
    refine Ev.aload_n (pc := 116) dX8_closeDay_116 rfl ?_
    refine Ev.getR (pc := 117) dX8_closeDay_117 fl_RX8_12 lC_1 rfl ?_
    refine Ev.getIv (pc := 120) dX8_closeDay_120 (v := (q1.2.1 2 11)) fl_RX8_85 lC_2 rfl ((eI_n (by decide)).trans ((eI_n (by decide)).trans ((eI_n (by decide)).trans ((eI_n (by decide)).trans (eI_m (by decide)))))) ?_
    refine eBk h (fun q5 hq5 h => ?_)
    refine Ev.callV (pc := 123) (as := [.int (q1.2.1 2 11)]) (st := [.int ((6 * ((q1.2.1 2 11) / 24)) + 4), .ref 53]) (z := 2) dX8_closeDay_123 wc_X1_knownBy ml_RX8_302 im_X1_knownBy se_X1_knownBy lC_29 rfl rfl (ev_X1_knownBy (q1.2.1 2 11) (eI (eI (eI (eI (eI q1.2 2 15 q1.1) 53 (6 * ((q1.2.1 2 11) / 24)).toNatClampNeg (q1.2.1 2 14)) 53 ((6 * ((q1.2.1 2 11) / 24)) + 1).toNatClampNeg q3) 53 ((6 * ((q1.2.1 2 11) / 24)) + 2).toNatClampNeg q1.1) 53 ((6 * ((q1.2.1 2 11) / 24)) + 3).toNatClampNeg q4) _ hq5) rfl rfl (by decide) rfl rfl (Nat.le_of_ble_eq_true rfl) ?_
    obtain ⟨g9, h⟩ := eGdB h
    refine Ev.iastj (pc := 126) dX8_closeDay_126 (j := ((6 * ((q1.2.1 2 11) / 24)) + 4).toNatClampNeg) lC_53 g9 rfl ?_
    refine Ev.aload_n (pc := 127) dX8_closeDay_127 rfl ?_
    refine Ev.getR (pc := 128) dX8_closeDay_128 fl_RX8_56 lC_1 rfl ?_
    refine Ev.aload_n (pc := 131) dX8_closeDay_131 rfl ?_
    refine Ev.getR (pc := 132) dX8_closeDay_132 fl_RX8_35 lC_1 rfl ?_
    refine Ev.aload_n (pc := 135) dX8_closeDay_135 rfl ?_
    refine Ev.getR (pc := 136) dX8_closeDay_136 fl_RX8_21 lC_1 rfl ?_
    refine Ev.aload_n (pc := 139) dX8_closeDay_139 rfl ?_
    refine Ev.getR (pc := 140) dX8_closeDay_140 fl_RX8_12 lC_1 rfl ?_
    refine Ev.getIv (pc := 143) dX8_closeDay_143 (v := (q1.2.1 2 11)) fl_RX8_85 lC_2 rfl ((eI_n (by decide)).trans ((eI_n (by decide)).trans ((eI_n (by decide)).trans ((eI_n (by decide)).trans ((eI_n (by decide)).trans (eI_m (by decide))))))) ?_
    refine eBk h (fun q6 hq6 h => ?_)
    refine Ev.callV (pc := 146) (as := [.ref 29, .ref 12, .int (q1.2.1 2 11)]) (st := []) (z := 2) dX8_closeDay_146 wc_X3_load ml_RX8_150 im_X3_load se_X3_load lC_55 rfl rfl (ev_X3_load (q1.2.1 2 11) (eI (eI (eI (eI (eI (eI q1.2 2 15 q1.1) 53 (6 * ((q1.2.1 2 11) / 24)).toNatClampNeg (q1.2.1 2 14)) 53 ((6 * ((q1.2.1 2 11) / 24)) + 1).toNatClampNeg q3) 53 ((6 * ((q1.2.1 2 11) / 24)) + 2).toNatClampNeg q1.1) 53 ((6 * ((q1.2.1 2 11) / 24)) + 3).toNatClampNeg q4) 53 ((6 * ((q1.2.1 2 11) / 24)) + 4).toNatClampNeg q5) _ hq6) rfl rfl (by decide) rfl rfl (Nat.le_of_ble_eq_true rfl) ?_
    refine Ev.aload_n (pc := 149) dX8_closeDay_149 rfl ?_
    refine Ev.getR (pc := 150) dX8_closeDay_150 fl_RX8_46 lC_1 rfl ?_
    refine Ev.iload_n (pc := 153) dX8_closeDay_153 rfl ?_
    refine Ev.iconst (pc := 154) dX8_closeDay_154 (v := 5) (by decide) ?_
    refine Ev.iadd (pc := 155) dX8_closeDay_155 ?_
    refine Ev.aload_n (pc := 156) dX8_closeDay_156 rfl ?_
    refine Ev.getR (pc := 157) dX8_closeDay_157 fl_RX8_56 lC_1 rfl ?_
    refine eBk h (fun q7 hq7 h => ?_)
    refine Ev.callV (pc := 160) (as := []) (st := [.int ((6 * ((q1.2.1 2 11) / 24)) + 5), .ref 53]) (z := 2) dX8_closeDay_160 wc_X3_heaviest ml_RX8_203 im_X3_heaviest se_X3_heaviest lC_55 rfl rfl (ev_X3_heaviest  q6 _ hq7) rfl rfl (by decide) rfl rfl (Nat.le_of_ble_eq_true rfl) ?_
    obtain ⟨g9, h⟩ := eGdB h
    refine Ev.iastj (pc := 163) dX8_closeDay_163 (j := ((6 * ((q1.2.1 2 11) / 24)) + 5).toNatClampNeg) lC_53 g9 rfl ?_
    obtain rfl := Option.some.inj h
    exact Ev.vret (pc := 164) dX8_closeDay_164 rfl
  · have h := eT h c9
    obtain rfl := Option.some.inj h
    exact Ev.vret (pc := 41) dX8_closeDay_41 rfl
theorem dX8_closeHour_0 : decode cX8_closeHour 0 = .ok (.aload_n 0, 1) := by decide +kernel
theorem dX8_closeHour_1 : decode cX8_closeHour 1 = .ok (.getfield 21, 3) := by decide +kernel
theorem dX8_closeHour_4 : decode cX8_closeHour 4 = .ok (.aload_n 0, 1) := by decide +kernel
theorem dX8_closeHour_5 : decode cX8_closeHour 5 = .ok (.getfield 12, 3) := by decide +kernel
theorem dX8_closeHour_8 : decode cX8_closeHour 8 = .ok (.getfield 206, 3) := by decide +kernel
theorem dX8_closeHour_11 : decode cX8_closeHour 11 = .ok (.invokevirtual 209, 3) := by decide +kernel
theorem dX8_closeHour_14 : decode cX8_closeHour 14 = .ok (.iconst 0, 1) := by decide +kernel
theorem dX8_closeHour_15 : decode cX8_closeHour 15 = .ok (.istore_n 1, 1) := by decide +kernel
theorem dX8_closeHour_16 : decode cX8_closeHour 16 = .ok (.iload_n 1, 1) := by decide +kernel
theorem dX8_closeHour_17 : decode cX8_closeHour 17 = .ok (.aload_n 0, 1) := by decide +kernel
theorem dX8_closeHour_18 : decode cX8_closeHour 18 = .ok (.getfield 28, 3) := by decide +kernel
theorem dX8_closeHour_21 : decode cX8_closeHour 21 = .ok (.getfield 213, 3) := by decide +kernel
theorem dX8_closeHour_24 : decode cX8_closeHour 24 = .ok (.if_icmp .ge 47, 3) := by decide +kernel
theorem dX8_closeHour_27 : decode cX8_closeHour 27 = .ok (.aload_n 0, 1) := by decide +kernel
theorem dX8_closeHour_28 : decode cX8_closeHour 28 = .ok (.getfield 28, 3) := by decide +kernel
theorem dX8_closeHour_31 : decode cX8_closeHour 31 = .ok (.iload_n 1, 1) := by decide +kernel
theorem dX8_closeHour_32 : decode cX8_closeHour 32 = .ok (.aload_n 0, 1) := by decide +kernel
theorem dX8_closeHour_33 : decode cX8_closeHour 33 = .ok (.getfield 12, 3) := by decide +kernel
theorem dX8_closeHour_36 : decode cX8_closeHour 36 = .ok (.getfield 85, 3) := by decide +kernel
theorem dX8_closeHour_39 : decode cX8_closeHour 39 = .ok (.aload_n 0, 1) := by decide +kernel
theorem dX8_closeHour_40 : decode cX8_closeHour 40 = .ok (.getfield 12, 3) := by decide +kernel
theorem dX8_closeHour_43 : decode cX8_closeHour 43 = .ok (.getfield 216, 3) := by decide +kernel
theorem dX8_closeHour_46 : decode cX8_closeHour 46 = .ok (.invokevirtual 219, 3) := by decide +kernel
theorem dX8_closeHour_49 : decode cX8_closeHour 49 = .ok (.ifCond .ne 6, 3) := by decide +kernel
theorem dX8_closeHour_52 : decode cX8_closeHour 52 = .ok (.goto 13, 3) := by decide +kernel
theorem dX8_closeHour_55 : decode cX8_closeHour 55 = .ok (.aload_n 0, 1) := by decide +kernel
theorem dX8_closeHour_56 : decode cX8_closeHour 56 = .ok (.iload_n 1, 1) := by decide +kernel
theorem dX8_closeHour_57 : decode cX8_closeHour 57 = .ok (.invokevirtual 223, 3) := by decide +kernel
theorem dX8_closeHour_60 : decode cX8_closeHour 60 = .ok (.aload_n 0, 1) := by decide +kernel
theorem dX8_closeHour_61 : decode cX8_closeHour 61 = .ok (.iload_n 1, 1) := by decide +kernel
theorem dX8_closeHour_62 : decode cX8_closeHour 62 = .ok (.invokevirtual 226, 3) := by decide +kernel
theorem dX8_closeHour_65 : decode cX8_closeHour 65 = .ok (.iinc 1 1, 3) := by decide +kernel
theorem dX8_closeHour_68 : decode cX8_closeHour 68 = .ok (.goto (-52), 3) := by decide +kernel
theorem dX8_closeHour_71 : decode cX8_closeHour 71 = .ok (.iconst 0, 1) := by decide +kernel
theorem dX8_closeHour_72 : decode cX8_closeHour 72 = .ok (.istore_n 1, 1) := by decide +kernel
theorem dX8_closeHour_73 : decode cX8_closeHour 73 = .ok (.iload_n 1, 1) := by decide +kernel
theorem dX8_closeHour_74 : decode cX8_closeHour 74 = .ok (.aload_n 0, 1) := by decide +kernel
theorem dX8_closeHour_75 : decode cX8_closeHour 75 = .ok (.getfield 28, 3) := by decide +kernel
theorem dX8_closeHour_78 : decode cX8_closeHour 78 = .ok (.getfield 229, 3) := by decide +kernel
theorem dX8_closeHour_81 : decode cX8_closeHour 81 = .ok (.if_icmp .ge 32, 3) := by decide +kernel
theorem dX8_closeHour_84 : decode cX8_closeHour 84 = .ok (.aload_n 0, 1) := by decide +kernel
theorem dX8_closeHour_85 : decode cX8_closeHour 85 = .ok (.getfield 28, 3) := by decide +kernel
theorem dX8_closeHour_88 : decode cX8_closeHour 88 = .ok (.getfield 232, 3) := by decide +kernel
theorem dX8_closeHour_91 : decode cX8_closeHour 91 = .ok (.iload_n 1, 1) := by decide +kernel
theorem dX8_closeHour_92 : decode cX8_closeHour 92 = .ok (.iaload, 1) := by decide +kernel
theorem dX8_closeHour_93 : decode cX8_closeHour 93 = .ok (.aload_n 0, 1) := by decide +kernel
theorem dX8_closeHour_94 : decode cX8_closeHour 94 = .ok (.getfield 12, 3) := by decide +kernel
theorem dX8_closeHour_97 : decode cX8_closeHour 97 = .ok (.getfield 85, 3) := by decide +kernel
theorem dX8_closeHour_100 : decode cX8_closeHour 100 = .ok (.if_icmp .ne 7, 3) := by decide +kernel
theorem dX8_closeHour_103 : decode cX8_closeHour 103 = .ok (.aload_n 0, 1) := by decide +kernel
theorem dX8_closeHour_104 : decode cX8_closeHour 104 = .ok (.invokevirtual 235, 3) := by decide +kernel
theorem dX8_closeHour_107 : decode cX8_closeHour 107 = .ok (.iinc 1 1, 3) := by decide +kernel
theorem dX8_closeHour_110 : decode cX8_closeHour 110 = .ok (.goto (-37), 3) := by decide +kernel
theorem dX8_closeHour_113 : decode cX8_closeHour 113 = .ok (.aload_n 0, 1) := by decide +kernel
theorem dX8_closeHour_114 : decode cX8_closeHour 114 = .ok (.invokevirtual 238, 3) := by decide +kernel
theorem dX8_closeHour_117 : decode cX8_closeHour 117 = .ok (.aload_n 0, 1) := by decide +kernel
theorem dX8_closeHour_118 : decode cX8_closeHour 118 = .ok (.getfield 12, 3) := by decide +kernel
theorem dX8_closeHour_121 : decode cX8_closeHour 121 = .ok (.invokevirtual 241, 3) := by decide +kernel
theorem dX8_closeHour_124 : decode cX8_closeHour 124 = .ok (.aload_n 0, 1) := by decide +kernel
theorem dX8_closeHour_125 : decode cX8_closeHour 125 = .ok (.getfield 12, 3) := by decide +kernel
theorem dX8_closeHour_128 : decode cX8_closeHour 128 = .ok (.getfield 85, 3) := by decide +kernel
theorem dX8_closeHour_131 : decode cX8_closeHour 131 = .ok (.bipush 24, 2) := by decide +kernel
theorem dX8_closeHour_133 : decode cX8_closeHour 133 = .ok (.irem, 1) := by decide +kernel
theorem dX8_closeHour_134 : decode cX8_closeHour 134 = .ok (.bipush 23, 2) := by decide +kernel
theorem dX8_closeHour_136 : decode cX8_closeHour 136 = .ok (.if_icmp .ne 7, 3) := by decide +kernel
theorem dX8_closeHour_139 : decode cX8_closeHour 139 = .ok (.aload_n 0, 1) := by decide +kernel
theorem dX8_closeHour_140 : decode cX8_closeHour 140 = .ok (.invokevirtual 244, 3) := by decide +kernel
theorem dX8_closeHour_143 : decode cX8_closeHour 143 = .ok (.aload_n 0, 1) := by decide +kernel
theorem dX8_closeHour_144 : decode cX8_closeHour 144 = .ok (.getfield 12, 3) := by decide +kernel
theorem dX8_closeHour_147 : decode cX8_closeHour 147 = .ok (.dup, 1) := by decide +kernel
theorem dX8_closeHour_148 : decode cX8_closeHour 148 = .ok (.getfield 85, 3) := by decide +kernel
theorem dX8_closeHour_151 : decode cX8_closeHour 151 = .ok (.iconst 1, 1) := by decide +kernel
theorem dX8_closeHour_152 : decode cX8_closeHour 152 = .ok (.iadd, 1) := by decide +kernel
theorem dX8_closeHour_153 : decode cX8_closeHour 153 = .ok (.putfield 85, 3) := by decide +kernel
theorem dX8_closeHour_156 : decode cX8_closeHour 156 = .ok (.return_, 1) := by decide +kernel
def F_X8_closeHour_16 (K71 : eMem → Option eMem) : Nat → Int32 → eMem → Option eMem
  | 0, _, _ => none
  | n + 1, v1, M =>
    if v1 < (M.1 23 4) then
      (F_X2_isSeeing v1 (M.1 2 11) (M.1 2 13) M).bind fun q2 =>
      if q2 = 0 then
        F_X8_closeHour_16 K71 n (v1 + 1) M
      else
        (F_X8_seeShows v1 M).bind fun q3 =>
        (F_X8_seeUnits v1 q3).bind fun q4 =>
        F_X8_closeHour_16 K71 n (v1 + 1) q4
    else
      K71 M
set_option maxRecDepth 100000 in
set_option maxHeartbeats 4000000 in
theorem ev_X8_closeHour_16 (K71 : eMem → Option eMem) (q : eMem) (hK71 : ∀  (M : eMem), K71 M = some q → Ev layC 5 m_X8_closeHour 71 [some (.ref 1), none] [] M (none, q)) : ∀ (fuel : Nat) (v1 : Int32) (M : eMem), F_X8_closeHour_16 K71 fuel v1 M = some q → Ev layC 5 m_X8_closeHour 16 [some (.ref 1), some (.int v1)] [] M (none, q) := by
  intro fuel
  induction fuel with
  | zero => intro v1 M h; rw [F_X8_closeHour_16] at h; cases h
  | succ n ih =>
    intro v1 M h
    rw [F_X8_closeHour_16] at h
    refine Ev.iload_n (pc := 16) dX8_closeHour_16 rfl ?_
    refine Ev.aload_n (pc := 17) dX8_closeHour_17 rfl ?_
    refine Ev.getR (pc := 18) dX8_closeHour_18 fl_RX8_28 lC_1 rfl ?_
    refine Ev.getI (pc := 21) dX8_closeHour_21 fl_RX8_213 lC_23 rfl ?_
    refine Ev.icmp_ge (pc := 24) (tgt := 71) dX8_closeHour_24 (by decide) (fun c9 => ?_) (fun c9 => ?_)
    · have h := eF h c9
      exact Ev.fg (hK71 _ h) (And.intro rfl trivial)
    · have h := eT h c9
      refine Ev.aload_n (pc := 27) dX8_closeHour_27 rfl ?_
      refine Ev.getR (pc := 28) dX8_closeHour_28 fl_RX8_28 lC_1 rfl ?_
      refine Ev.iload_n (pc := 31) dX8_closeHour_31 rfl ?_
      refine Ev.aload_n (pc := 32) dX8_closeHour_32 rfl ?_
      refine Ev.getR (pc := 33) dX8_closeHour_33 fl_RX8_12 lC_1 rfl ?_
      refine Ev.getI (pc := 36) dX8_closeHour_36 fl_RX8_85 lC_2 rfl ?_
      refine Ev.aload_n (pc := 39) dX8_closeHour_39 rfl ?_
      refine Ev.getR (pc := 40) dX8_closeHour_40 fl_RX8_12 lC_1 rfl ?_
      refine Ev.getI (pc := 43) dX8_closeHour_43 fl_RX8_216 lC_2 rfl ?_
      refine eBk h (fun q2 hq2 h => ?_)
      refine Ev.callV (pc := 46) (as := [.int v1, .int (M.1 2 11), .int (M.1 2 13)]) (st := []) (z := 0) dX8_closeHour_46 wc_X2_isSeeing ml_RX8_219 im_X2_isSeeing se_X2_isSeeing lC_23 rfl rfl (ev_X2_isSeeing v1 (M.1 2 11) (M.1 2 13) M _ hq2) rfl rfl (by decide) rfl rfl (Nat.le_of_ble_eq_true rfl) ?_
      refine Ev.if_ne (pc := 49) (tgt := 55) dX8_closeHour_49 (by decide) (fun c9 => ?_) (fun c9 => ?_)
      · have h := eF h c9
        refine Ev.aload_n (pc := 55) dX8_closeHour_55 rfl ?_
        refine Ev.iload_n (pc := 56) dX8_closeHour_56 rfl ?_
        refine eBk h (fun q3 hq3 h => ?_)
        refine Ev.callV (pc := 57) (as := [.int v1]) (st := []) (z := 3) dX8_closeHour_57 wc_X8_seeShows ml_RX8_223 im_X8_seeShows se_X8_seeShows lC_1 rfl rfl (ev_X8_seeShows v1 M _ hq3) rfl rfl (by decide) rfl rfl (Nat.le_of_ble_eq_true rfl) ?_
        refine Ev.aload_n (pc := 60) dX8_closeHour_60 rfl ?_
        refine Ev.iload_n (pc := 61) dX8_closeHour_61 rfl ?_
        refine eBk h (fun q4 hq4 h => ?_)
        refine Ev.callV (pc := 62) (as := [.int v1]) (st := []) (z := 4) dX8_closeHour_62 wc_X8_seeUnits ml_RX8_226 im_X8_seeUnits se_X8_seeUnits lC_1 rfl rfl (ev_X8_seeUnits v1 q3 _ hq4) rfl rfl (by decide) rfl rfl (Nat.le_of_ble_eq_true rfl) ?_
        refine Ev.iincv (pc := 65) dX8_closeHour_65 (v := 1) (by decide) rfl (by decide) rfl rfl ?_
        refine Ev.goto (pc := 68) (tgt := 16) dX8_closeHour_68 (by decide) ?_
        exact Ev.fg (ih _ _ h) (And.intro rfl (And.intro rfl trivial))
      · have h := eT h c9
        refine Ev.goto (pc := 52) (tgt := 65) dX8_closeHour_52 (by decide) ?_
        refine Ev.iincv (pc := 65) dX8_closeHour_65 (v := 1) (by decide) rfl (by decide) rfl rfl ?_
        refine Ev.goto (pc := 68) (tgt := 16) dX8_closeHour_68 (by decide) ?_
        exact Ev.fg (ih _ _ h) (And.intro rfl (And.intro rfl trivial))
def F_X8_closeHour_73 (K113 : eMem → Option eMem) : Nat → Int32 → eMem → Option eMem
  | 0, _, _ => none
  | n + 1, v1, M =>
    if v1 < (M.1 23 6) then
      eG (eIn v1 30) <|
      if (M.1 28 v1.toNatClampNeg) = (M.1 2 11) then
        (F_X8_hearNets M).bind fun q5 =>
        F_X8_closeHour_73 K113 n (v1 + 1) q5
      else
        F_X8_closeHour_73 K113 n (v1 + 1) M
    else
      K113 M
set_option maxRecDepth 100000 in
set_option maxHeartbeats 4000000 in
theorem ev_X8_closeHour_73 (K113 : eMem → Option eMem) (q : eMem) (hK113 : ∀  (M : eMem), K113 M = some q → Ev layC 5 m_X8_closeHour 113 [some (.ref 1), none] [] M (none, q)) : ∀ (fuel : Nat) (v1 : Int32) (M : eMem), F_X8_closeHour_73 K113 fuel v1 M = some q → Ev layC 5 m_X8_closeHour 73 [some (.ref 1), some (.int v1)] [] M (none, q) := by
  intro fuel
  induction fuel with
  | zero => intro v1 M h; rw [F_X8_closeHour_73] at h; cases h
  | succ n ih =>
    intro v1 M h
    rw [F_X8_closeHour_73] at h
    refine Ev.iload_n (pc := 73) dX8_closeHour_73 rfl ?_
    refine Ev.aload_n (pc := 74) dX8_closeHour_74 rfl ?_
    refine Ev.getR (pc := 75) dX8_closeHour_75 fl_RX8_28 lC_1 rfl ?_
    refine Ev.getI (pc := 78) dX8_closeHour_78 fl_RX8_229 lC_23 rfl ?_
    refine Ev.icmp_ge (pc := 81) (tgt := 113) dX8_closeHour_81 (by decide) (fun c9 => ?_) (fun c9 => ?_)
    · have h := eF h c9
      exact Ev.fg (hK113 _ h) (And.intro rfl trivial)
    · have h := eT h c9
      refine Ev.aload_n (pc := 84) dX8_closeHour_84 rfl ?_
      refine Ev.getR (pc := 85) dX8_closeHour_85 fl_RX8_28 lC_1 rfl ?_
      refine Ev.getR (pc := 88) dX8_closeHour_88 fl_RX8_232 lC_23 rfl ?_
      refine Ev.iload_n (pc := 91) dX8_closeHour_91 rfl ?_
      obtain ⟨g9, h⟩ := eGdB h
      refine Ev.ialdj (pc := 92) dX8_closeHour_92 (j := v1.toNatClampNeg) lC_28 g9 rfl ?_
      refine Ev.aload_n (pc := 93) dX8_closeHour_93 rfl ?_
      refine Ev.getR (pc := 94) dX8_closeHour_94 fl_RX8_12 lC_1 rfl ?_
      refine Ev.getI (pc := 97) dX8_closeHour_97 fl_RX8_85 lC_2 rfl ?_
      refine Ev.icmp_ne (pc := 100) (tgt := 107) dX8_closeHour_100 (by decide) (fun c9 => ?_) (fun c9 => ?_)
      · have h := eF h c9
        refine Ev.iincv (pc := 107) dX8_closeHour_107 (v := 1) (by decide) rfl (by decide) rfl rfl ?_
        refine Ev.goto (pc := 110) (tgt := 73) dX8_closeHour_110 (by decide) ?_
        exact Ev.fg (ih _ _ h) (And.intro rfl (And.intro rfl trivial))
      · have h := eT h c9
        refine Ev.aload_n (pc := 103) dX8_closeHour_103 rfl ?_
        refine eBk h (fun q5 hq5 h => ?_)
        refine Ev.callV (pc := 104) (as := []) (st := []) (z := 2) dX8_closeHour_104 wc_X8_hearNets ml_RX8_235 im_X8_hearNets se_X8_hearNets lC_1 rfl rfl (ev_X8_hearNets  M _ hq5) rfl rfl (by decide) rfl rfl (Nat.le_of_ble_eq_true rfl) ?_
        refine Ev.iincv (pc := 107) dX8_closeHour_107 (v := 1) (by decide) rfl (by decide) rfl rfl ?_
        refine Ev.goto (pc := 110) (tgt := 73) dX8_closeHour_110 (by decide) ?_
        exact Ev.fg (ih _ _ h) (And.intro rfl (And.intro rfl trivial))
def F_X8_closeHour  (M : eMem) : Option eMem :=
  (F_X5_breakBy (M.1 2 12) M).bind fun q1 =>
  F_X8_closeHour_16
    (fun M =>
      F_X8_closeHour_73
        (fun M =>
          (F_X8_findPapers M).bind fun q6 =>
          (F_X0_march q6).bind fun q7 =>
          if ((q7.1 2 11) - (q7.1 2 11) / 24 * 24) = 23 then
            (F_X8_closeDay q7).bind fun q8 =>
            some (eI q8 2 11 ((q8.1 2 11) + 1))
          else
            some (eI q7 2 11 ((q7.1 2 11) + 1)))
        eFuel 0 M)
    eFuel 0 q1
set_option maxRecDepth 100000 in
set_option maxHeartbeats 4000000 in
theorem ev_X8_closeHour  (M : eMem) (q : eMem) (h : F_X8_closeHour  M = some q) : Ev layC 5 m_X8_closeHour 0 [some (.ref 1), none] [] M (none, q) := by
  rw [F_X8_closeHour] at h
  refine Ev.aload_n (pc := 0) dX8_closeHour_0 rfl ?_
  refine Ev.getR (pc := 1) dX8_closeHour_1 fl_RX8_21 lC_1 rfl ?_
  refine Ev.aload_n (pc := 4) dX8_closeHour_4 rfl ?_
  refine Ev.getR (pc := 5) dX8_closeHour_5 fl_RX8_12 lC_1 rfl ?_
  refine Ev.getI (pc := 8) dX8_closeHour_8 fl_RX8_206 lC_2 rfl ?_
  refine eBk h (fun q1 hq1 h => ?_)
  refine Ev.callV (pc := 11) (as := [.int (M.1 2 12)]) (st := []) (z := 1) dX8_closeHour_11 wc_X5_breakBy ml_RX8_209 im_X5_breakBy se_X5_breakBy lC_12 rfl rfl (ev_X5_breakBy (M.1 2 12) M _ hq1) rfl rfl (by decide) rfl rfl (Nat.le_of_ble_eq_true rfl) ?_
  refine Ev.iconst (pc := 14) dX8_closeHour_14 (v := 0) (by decide) ?_
  refine Ev.istore_n (pc := 15) dX8_closeHour_15 (by decide) rfl rfl ?_
  refine Ev.fg (ev_X8_closeHour_16 _ _ ?_ _ _ _ h) (And.intro rfl (And.intro rfl trivial))
  · intro M h
    refine Ev.iconst (pc := 71) dX8_closeHour_71 (v := 0) (by decide) ?_
    refine Ev.istore_n (pc := 72) dX8_closeHour_72 (by decide) rfl rfl ?_
    refine Ev.fg (ev_X8_closeHour_73 _ _ ?_ _ _ _ h) (And.intro rfl (And.intro rfl trivial))
    · intro M h
      refine Ev.aload_n (pc := 113) dX8_closeHour_113 rfl ?_
      refine eBk h (fun q6 hq6 h => ?_)
      refine Ev.callV (pc := 114) (as := []) (st := []) (z := 1) dX8_closeHour_114 wc_X8_findPapers ml_RX8_238 im_X8_findPapers se_X8_findPapers lC_1 rfl rfl (ev_X8_findPapers  M _ hq6) rfl rfl (by decide) rfl rfl (Nat.le_of_ble_eq_true rfl) ?_
      refine Ev.aload_n (pc := 117) dX8_closeHour_117 rfl ?_
      refine Ev.getR (pc := 118) dX8_closeHour_118 fl_RX8_12 lC_1 rfl ?_
      refine eBk h (fun q7 hq7 h => ?_)
      refine Ev.callV (pc := 121) (as := []) (st := []) (z := 2) dX8_closeHour_121 wc_X0_march ml_RX8_241 im_X0_march se_X0_march lC_2 rfl rfl (ev_X0_march  q6 _ hq7) rfl rfl (by decide) rfl rfl (Nat.le_of_ble_eq_true rfl) ?_
      refine Ev.aload_n (pc := 124) dX8_closeHour_124 rfl ?_
      refine Ev.getR (pc := 125) dX8_closeHour_125 fl_RX8_12 lC_1 rfl ?_
      refine Ev.getI (pc := 128) dX8_closeHour_128 fl_RX8_85 lC_2 rfl ?_
      refine Ev.bipush (pc := 131) dX8_closeHour_131 (v := 24) (by decide) ?_
      refine Ev.irem (pc := 133) dX8_closeHour_133 (by decide) ?_
      refine Ev.bipush (pc := 134) dX8_closeHour_134 (v := 23) (by decide) ?_
      refine Ev.icmp_ne (pc := 136) (tgt := 143) dX8_closeHour_136 (by decide) (fun c9 => ?_) (fun c9 => ?_)
      · have h := eF h c9
        refine Ev.aload_n (pc := 143) dX8_closeHour_143 rfl ?_
        refine Ev.getR (pc := 144) dX8_closeHour_144 fl_RX8_12 lC_1 rfl ?_
        refine Ev.dup (pc := 147) dX8_closeHour_147 rfl ?_
        refine Ev.getI (pc := 148) dX8_closeHour_148 fl_RX8_85 lC_2 rfl ?_
        refine Ev.iconst (pc := 151) dX8_closeHour_151 (v := 1) (by decide) ?_
        refine Ev.iadd (pc := 152) dX8_closeHour_152 ?_
        refine Ev.putI (pc := 153) dX8_closeHour_153 fp_RX8_85 lC_2 rfl rfl rfl ?_
        obtain rfl := Option.some.inj h
        exact Ev.vret (pc := 156) dX8_closeHour_156 rfl
      · have h := eT h c9
        refine Ev.aload_n (pc := 139) dX8_closeHour_139 rfl ?_
        refine eBk h (fun q8 hq8 h => ?_)
        refine Ev.callV (pc := 140) (as := []) (st := []) (z := 2) dX8_closeHour_140 wc_X8_closeDay ml_RX8_244 im_X8_closeDay se_X8_closeDay lC_1 rfl rfl (ev_X8_closeDay  q7 _ hq8) rfl rfl (by decide) rfl rfl (Nat.le_of_ble_eq_true rfl) ?_
        refine Ev.aload_n (pc := 143) dX8_closeHour_143 rfl ?_
        refine Ev.getR (pc := 144) dX8_closeHour_144 fl_RX8_12 lC_1 rfl ?_
        refine Ev.dup (pc := 147) dX8_closeHour_147 rfl ?_
        refine Ev.getI (pc := 148) dX8_closeHour_148 fl_RX8_85 lC_2 rfl ?_
        refine Ev.iconst (pc := 151) dX8_closeHour_151 (v := 1) (by decide) ?_
        refine Ev.iadd (pc := 152) dX8_closeHour_152 ?_
        refine Ev.putI (pc := 153) dX8_closeHour_153 fp_RX8_85 lC_2 rfl rfl rfl ?_
        obtain rfl := Option.some.inj h
        exact Ev.vret (pc := 156) dX8_closeHour_156 rfl
theorem dX9_tick_0 : decode cX9_tick 0 = .ok (.iload_n 1, 1) := by decide +kernel
theorem dX9_tick_1 : decode cX9_tick 1 = .ok (.iconst 1, 1) := by decide +kernel
theorem dX9_tick_2 : decode cX9_tick 2 = .ok (.bipush 99, 2) := by decide +kernel
theorem dX9_tick_4 : decode cX9_tick 4 = .ok (.invokestatic 55, 3) := by decide +kernel
theorem dX9_tick_7 : decode cX9_tick 7 = .ok (.ifCond .ne 10, 3) := by decide +kernel
theorem dX9_tick_10 : decode cX9_tick 10 = .ok (.aload_n 0, 1) := by decide +kernel
theorem dX9_tick_11 : decode cX9_tick 11 = .ok (.ldc 41, 2) := by decide +kernel
theorem dX9_tick_13 : decode cX9_tick 13 = .ok (.invokevirtual 42, 3) := by decide +kernel
theorem dX9_tick_16 : decode cX9_tick 16 = .ok (.ireturn, 1) := by decide +kernel
theorem dX9_tick_17 : decode cX9_tick 17 = .ok (.aload_n 0, 1) := by decide +kernel
theorem dX9_tick_18 : decode cX9_tick 18 = .ok (.getfield 12, 3) := by decide +kernel
theorem dX9_tick_21 : decode cX9_tick 21 = .ok (.getfield 46, 3) := by decide +kernel
theorem dX9_tick_24 : decode cX9_tick 24 = .ok (.getfield 99, 3) := by decide +kernel
theorem dX9_tick_27 : decode cX9_tick 27 = .ok (.iload_n 1, 1) := by decide +kernel
theorem dX9_tick_28 : decode cX9_tick 28 = .ok (.iadd, 1) := by decide +kernel
theorem dX9_tick_29 : decode cX9_tick 29 = .ok (.sipush 1943, 3) := by decide +kernel
theorem dX9_tick_32 : decode cX9_tick 32 = .ok (.if_icmp .le 10, 3) := by decide +kernel
theorem dX9_tick_35 : decode cX9_tick 35 = .ok (.aload_n 0, 1) := by decide +kernel
theorem dX9_tick_36 : decode cX9_tick 36 = .ok (.ldc 63, 2) := by decide +kernel
theorem dX9_tick_38 : decode cX9_tick 38 = .ok (.invokevirtual 42, 3) := by decide +kernel
theorem dX9_tick_41 : decode cX9_tick 41 = .ok (.ireturn, 1) := by decide +kernel
theorem dX9_tick_42 : decode cX9_tick 42 = .ok (.iconst 0, 1) := by decide +kernel
theorem dX9_tick_43 : decode cX9_tick 43 = .ok (.istore_n 2, 1) := by decide +kernel
theorem dX9_tick_44 : decode cX9_tick 44 = .ok (.iload_n 2, 1) := by decide +kernel
theorem dX9_tick_45 : decode cX9_tick 45 = .ok (.iload_n 1, 1) := by decide +kernel
theorem dX9_tick_46 : decode cX9_tick 46 = .ok (.if_icmp .ge 16, 3) := by decide +kernel
theorem dX9_tick_49 : decode cX9_tick 49 = .ok (.aload_n 0, 1) := by decide +kernel
theorem dX9_tick_50 : decode cX9_tick 50 = .ok (.getfield 12, 3) := by decide +kernel
theorem dX9_tick_53 : decode cX9_tick 53 = .ok (.invokevirtual 371, 3) := by decide +kernel
theorem dX9_tick_56 : decode cX9_tick 56 = .ok (.iinc 2 1, 3) := by decide +kernel
theorem dX9_tick_59 : decode cX9_tick 59 = .ok (.goto (-15), 3) := by decide +kernel
theorem dX9_tick_62 : decode cX9_tick 62 = .ok (.aload_n 0, 1) := by decide +kernel
theorem dX9_tick_63 : decode cX9_tick 63 = .ok (.getfield 12, 3) := by decide +kernel
theorem dX9_tick_66 : decode cX9_tick 66 = .ok (.getfield 46, 3) := by decide +kernel
theorem dX9_tick_69 : decode cX9_tick 69 = .ok (.getfield 99, 3) := by decide +kernel
theorem dX9_tick_72 : decode cX9_tick 72 = .ok (.ireturn, 1) := by decide +kernel
def F_X9_tick_44  : Nat → Int32 → Int32 → eMem → Option (Int32 × eMem)
  | 0, _, _, _ => none
  | n + 1, v1, v2, M =>
    if v2 < v1 then
      (F_X8_closeHour M).bind fun q2 =>
      F_X9_tick_44 n v1 (v2 + 1) q2
    else
      some ((M.1 2 11), M)
set_option maxRecDepth 100000 in
set_option maxHeartbeats 4000000 in
theorem ev_X9_tick_44  (q : (Int32 × eMem))  : ∀ (fuel : Nat) (v1 : Int32) (v2 : Int32) (M : eMem), F_X9_tick_44 fuel v1 v2 M = some q → Ev layC 6 m_X9_tick 44 [some (.ref 0), some (.int v1), some (.int v2)] [] M (some (.int q.1), q.2) := by
  intro fuel
  induction fuel with
  | zero => intro v1 v2 M h; rw [F_X9_tick_44] at h; cases h
  | succ n ih =>
    intro v1 v2 M h
    rw [F_X9_tick_44] at h
    refine Ev.iload_n (pc := 44) dX9_tick_44 rfl ?_
    refine Ev.iload_n (pc := 45) dX9_tick_45 rfl ?_
    refine Ev.icmp_ge (pc := 46) (tgt := 62) dX9_tick_46 (by decide) (fun c9 => ?_) (fun c9 => ?_)
    · have h := eF h c9
      refine Ev.aload_n (pc := 62) dX9_tick_62 rfl ?_
      refine Ev.getR (pc := 63) dX9_tick_63 fl_RX9_12 lC_0 rfl ?_
      refine Ev.getR (pc := 66) dX9_tick_66 fl_RX9_46 lC_1 rfl ?_
      refine Ev.getI (pc := 69) dX9_tick_69 fl_RX9_99 lC_2 rfl ?_
      obtain rfl := Option.some.inj h
      exact Ev.iret (pc := 72) dX9_tick_72 rfl rfl
    · have h := eT h c9
      refine Ev.aload_n (pc := 49) dX9_tick_49 rfl ?_
      refine Ev.getR (pc := 50) dX9_tick_50 fl_RX9_12 lC_0 rfl ?_
      refine eBk h (fun q2 hq2 h => ?_)
      refine Ev.callV (pc := 53) (as := []) (st := []) (z := 1) dX9_tick_53 wc_X8_closeHour ml_RX9_371 im_X8_closeHour se_X8_closeHour lC_1 rfl rfl (ev_X8_closeHour  M _ hq2) rfl rfl (by decide) rfl rfl (Nat.le_of_ble_eq_true rfl) ?_
      refine Ev.iincv (pc := 56) dX9_tick_56 (v := 1) (by decide) rfl (by decide) rfl rfl ?_
      refine Ev.goto (pc := 59) (tgt := 44) dX9_tick_59 (by decide) ?_
      exact Ev.fg (ih _ _ _ h) (And.intro rfl (And.intro rfl (And.intro rfl trivial)))
def F_X9_tick (x1 : Int32) (M : eMem) : Option (Int32 × eMem) :=
  (F_X9_isBetween x1 1 99).bind fun q1 =>
  if q1 = 0 then
    (F_X9_found (-1000001) M).bind fun q4 =>
    some (q4.1, q4.2)
  else
    if 1943 < ((M.1 2 11) + x1) then
      (F_X9_found (-1000002) M).bind fun q3 =>
      some (q3.1, q3.2)
    else
      F_X9_tick_44 eFuel x1 0 M
set_option maxRecDepth 100000 in
set_option maxHeartbeats 4000000 in
theorem ev_X9_tick (x1 : Int32) (M : eMem) (q : (Int32 × eMem)) (h : F_X9_tick x1 M = some q) : Ev layC 6 m_X9_tick 0 [some (.ref 0), some (.int x1), none] [] M (some (.int q.1), q.2) := by
  rw [F_X9_tick] at h
  refine Ev.iload_n (pc := 0) dX9_tick_0 rfl ?_
  refine Ev.iconst (pc := 1) dX9_tick_1 (v := 1) (by decide) ?_
  refine Ev.bipush (pc := 2) dX9_tick_2 (v := 99) (by decide) ?_
  refine eBk h (fun q1 hq1 h => ?_)
  refine Ev.callS (pc := 4) (as := [.int x1, .int 1, .int 99]) (st := []) (z := 0) dX9_tick_4 wc_X9_isBetween ml_RX9_55 sm_X9_isBetween (ev_X9_isBetween x1 1 99 M _ hq1) rfl rfl (by decide) rfl rfl (Nat.le_of_ble_eq_true rfl) ?_
  refine Ev.if_ne (pc := 7) (tgt := 17) dX9_tick_7 (by decide) (fun c9 => ?_) (fun c9 => ?_)
  · have h := eF h c9
    refine Ev.aload_n (pc := 17) dX9_tick_17 rfl ?_
    refine Ev.getR (pc := 18) dX9_tick_18 fl_RX9_12 lC_0 rfl ?_
    refine Ev.getR (pc := 21) dX9_tick_21 fl_RX9_46 lC_1 rfl ?_
    refine Ev.getI (pc := 24) dX9_tick_24 fl_RX9_99 lC_2 rfl ?_
    refine Ev.iload_n (pc := 27) dX9_tick_27 rfl ?_
    refine Ev.iadd (pc := 28) dX9_tick_28 ?_
    refine Ev.sipush (pc := 29) dX9_tick_29 (v := 1943) (by decide) ?_
    refine Ev.icmp_le (pc := 32) (tgt := 42) dX9_tick_32 (by decide) (fun c9 => ?_) (fun c9 => ?_)
    · have h := eF h c9
      refine Ev.iconst (pc := 42) dX9_tick_42 (v := 0) (by decide) ?_
      refine Ev.istore_n (pc := 43) dX9_tick_43 (by decide) rfl rfl ?_
      exact Ev.fg (ev_X9_tick_44 _ _ _ _ _ h) (And.intro rfl (And.intro rfl (And.intro rfl trivial)))
    · have h := eT h c9
      refine Ev.aload_n (pc := 35) dX9_tick_35 rfl ?_
      refine Ev.ldc (pc := 36) dX9_tick_36 ld_RX9_63 ?_
      refine eBk h (fun q3 hq3 h => ?_)
      refine Ev.callV (pc := 38) (as := [.int (-1000002)]) (st := []) (z := 1) dX9_tick_38 wc_X9_found ml_RX9_42 im_X9_found se_X9_found lC_0 rfl rfl (ev_X9_found (-1000002) M _ hq3) rfl rfl (by decide) rfl rfl (Nat.le_of_ble_eq_true rfl) ?_
      obtain rfl := Option.some.inj h
      exact Ev.iret (pc := 41) dX9_tick_41 rfl rfl
  · have h := eT h c9
    refine Ev.aload_n (pc := 10) dX9_tick_10 rfl ?_
    refine Ev.ldc (pc := 11) dX9_tick_11 ld_RX9_41 ?_
    refine eBk h (fun q4 hq4 h => ?_)
    refine Ev.callV (pc := 13) (as := [.int (-1000001)]) (st := []) (z := 1) dX9_tick_13 wc_X9_found ml_RX9_42 im_X9_found se_X9_found lC_0 rfl rfl (ev_X9_found (-1000001) M _ hq4) rfl rfl (by decide) rfl rfl (Nat.le_of_ble_eq_true rfl) ?_
    obtain rfl := Option.some.inj h
    exact Ev.iret (pc := 16) dX9_tick_16 rfl rfl
theorem dX10_storm_0 : decode cX10_storm 0 = .ok (.iconst 0, 1) := by decide +kernel
theorem dX10_storm_1 : decode cX10_storm 1 = .ok (.istore_n 1, 1) := by decide +kernel
theorem dX10_storm_2 : decode cX10_storm 2 = .ok (.iload_n 1, 1) := by decide +kernel
theorem dX10_storm_3 : decode cX10_storm 3 = .ok (.aload_n 0, 1) := by decide +kernel
theorem dX10_storm_4 : decode cX10_storm 4 = .ok (.getfield 7, 3) := by decide +kernel
theorem dX10_storm_7 : decode cX10_storm 7 = .ok (.bipush 9, 2) := by decide +kernel
theorem dX10_storm_9 : decode cX10_storm 9 = .ok (.iaload, 1) := by decide +kernel
theorem dX10_storm_10 : decode cX10_storm 10 = .ok (.if_icmp .ge 66, 3) := by decide +kernel
theorem dX10_storm_13 : decode cX10_storm 13 = .ok (.aload_n 0, 1) := by decide +kernel
theorem dX10_storm_14 : decode cX10_storm 14 = .ok (.iload_n 1, 1) := by decide +kernel
theorem dX10_storm_15 : decode cX10_storm 15 = .ok (.iconst 0, 1) := by decide +kernel
theorem dX10_storm_16 : decode cX10_storm 16 = .ok (.invokevirtual 77, 3) := by decide +kernel
theorem dX10_storm_19 : decode cX10_storm 19 = .ok (.iconst 1, 1) := by decide +kernel
theorem dX10_storm_20 : decode cX10_storm 20 = .ok (.iconst 2, 1) := by decide +kernel
theorem dX10_storm_21 : decode cX10_storm 21 = .ok (.invokestatic 58, 3) := by decide +kernel
theorem dX10_storm_24 : decode cX10_storm 24 = .ok (.ifCond .eq 22, 3) := by decide +kernel
theorem dX10_storm_27 : decode cX10_storm 27 = .ok (.aload_n 0, 1) := by decide +kernel
theorem dX10_storm_28 : decode cX10_storm 28 = .ok (.iload_n 1, 1) := by decide +kernel
theorem dX10_storm_29 : decode cX10_storm 29 = .ok (.iconst 4, 1) := by decide +kernel
theorem dX10_storm_30 : decode cX10_storm 30 = .ok (.invokevirtual 77, 3) := by decide +kernel
theorem dX10_storm_33 : decode cX10_storm 33 = .ok (.aload_n 0, 1) := by decide +kernel
theorem dX10_storm_34 : decode cX10_storm 34 = .ok (.getfield 7, 3) := by decide +kernel
theorem dX10_storm_37 : decode cX10_storm 37 = .ok (.iconst 1, 1) := by decide +kernel
theorem dX10_storm_38 : decode cX10_storm 38 = .ok (.iaload, 1) := by decide +kernel
theorem dX10_storm_39 : decode cX10_storm 39 = .ok (.if_icmp .ge 7, 3) := by decide +kernel
theorem dX10_storm_42 : decode cX10_storm 42 = .ok (.iconst 1, 1) := by decide +kernel
theorem dX10_storm_43 : decode cX10_storm 43 = .ok (.goto 4, 3) := by decide +kernel
theorem dX10_storm_46 : decode cX10_storm 46 = .ok (.iconst 0, 1) := by decide +kernel
theorem dX10_storm_47 : decode cX10_storm 47 = .ok (.istore_n 2, 1) := by decide +kernel
theorem dX10_storm_48 : decode cX10_storm 48 = .ok (.iload_n 2, 1) := by decide +kernel
theorem dX10_storm_49 : decode cX10_storm 49 = .ok (.ifCond .eq 21, 3) := by decide +kernel
theorem dX10_storm_52 : decode cX10_storm 52 = .ok (.aload_n 0, 1) := by decide +kernel
theorem dX10_storm_53 : decode cX10_storm 53 = .ok (.iload_n 1, 1) := by decide +kernel
theorem dX10_storm_54 : decode cX10_storm 54 = .ok (.iconst 5, 1) := by decide +kernel
theorem dX10_storm_55 : decode cX10_storm 55 = .ok (.invokevirtual 77, 3) := by decide +kernel
theorem dX10_storm_58 : decode cX10_storm 58 = .ok (.iconst 1, 1) := by decide +kernel
theorem dX10_storm_59 : decode cX10_storm 59 = .ok (.if_icmp .ne 11, 3) := by decide +kernel
theorem dX10_storm_62 : decode cX10_storm 62 = .ok (.aload_n 0, 1) := by decide +kernel
theorem dX10_storm_63 : decode cX10_storm 63 = .ok (.iload_n 1, 1) := by decide +kernel
theorem dX10_storm_64 : decode cX10_storm 64 = .ok (.bipush 7, 2) := by decide +kernel
theorem dX10_storm_66 : decode cX10_storm 66 = .ok (.iconst 1, 1) := by decide +kernel
theorem dX10_storm_67 : decode cX10_storm 67 = .ok (.invokevirtual 105, 3) := by decide +kernel
theorem dX10_storm_70 : decode cX10_storm 70 = .ok (.iinc 1 1, 3) := by decide +kernel
theorem dX10_storm_73 : decode cX10_storm 73 = .ok (.goto (-71), 3) := by decide +kernel
theorem dX10_storm_76 : decode cX10_storm 76 = .ok (.return_, 1) := by decide +kernel
def F_X10_storm_47 (rec : Int32 → eMem → Option eMem) (v1 : Int32) (s0 : Int32) (M : eMem) : Option eMem :=
  if s0 = 0 then
    rec (v1 + 1) M
  else
    (F_X10_show v1 5 M).bind fun q3 =>
    if q3 = 1 then
      (F_X10_setShow v1 7 1 M).bind fun q4 =>
      rec (v1 + 1) q4
    else
      rec (v1 + 1) M
set_option maxRecDepth 100000 in
set_option maxHeartbeats 4000000 in
theorem ev_X10_storm_47 (rec : Int32 → eMem → Option eMem) (q : eMem) (hrec : ∀ (v1 : Int32) (M : eMem), rec v1 M = some q → Ev layR 1 m_X10_storm 2 [some (.ref 0), some (.int v1), none] [] M (none, q)) (v1 : Int32) (s0 : Int32) (M : eMem) (h : F_X10_storm_47 rec v1 s0 M = some q) : Ev layR 1 m_X10_storm 47 [some (.ref 0), some (.int v1), none] [.int s0] M (none, q) := by
  rw [F_X10_storm_47] at h
  refine Ev.istore_n (pc := 47) dX10_storm_47 (by decide) rfl rfl ?_
  refine Ev.iload_n (pc := 48) dX10_storm_48 rfl ?_
  refine Ev.if_eq (pc := 49) (tgt := 70) dX10_storm_49 (by decide) (fun c9 => ?_) (fun c9 => ?_)
  · have h := eT h c9
    refine Ev.iincv (pc := 70) dX10_storm_70 (v := 1) (by decide) rfl (by decide) rfl rfl ?_
    refine Ev.goto (pc := 73) (tgt := 2) dX10_storm_73 (by decide) ?_
    exact Ev.fg (hrec _ _ h) (And.intro rfl (And.intro rfl trivial))
  · have h := eF h c9
    refine Ev.aload_n (pc := 52) dX10_storm_52 rfl ?_
    refine Ev.iload_n (pc := 53) dX10_storm_53 rfl ?_
    refine Ev.iconst (pc := 54) dX10_storm_54 (v := 5) (by decide) ?_
    refine eBk h (fun q3 hq3 h => ?_)
    refine Ev.callV (pc := 55) (as := [.int v1, .int 5]) (st := []) (z := 0) dX10_storm_55 wc_X10_show ml_RX10_77 im_X10_show se_X10_show lR_0 rfl rfl (ev_X10_show v1 5 M _ hq3) rfl rfl (by decide) rfl rfl (Nat.le_of_ble_eq_true rfl) ?_
    refine Ev.iconst (pc := 58) dX10_storm_58 (v := 1) (by decide) ?_
    refine Ev.icmp_ne (pc := 59) (tgt := 70) dX10_storm_59 (by decide) (fun c9 => ?_) (fun c9 => ?_)
    · have h := eF h c9
      refine Ev.iincv (pc := 70) dX10_storm_70 (v := 1) (by decide) rfl (by decide) rfl rfl ?_
      refine Ev.goto (pc := 73) (tgt := 2) dX10_storm_73 (by decide) ?_
      exact Ev.fg (hrec _ _ h) (And.intro rfl (And.intro rfl trivial))
    · have h := eT h c9
      refine Ev.aload_n (pc := 62) dX10_storm_62 rfl ?_
      refine Ev.iload_n (pc := 63) dX10_storm_63 rfl ?_
      refine Ev.bipush (pc := 64) dX10_storm_64 (v := 7) (by decide) ?_
      refine Ev.iconst (pc := 66) dX10_storm_66 (v := 1) (by decide) ?_
      refine eBk h (fun q4 hq4 h => ?_)
      refine Ev.callV (pc := 67) (as := [.int v1, .int 7, .int 1]) (st := []) (z := 0) dX10_storm_67 wc_X10_setShow ml_RX10_105 im_X10_setShow se_X10_setShow lR_0 rfl rfl (ev_X10_setShow v1 7 1 M _ hq4) rfl rfl (by decide) rfl rfl (Nat.le_of_ble_eq_true rfl) ?_
      refine Ev.iincv (pc := 70) dX10_storm_70 (v := 1) (by decide) rfl (by decide) rfl rfl ?_
      refine Ev.goto (pc := 73) (tgt := 2) dX10_storm_73 (by decide) ?_
      exact Ev.fg (hrec _ _ h) (And.intro rfl (And.intro rfl trivial))
def F_X10_storm_46 (rec : Int32 → eMem → Option eMem) (v1 : Int32) (M : eMem) : Option eMem :=
  F_X10_storm_47 (fun v1 M => rec v1 M) v1 0 M
set_option maxRecDepth 100000 in
set_option maxHeartbeats 4000000 in
theorem ev_X10_storm_46 (rec : Int32 → eMem → Option eMem) (q : eMem) (hrec : ∀ (v1 : Int32) (M : eMem), rec v1 M = some q → Ev layR 1 m_X10_storm 2 [some (.ref 0), some (.int v1), none] [] M (none, q)) (v1 : Int32) (M : eMem) (h : F_X10_storm_46 rec v1 M = some q) : Ev layR 1 m_X10_storm 46 [some (.ref 0), some (.int v1), none] [] M (none, q) := by
  rw [F_X10_storm_46] at h
  refine Ev.iconst (pc := 46) dX10_storm_46 (v := 0) (by decide) ?_
  exact Ev.fg (ev_X10_storm_47 _ _ hrec _ _ _ h) (And.intro rfl (And.intro rfl trivial))
def F_X10_storm_2  : Nat → Int32 → eMem → Option eMem
  | 0, _, _ => none
  | n + 1, v1, M =>
    if v1 < (M.1 1 9) then
      (F_X10_show v1 0 M).bind fun q1 =>
      (F_X10_in q1 1 2).bind fun q2 =>
      if q2 = 0 then
        F_X10_storm_46 (fun v1 M => F_X10_storm_2 n v1 M) v1 M
      else
        (F_X10_show v1 4 M).bind fun q5 =>
        if q5 < (M.1 1 1) then
          F_X10_storm_47 (fun v1 M => F_X10_storm_2 n v1 M) v1 1 M
        else
          F_X10_storm_46 (fun v1 M => F_X10_storm_2 n v1 M) v1 M
    else
      some M
set_option maxRecDepth 100000 in
set_option maxHeartbeats 4000000 in
theorem ev_X10_storm_2  (q : eMem)  : ∀ (fuel : Nat) (v1 : Int32) (M : eMem), F_X10_storm_2 fuel v1 M = some q → Ev layR 1 m_X10_storm 2 [some (.ref 0), some (.int v1), none] [] M (none, q) := by
  intro fuel
  induction fuel with
  | zero => intro v1 M h; rw [F_X10_storm_2] at h; cases h
  | succ n ih =>
    intro v1 M h
    rw [F_X10_storm_2] at h
    refine Ev.iload_n (pc := 2) dX10_storm_2 rfl ?_
    refine Ev.aload_n (pc := 3) dX10_storm_3 rfl ?_
    refine Ev.getR (pc := 4) dX10_storm_4 fl_RX10_7 lR_0 rfl ?_
    refine Ev.bipush (pc := 7) dX10_storm_7 (v := 9) (by decide) ?_
    refine Ev.ialdj (pc := 9) dX10_storm_9 (j := 9) lR_1 (by decide) (by decide) ?_
    refine Ev.icmp_ge (pc := 10) (tgt := 76) dX10_storm_10 (by decide) (fun c9 => ?_) (fun c9 => ?_)
    · have h := eF h c9
      obtain rfl := Option.some.inj h
      exact Ev.vret (pc := 76) dX10_storm_76 rfl
    · have h := eT h c9
      refine Ev.aload_n (pc := 13) dX10_storm_13 rfl ?_
      refine Ev.iload_n (pc := 14) dX10_storm_14 rfl ?_
      refine Ev.iconst (pc := 15) dX10_storm_15 (v := 0) (by decide) ?_
      refine eBk h (fun q1 hq1 h => ?_)
      refine Ev.callV (pc := 16) (as := [.int v1, .int 0]) (st := []) (z := 0) dX10_storm_16 wc_X10_show ml_RX10_77 im_X10_show se_X10_show lR_0 rfl rfl (ev_X10_show v1 0 M _ hq1) rfl rfl (by decide) rfl rfl (Nat.le_of_ble_eq_true rfl) ?_
      refine Ev.iconst (pc := 19) dX10_storm_19 (v := 1) (by decide) ?_
      refine Ev.iconst (pc := 20) dX10_storm_20 (v := 2) (by decide) ?_
      refine eBk h (fun q2 hq2 h => ?_)
      refine Ev.callS (pc := 21) (as := [.int q1, .int 1, .int 2]) (st := []) (z := 0) dX10_storm_21 wc_X10_in ml_RX10_58 sm_X10_in (ev_X10_in q1 1 2 M _ hq2) rfl rfl (by decide) rfl rfl (Nat.le_of_ble_eq_true rfl) ?_
      refine Ev.if_eq (pc := 24) (tgt := 46) dX10_storm_24 (by decide) (fun c9 => ?_) (fun c9 => ?_)
      · have h := eT h c9
        exact Ev.fg (ev_X10_storm_46 _ _ ih _ _ h) (And.intro rfl (And.intro rfl trivial))
      · have h := eF h c9
        refine Ev.aload_n (pc := 27) dX10_storm_27 rfl ?_
        refine Ev.iload_n (pc := 28) dX10_storm_28 rfl ?_
        refine Ev.iconst (pc := 29) dX10_storm_29 (v := 4) (by decide) ?_
        refine eBk h (fun q5 hq5 h => ?_)
        refine Ev.callV (pc := 30) (as := [.int v1, .int 4]) (st := []) (z := 0) dX10_storm_30 wc_X10_show ml_RX10_77 im_X10_show se_X10_show lR_0 rfl rfl (ev_X10_show v1 4 M _ hq5) rfl rfl (by decide) rfl rfl (Nat.le_of_ble_eq_true rfl) ?_
        refine Ev.aload_n (pc := 33) dX10_storm_33 rfl ?_
        refine Ev.getR (pc := 34) dX10_storm_34 fl_RX10_7 lR_0 rfl ?_
        refine Ev.iconst (pc := 37) dX10_storm_37 (v := 1) (by decide) ?_
        refine Ev.ialdj (pc := 38) dX10_storm_38 (j := 1) lR_1 (by decide) (by decide) ?_
        refine Ev.icmp_ge (pc := 39) (tgt := 46) dX10_storm_39 (by decide) (fun c9 => ?_) (fun c9 => ?_)
        · have h := eF h c9
          exact Ev.fg (ev_X10_storm_46 _ _ ih _ _ h) (And.intro rfl (And.intro rfl trivial))
        · have h := eT h c9
          refine Ev.iconst (pc := 42) dX10_storm_42 (v := 1) (by decide) ?_
          refine Ev.goto (pc := 43) (tgt := 47) dX10_storm_43 (by decide) ?_
          exact Ev.fg (ev_X10_storm_47 _ _ ih _ _ _ h) (And.intro rfl (And.intro rfl trivial))
def F_X10_storm  (M : eMem) : Option eMem :=
  F_X10_storm_2 eFuel 0 M
set_option maxRecDepth 100000 in
set_option maxHeartbeats 4000000 in
theorem ev_X10_storm  (M : eMem) (q : eMem) (h : F_X10_storm  M = some q) : Ev layR 1 m_X10_storm 0 [some (.ref 0), none, none] [] M (none, q) := by
  rw [F_X10_storm] at h
  refine Ev.iconst (pc := 0) dX10_storm_0 (v := 0) (by decide) ?_
  refine Ev.istore_n (pc := 1) dX10_storm_1 (by decide) rfl rfl ?_
  exact Ev.fg (ev_X10_storm_2 _ _ _ _ h) (And.intro rfl (And.intro rfl trivial))
theorem dX10_flies_0 : decode cX10_flies 0 = .ok (.aload_n 0, 1) := by decide +kernel
theorem dX10_flies_1 : decode cX10_flies 1 = .ok (.getfield 7, 3) := by decide +kernel
theorem dX10_flies_4 : decode cX10_flies 4 = .ok (.iload_n 1, 1) := by decide +kernel
theorem dX10_flies_5 : decode cX10_flies 5 = .ok (.iconst 1, 1) := by decide +kernel
theorem dX10_flies_6 : decode cX10_flies 6 = .ok (.iadd, 1) := by decide +kernel
theorem dX10_flies_7 : decode cX10_flies 7 = .ok (.iaload, 1) := by decide +kernel
theorem dX10_flies_8 : decode cX10_flies 8 = .ok (.istore_n 2, 1) := by decide +kernel
theorem dX10_flies_9 : decode cX10_flies 9 = .ok (.aload_n 0, 1) := by decide +kernel
theorem dX10_flies_10 : decode cX10_flies 10 = .ok (.getfield 7, 3) := by decide +kernel
theorem dX10_flies_13 : decode cX10_flies 13 = .ok (.iload_n 1, 1) := by decide +kernel
theorem dX10_flies_14 : decode cX10_flies 14 = .ok (.iconst 2, 1) := by decide +kernel
theorem dX10_flies_15 : decode cX10_flies 15 = .ok (.iadd, 1) := by decide +kernel
theorem dX10_flies_16 : decode cX10_flies 16 = .ok (.iaload, 1) := by decide +kernel
theorem dX10_flies_17 : decode cX10_flies 17 = .ok (.istore_n 3, 1) := by decide +kernel
theorem dX10_flies_18 : decode cX10_flies 18 = .ok (.iload_n 3, 1) := by decide +kernel
theorem dX10_flies_19 : decode cX10_flies 19 = .ok (.aload_n 0, 1) := by decide +kernel
theorem dX10_flies_20 : decode cX10_flies 20 = .ok (.getfield 7, 3) := by decide +kernel
theorem dX10_flies_23 : decode cX10_flies 23 = .ok (.iconst 2, 1) := by decide +kernel
theorem dX10_flies_24 : decode cX10_flies 24 = .ok (.iaload, 1) := by decide +kernel
theorem dX10_flies_25 : decode cX10_flies 25 = .ok (.iadd, 1) := by decide +kernel
theorem dX10_flies_26 : decode cX10_flies 26 = .ok (.bipush 9, 2) := by decide +kernel
theorem dX10_flies_28 : decode cX10_flies 28 = .ok (.if_icmp .le 4, 3) := by decide +kernel
theorem dX10_flies_31 : decode cX10_flies 31 = .ok (.return_, 1) := by decide +kernel
theorem dX10_flies_32 : decode cX10_flies 32 = .ok (.aload_n 0, 1) := by decide +kernel
theorem dX10_flies_33 : decode cX10_flies 33 = .ok (.getfield 7, 3) := by decide +kernel
theorem dX10_flies_36 : decode cX10_flies 36 = .ok (.iconst 0, 1) := by decide +kernel
theorem dX10_flies_37 : decode cX10_flies 37 = .ok (.iaload, 1) := by decide +kernel
theorem dX10_flies_38 : decode cX10_flies 38 = .ok (.aload_n 0, 1) := by decide +kernel
theorem dX10_flies_39 : decode cX10_flies 39 = .ok (.getfield 7, 3) := by decide +kernel
theorem dX10_flies_42 : decode cX10_flies 42 = .ok (.iload_n 1, 1) := by decide +kernel
theorem dX10_flies_43 : decode cX10_flies 43 = .ok (.iconst 3, 1) := by decide +kernel
theorem dX10_flies_44 : decode cX10_flies 44 = .ok (.iadd, 1) := by decide +kernel
theorem dX10_flies_45 : decode cX10_flies 45 = .ok (.iaload, 1) := by decide +kernel
theorem dX10_flies_46 : decode cX10_flies 46 = .ok (.iadd, 1) := by decide +kernel
theorem dX10_flies_47 : decode cX10_flies 47 = .ok (.istore 4, 2) := by decide +kernel
theorem dX10_flies_49 : decode cX10_flies 49 = .ok (.iconst 0, 1) := by decide +kernel
theorem dX10_flies_50 : decode cX10_flies 50 = .ok (.istore 5, 2) := by decide +kernel
theorem dX10_flies_52 : decode cX10_flies 52 = .ok (.iload 5, 2) := by decide +kernel
theorem dX10_flies_54 : decode cX10_flies 54 = .ok (.aload_n 0, 1) := by decide +kernel
theorem dX10_flies_55 : decode cX10_flies 55 = .ok (.getfield 7, 3) := by decide +kernel
theorem dX10_flies_58 : decode cX10_flies 58 = .ok (.bipush 9, 2) := by decide +kernel
theorem dX10_flies_60 : decode cX10_flies 60 = .ok (.iaload, 1) := by decide +kernel
theorem dX10_flies_61 : decode cX10_flies 61 = .ok (.if_icmp .ge 79, 3) := by decide +kernel
theorem dX10_flies_64 : decode cX10_flies 64 = .ok (.aload_n 0, 1) := by decide +kernel
theorem dX10_flies_65 : decode cX10_flies 65 = .ok (.iload 5, 2) := by decide +kernel
theorem dX10_flies_67 : decode cX10_flies 67 = .ok (.iconst 0, 1) := by decide +kernel
theorem dX10_flies_68 : decode cX10_flies 68 = .ok (.invokevirtual 77, 3) := by decide +kernel
theorem dX10_flies_71 : decode cX10_flies 71 = .ok (.iconst 2, 1) := by decide +kernel
theorem dX10_flies_72 : decode cX10_flies 72 = .ok (.if_icmp .gt 62, 3) := by decide +kernel
theorem dX10_flies_75 : decode cX10_flies 75 = .ok (.aload_n 0, 1) := by decide +kernel
theorem dX10_flies_76 : decode cX10_flies 76 = .ok (.iload 5, 2) := by decide +kernel
theorem dX10_flies_78 : decode cX10_flies 78 = .ok (.iconst 2, 1) := by decide +kernel
theorem dX10_flies_79 : decode cX10_flies 79 = .ok (.invokevirtual 77, 3) := by decide +kernel
theorem dX10_flies_82 : decode cX10_flies 82 = .ok (.iload_n 2, 1) := by decide +kernel
theorem dX10_flies_83 : decode cX10_flies 83 = .ok (.if_icmp .ne 51, 3) := by decide +kernel
theorem dX10_flies_86 : decode cX10_flies 86 = .ok (.aload_n 0, 1) := by decide +kernel
theorem dX10_flies_87 : decode cX10_flies 87 = .ok (.iload 5, 2) := by decide +kernel
theorem dX10_flies_89 : decode cX10_flies 89 = .ok (.invokevirtual 80, 3) := by decide +kernel
theorem dX10_flies_92 : decode cX10_flies 92 = .ok (.ifCond .eq 42, 3) := by decide +kernel
theorem dX10_flies_95 : decode cX10_flies 95 = .ok (.aload_n 0, 1) := by decide +kernel
theorem dX10_flies_96 : decode cX10_flies 96 = .ok (.iconst 0, 1) := by decide +kernel
theorem dX10_flies_97 : decode cX10_flies 97 = .ok (.aload_n 0, 1) := by decide +kernel
theorem dX10_flies_98 : decode cX10_flies 98 = .ok (.iload 5, 2) := by decide +kernel
theorem dX10_flies_100 : decode cX10_flies 100 = .ok (.iconst 1, 1) := by decide +kernel
theorem dX10_flies_101 : decode cX10_flies 101 = .ok (.invokevirtual 77, 3) := by decide +kernel
theorem dX10_flies_104 : decode cX10_flies 104 = .ok (.iload_n 3, 1) := by decide +kernel
theorem dX10_flies_105 : decode cX10_flies 105 = .ok (.aload_n 0, 1) := by decide +kernel
theorem dX10_flies_106 : decode cX10_flies 106 = .ok (.iload 5, 2) := by decide +kernel
theorem dX10_flies_108 : decode cX10_flies 108 = .ok (.invokevirtual 124, 3) := by decide +kernel
theorem dX10_flies_111 : decode cX10_flies 111 = .ok (.if_icmp .lt 7, 3) := by decide +kernel
theorem dX10_flies_114 : decode cX10_flies 114 = .ok (.iconst 1, 1) := by decide +kernel
theorem dX10_flies_115 : decode cX10_flies 115 = .ok (.goto 4, 3) := by decide +kernel
theorem dX10_flies_118 : decode cX10_flies 118 = .ok (.iconst 0, 1) := by decide +kernel
theorem dX10_flies_119 : decode cX10_flies 119 = .ok (.aload_n 0, 1) := by decide +kernel
theorem dX10_flies_120 : decode cX10_flies 120 = .ok (.getfield 7, 3) := by decide +kernel
theorem dX10_flies_123 : decode cX10_flies 123 = .ok (.iconst 0, 1) := by decide +kernel
theorem dX10_flies_124 : decode cX10_flies 124 = .ok (.iaload, 1) := by decide +kernel
theorem dX10_flies_125 : decode cX10_flies 125 = .ok (.iload 4, 2) := by decide +kernel
theorem dX10_flies_127 : decode cX10_flies 127 = .ok (.iload 5, 2) := by decide +kernel
theorem dX10_flies_129 : decode cX10_flies 129 = .ok (.invokevirtual 130, 3) := by decide +kernel
theorem dX10_flies_132 : decode cX10_flies 132 = .ok (.istore 6, 2) := by decide +kernel
theorem dX10_flies_134 : decode cX10_flies 134 = .ok (.iinc 5 1, 3) := by decide +kernel
theorem dX10_flies_137 : decode cX10_flies 137 = .ok (.goto (-85), 3) := by decide +kernel
theorem dX10_flies_140 : decode cX10_flies 140 = .ok (.iconst 0, 1) := by decide +kernel
theorem dX10_flies_141 : decode cX10_flies 141 = .ok (.istore 5, 2) := by decide +kernel
theorem dX10_flies_143 : decode cX10_flies 143 = .ok (.iload 5, 2) := by decide +kernel
theorem dX10_flies_145 : decode cX10_flies 145 = .ok (.aload_n 0, 1) := by decide +kernel
theorem dX10_flies_146 : decode cX10_flies 146 = .ok (.getfield 7, 3) := by decide +kernel
theorem dX10_flies_149 : decode cX10_flies 149 = .ok (.bipush 8, 2) := by decide +kernel
theorem dX10_flies_151 : decode cX10_flies 151 = .ok (.iaload, 1) := by decide +kernel
theorem dX10_flies_152 : decode cX10_flies 152 = .ok (.if_icmp .ge 124, 3) := by decide +kernel
theorem dX10_flies_155 : decode cX10_flies 155 = .ok (.aload_n 0, 1) := by decide +kernel
theorem dX10_flies_156 : decode cX10_flies 156 = .ok (.getfield 7, 3) := by decide +kernel
theorem dX10_flies_159 : decode cX10_flies 159 = .ok (.bipush 14, 2) := by decide +kernel
theorem dX10_flies_161 : decode cX10_flies 161 = .ok (.iload_n 2, 1) := by decide +kernel
theorem dX10_flies_162 : decode cX10_flies 162 = .ok (.iadd, 1) := by decide +kernel
theorem dX10_flies_163 : decode cX10_flies 163 = .ok (.iaload, 1) := by decide +kernel
theorem dX10_flies_164 : decode cX10_flies 164 = .ok (.iconst 1, 1) := by decide +kernel
theorem dX10_flies_165 : decode cX10_flies 165 = .ok (.if_icmp .ne 12, 3) := by decide +kernel
theorem dX10_flies_168 : decode cX10_flies 168 = .ok (.iload_n 3, 1) := by decide +kernel
theorem dX10_flies_169 : decode cX10_flies 169 = .ok (.iconst 2, 1) := by decide +kernel
theorem dX10_flies_170 : decode cX10_flies 170 = .ok (.if_icmp .le 7, 3) := by decide +kernel
theorem dX10_flies_173 : decode cX10_flies 173 = .ok (.iconst 1, 1) := by decide +kernel
theorem dX10_flies_174 : decode cX10_flies 174 = .ok (.goto 4, 3) := by decide +kernel
theorem dX10_flies_177 : decode cX10_flies 177 = .ok (.iconst 0, 1) := by decide +kernel
theorem dX10_flies_178 : decode cX10_flies 178 = .ok (.istore 6, 2) := by decide +kernel
theorem dX10_flies_180 : decode cX10_flies 180 = .ok (.aload_n 0, 1) := by decide +kernel
theorem dX10_flies_181 : decode cX10_flies 181 = .ok (.getfield 7, 3) := by decide +kernel
theorem dX10_flies_184 : decode cX10_flies 184 = .ok (.iload 5, 2) := by decide +kernel
theorem dX10_flies_186 : decode cX10_flies 186 = .ok (.iconst 0, 1) := by decide +kernel
theorem dX10_flies_187 : decode cX10_flies 187 = .ok (.invokestatic 74, 3) := by decide +kernel
theorem dX10_flies_190 : decode cX10_flies 190 = .ok (.iaload, 1) := by decide +kernel
theorem dX10_flies_191 : decode cX10_flies 191 = .ok (.iload_n 2, 1) := by decide +kernel
theorem dX10_flies_192 : decode cX10_flies 192 = .ok (.if_icmp .ne 78, 3) := by decide +kernel
theorem dX10_flies_195 : decode cX10_flies 195 = .ok (.aload_n 0, 1) := by decide +kernel
theorem dX10_flies_196 : decode cX10_flies 196 = .ok (.getfield 7, 3) := by decide +kernel
theorem dX10_flies_199 : decode cX10_flies 199 = .ok (.iload 5, 2) := by decide +kernel
theorem dX10_flies_201 : decode cX10_flies 201 = .ok (.iconst 2, 1) := by decide +kernel
theorem dX10_flies_202 : decode cX10_flies 202 = .ok (.invokestatic 74, 3) := by decide +kernel
theorem dX10_flies_205 : decode cX10_flies 205 = .ok (.iaload, 1) := by decide +kernel
theorem dX10_flies_206 : decode cX10_flies 206 = .ok (.ifCond .ge 64, 3) := by decide +kernel
theorem dX10_flies_209 : decode cX10_flies 209 = .ok (.iload 6, 2) := by decide +kernel
theorem dX10_flies_211 : decode cX10_flies 211 = .ok (.ifCond .eq 6, 3) := by decide +kernel
theorem dX10_flies_214 : decode cX10_flies 214 = .ok (.goto 56, 3) := by decide +kernel
theorem dX10_flies_217 : decode cX10_flies 217 = .ok (.iconst 0, 1) := by decide +kernel
theorem dX10_flies_218 : decode cX10_flies 218 = .ok (.istore 7, 2) := by decide +kernel
theorem dX10_flies_220 : decode cX10_flies 220 = .ok (.iload 7, 2) := by decide +kernel
theorem dX10_flies_222 : decode cX10_flies 222 = .ok (.iconst 4, 1) := by decide +kernel
theorem dX10_flies_223 : decode cX10_flies 223 = .ok (.if_icmp .ge 47, 3) := by decide +kernel
theorem dX10_flies_226 : decode cX10_flies 226 = .ok (.aload_n 0, 1) := by decide +kernel
theorem dX10_flies_227 : decode cX10_flies 227 = .ok (.getfield 7, 3) := by decide +kernel
theorem dX10_flies_230 : decode cX10_flies 230 = .ok (.sipush 290, 3) := by decide +kernel
theorem dX10_flies_233 : decode cX10_flies 233 = .ok (.iload 7, 2) := by decide +kernel
theorem dX10_flies_235 : decode cX10_flies 235 = .ok (.iadd, 1) := by decide +kernel
theorem dX10_flies_236 : decode cX10_flies 236 = .ok (.iaload, 1) := by decide +kernel
theorem dX10_flies_237 : decode cX10_flies 237 = .ok (.iload_n 2, 1) := by decide +kernel
theorem dX10_flies_238 : decode cX10_flies 238 = .ok (.if_icmp .ne 23, 3) := by decide +kernel
theorem dX10_flies_241 : decode cX10_flies 241 = .ok (.aload_n 0, 1) := by decide +kernel
theorem dX10_flies_242 : decode cX10_flies 242 = .ok (.iconst 0, 1) := by decide +kernel
theorem dX10_flies_243 : decode cX10_flies 243 = .ok (.iload 7, 2) := by decide +kernel
theorem dX10_flies_245 : decode cX10_flies 245 = .ok (.iconst 1, 1) := by decide +kernel
theorem dX10_flies_246 : decode cX10_flies 246 = .ok (.aload_n 0, 1) := by decide +kernel
theorem dX10_flies_247 : decode cX10_flies 247 = .ok (.getfield 7, 3) := by decide +kernel
theorem dX10_flies_250 : decode cX10_flies 250 = .ok (.iconst 0, 1) := by decide +kernel
theorem dX10_flies_251 : decode cX10_flies 251 = .ok (.iaload, 1) := by decide +kernel
theorem dX10_flies_252 : decode cX10_flies 252 = .ok (.iload 4, 2) := by decide +kernel
theorem dX10_flies_254 : decode cX10_flies 254 = .ok (.iconst (-1), 1) := by decide +kernel
theorem dX10_flies_255 : decode cX10_flies 255 = .ok (.invokevirtual 130, 3) := by decide +kernel
theorem dX10_flies_258 : decode cX10_flies 258 = .ok (.goto 4, 3) := by decide +kernel
theorem dX10_flies_261 : decode cX10_flies 261 = .ok (.iconst (-1), 1) := by decide +kernel
theorem dX10_flies_262 : decode cX10_flies 262 = .ok (.istore 8, 2) := by decide +kernel
theorem dX10_flies_264 : decode cX10_flies 264 = .ok (.iinc 7 1, 3) := by decide +kernel
theorem dX10_flies_267 : decode cX10_flies 267 = .ok (.goto (-47), 3) := by decide +kernel
theorem dX10_flies_270 : decode cX10_flies 270 = .ok (.iinc 5 1, 3) := by decide +kernel
theorem dX10_flies_273 : decode cX10_flies 273 = .ok (.goto (-130), 3) := by decide +kernel
theorem dX10_flies_276 : decode cX10_flies 276 = .ok (.return_, 1) := by decide +kernel
def F_X10_flies_119 (rec : Int32 → Int32 → Int32 → Int32 → eMem → Option eMem) (K140 : Int32 → Int32 → Int32 → eMem → Option eMem) (v2 : Int32) (v3 : Int32) (v4 : Int32) (v5 : Int32) (s0 : Int32) (s1 : Int32) (s2 : Int32) (M : eMem) : Option eMem :=
  (F_X10_comes s2 s1 s0 (M.1 1 0) v4 v5 M).bind fun q6 =>
  rec v2 v3 v4 (v5 + 1) q6.2
set_option maxRecDepth 100000 in
set_option maxHeartbeats 4000000 in
theorem ev_X10_flies_119 (rec : Int32 → Int32 → Int32 → Int32 → eMem → Option eMem) (K140 : Int32 → Int32 → Int32 → eMem → Option eMem) (q : eMem) (hrec : ∀ (v2 : Int32) (v3 : Int32) (v4 : Int32) (v5 : Int32) (M : eMem), rec v2 v3 v4 v5 M = some q → Ev layR 7 m_X10_flies 52 [some (.ref 0), none, some (.int v2), some (.int v3), some (.int v4), some (.int v5), none, none, none] [] M (none, q)) (hK140 : ∀ (v2 : Int32) (v3 : Int32) (v4 : Int32) (M : eMem), K140 v2 v3 v4 M = some q → Ev layR 7 m_X10_flies 140 [some (.ref 0), none, some (.int v2), some (.int v3), some (.int v4), none, none, none, none] [] M (none, q)) (v2 : Int32) (v3 : Int32) (v4 : Int32) (v5 : Int32) (s0 : Int32) (s1 : Int32) (s2 : Int32) (M : eMem) (h : F_X10_flies_119 rec K140 v2 v3 v4 v5 s0 s1 s2 M = some q) : Ev layR 7 m_X10_flies 119 [some (.ref 0), none, some (.int v2), some (.int v3), some (.int v4), some (.int v5), none, none, none] [.int s0, .int s1, .int s2, .ref 0] M (none, q) := by
  rw [F_X10_flies_119] at h
  refine Ev.aload_n (pc := 119) dX10_flies_119 rfl ?_
  refine Ev.getR (pc := 120) dX10_flies_120 fl_RX10_7 lR_0 rfl ?_
  refine Ev.iconst (pc := 123) dX10_flies_123 (v := 0) (by decide) ?_
  refine Ev.ialdj (pc := 124) dX10_flies_124 (j := 0) lR_1 (by decide) (by decide) ?_
  refine Ev.iload (pc := 125) dX10_flies_125 rfl ?_
  refine Ev.iload (pc := 127) dX10_flies_127 rfl ?_
  refine eBk h (fun q6 hq6 h => ?_)
  refine Ev.callV (pc := 129) (as := [.int s2, .int s1, .int s0, .int (M.1 1 0), .int v4, .int v5]) (st := []) (z := 1) dX10_flies_129 wc_X10_comes ml_RX10_130 im_X10_comes se_X10_comes lR_0 rfl rfl (ev_X10_comes s2 s1 s0 (M.1 1 0) v4 v5 M _ hq6) rfl rfl (by decide) rfl rfl (Nat.le_of_ble_eq_true rfl) ?_
  refine Ev.istore (pc := 132) dX10_flies_132 (by decide) rfl rfl ?_
  refine Ev.iincv (pc := 134) dX10_flies_134 (v := 1) (by decide) rfl (by decide) rfl rfl ?_
  refine Ev.goto (pc := 137) (tgt := 52) dX10_flies_137 (by decide) ?_
  exact Ev.fg (hrec _ _ _ _ _ h) (And.intro rfl (And.intro rfl (And.intro rfl (And.intro rfl (And.intro rfl trivial)))))
def F_X10_flies_52 (K140 : Int32 → Int32 → Int32 → eMem → Option eMem) : Nat → Int32 → Int32 → Int32 → Int32 → eMem → Option eMem
  | 0, _, _, _, _, _ => none
  | n + 1, v2, v3, v4, v5, M =>
    if v5 < (M.1 1 9) then
      (F_X10_show v5 0 M).bind fun q1 =>
      if 2 < q1 then
        F_X10_flies_52 K140 n v2 v3 v4 (v5 + 1) M
      else
        (F_X10_show v5 2 M).bind fun q2 =>
        if q2 = v2 then
          (F_X10_isShown v5 M).bind fun q3 =>
          if q3 = 0 then
            F_X10_flies_52 K140 n v2 v3 v4 (v5 + 1) M
          else
            (F_X10_show v5 1 M).bind fun q4 =>
            (F_X10_topOf v5 M).bind fun q5 =>
            if v3 < q5 then
              F_X10_flies_119 (fun v2 v3 v4 v5 M => F_X10_flies_52 K140 n v2 v3 v4 v5 M) K140 v2 v3 v4 v5 0 q4 0 M
            else
              F_X10_flies_119 (fun v2 v3 v4 v5 M => F_X10_flies_52 K140 n v2 v3 v4 v5 M) K140 v2 v3 v4 v5 1 q4 0 M
        else
          F_X10_flies_52 K140 n v2 v3 v4 (v5 + 1) M
    else
      K140 v2 v3 v4 M
set_option maxRecDepth 100000 in
set_option maxHeartbeats 4000000 in
theorem ev_X10_flies_52 (K140 : Int32 → Int32 → Int32 → eMem → Option eMem) (q : eMem) (hK140 : ∀ (v2 : Int32) (v3 : Int32) (v4 : Int32) (M : eMem), K140 v2 v3 v4 M = some q → Ev layR 7 m_X10_flies 140 [some (.ref 0), none, some (.int v2), some (.int v3), some (.int v4), none, none, none, none] [] M (none, q)) : ∀ (fuel : Nat) (v2 : Int32) (v3 : Int32) (v4 : Int32) (v5 : Int32) (M : eMem), F_X10_flies_52 K140 fuel v2 v3 v4 v5 M = some q → Ev layR 7 m_X10_flies 52 [some (.ref 0), none, some (.int v2), some (.int v3), some (.int v4), some (.int v5), none, none, none] [] M (none, q) := by
  intro fuel
  induction fuel with
  | zero => intro v2 v3 v4 v5 M h; rw [F_X10_flies_52] at h; cases h
  | succ n ih =>
    intro v2 v3 v4 v5 M h
    rw [F_X10_flies_52] at h
    refine Ev.iload (pc := 52) dX10_flies_52 rfl ?_
    refine Ev.aload_n (pc := 54) dX10_flies_54 rfl ?_
    refine Ev.getR (pc := 55) dX10_flies_55 fl_RX10_7 lR_0 rfl ?_
    refine Ev.bipush (pc := 58) dX10_flies_58 (v := 9) (by decide) ?_
    refine Ev.ialdj (pc := 60) dX10_flies_60 (j := 9) lR_1 (by decide) (by decide) ?_
    refine Ev.icmp_ge (pc := 61) (tgt := 140) dX10_flies_61 (by decide) (fun c9 => ?_) (fun c9 => ?_)
    · have h := eF h c9
      exact Ev.fg (hK140 _ _ _ _ h) (And.intro rfl (And.intro rfl (And.intro rfl (And.intro rfl trivial))))
    · have h := eT h c9
      refine Ev.aload_n (pc := 64) dX10_flies_64 rfl ?_
      refine Ev.iload (pc := 65) dX10_flies_65 rfl ?_
      refine Ev.iconst (pc := 67) dX10_flies_67 (v := 0) (by decide) ?_
      refine eBk h (fun q1 hq1 h => ?_)
      refine Ev.callV (pc := 68) (as := [.int v5, .int 0]) (st := []) (z := 0) dX10_flies_68 wc_X10_show ml_RX10_77 im_X10_show se_X10_show lR_0 rfl rfl (ev_X10_show v5 0 M _ hq1) rfl rfl (by decide) rfl rfl (Nat.le_of_ble_eq_true rfl) ?_
      refine Ev.iconst (pc := 71) dX10_flies_71 (v := 2) (by decide) ?_
      refine Ev.icmp_gt (pc := 72) (tgt := 134) dX10_flies_72 (by decide) (fun c9 => ?_) (fun c9 => ?_)
      · have h := eT h c9
        refine Ev.iincv (pc := 134) dX10_flies_134 (v := 1) (by decide) rfl (by decide) rfl rfl ?_
        refine Ev.goto (pc := 137) (tgt := 52) dX10_flies_137 (by decide) ?_
        exact Ev.fg (ih _ _ _ _ _ h) (And.intro rfl (And.intro rfl (And.intro rfl (And.intro rfl (And.intro rfl trivial)))))
      · have h := eF h c9
        refine Ev.aload_n (pc := 75) dX10_flies_75 rfl ?_
        refine Ev.iload (pc := 76) dX10_flies_76 rfl ?_
        refine Ev.iconst (pc := 78) dX10_flies_78 (v := 2) (by decide) ?_
        refine eBk h (fun q2 hq2 h => ?_)
        refine Ev.callV (pc := 79) (as := [.int v5, .int 2]) (st := []) (z := 0) dX10_flies_79 wc_X10_show ml_RX10_77 im_X10_show se_X10_show lR_0 rfl rfl (ev_X10_show v5 2 M _ hq2) rfl rfl (by decide) rfl rfl (Nat.le_of_ble_eq_true rfl) ?_
        refine Ev.iload_n (pc := 82) dX10_flies_82 rfl ?_
        refine Ev.icmp_ne (pc := 83) (tgt := 134) dX10_flies_83 (by decide) (fun c9 => ?_) (fun c9 => ?_)
        · have h := eF h c9
          refine Ev.iincv (pc := 134) dX10_flies_134 (v := 1) (by decide) rfl (by decide) rfl rfl ?_
          refine Ev.goto (pc := 137) (tgt := 52) dX10_flies_137 (by decide) ?_
          exact Ev.fg (ih _ _ _ _ _ h) (And.intro rfl (And.intro rfl (And.intro rfl (And.intro rfl (And.intro rfl trivial)))))
        · have h := eT h c9
          refine Ev.aload_n (pc := 86) dX10_flies_86 rfl ?_
          refine Ev.iload (pc := 87) dX10_flies_87 rfl ?_
          refine eBk h (fun q3 hq3 h => ?_)
          refine Ev.callV (pc := 89) (as := [.int v5]) (st := []) (z := 0) dX10_flies_89 wc_X10_isShown ml_RX10_80 im_X10_isShown se_X10_isShown lR_0 rfl rfl (ev_X10_isShown v5 M _ hq3) rfl rfl (by decide) rfl rfl (Nat.le_of_ble_eq_true rfl) ?_
          refine Ev.if_eq (pc := 92) (tgt := 134) dX10_flies_92 (by decide) (fun c9 => ?_) (fun c9 => ?_)
          · have h := eT h c9
            refine Ev.iincv (pc := 134) dX10_flies_134 (v := 1) (by decide) rfl (by decide) rfl rfl ?_
            refine Ev.goto (pc := 137) (tgt := 52) dX10_flies_137 (by decide) ?_
            exact Ev.fg (ih _ _ _ _ _ h) (And.intro rfl (And.intro rfl (And.intro rfl (And.intro rfl (And.intro rfl trivial)))))
          · have h := eF h c9
            refine Ev.aload_n (pc := 95) dX10_flies_95 rfl ?_
            refine Ev.iconst (pc := 96) dX10_flies_96 (v := 0) (by decide) ?_
            refine Ev.aload_n (pc := 97) dX10_flies_97 rfl ?_
            refine Ev.iload (pc := 98) dX10_flies_98 rfl ?_
            refine Ev.iconst (pc := 100) dX10_flies_100 (v := 1) (by decide) ?_
            refine eBk h (fun q4 hq4 h => ?_)
            refine Ev.callV (pc := 101) (as := [.int v5, .int 1]) (st := [.int 0, .ref 0]) (z := 0) dX10_flies_101 wc_X10_show ml_RX10_77 im_X10_show se_X10_show lR_0 rfl rfl (ev_X10_show v5 1 M _ hq4) rfl rfl (by decide) rfl rfl (Nat.le_of_ble_eq_true rfl) ?_
            refine Ev.iload_n (pc := 104) dX10_flies_104 rfl ?_
            refine Ev.aload_n (pc := 105) dX10_flies_105 rfl ?_
            refine Ev.iload (pc := 106) dX10_flies_106 rfl ?_
            refine eBk h (fun q5 hq5 h => ?_)
            refine Ev.callV (pc := 108) (as := [.int v5]) (st := [.int v3, .int q4, .int 0, .ref 0]) (z := 0) dX10_flies_108 wc_X10_topOf ml_RX10_124 im_X10_topOf se_X10_topOf lR_0 rfl rfl (ev_X10_topOf v5 M _ hq5) rfl rfl (by decide) rfl rfl (Nat.le_of_ble_eq_true rfl) ?_
            refine Ev.icmp_lt (pc := 111) (tgt := 118) dX10_flies_111 (by decide) (fun c9 => ?_) (fun c9 => ?_)
            · have h := eT h c9
              refine Ev.iconst (pc := 118) dX10_flies_118 (v := 0) (by decide) ?_
              exact Ev.fg (ev_X10_flies_119 _ _ _ ih hK140 _ _ _ _ _ _ _ _ h) (And.intro rfl (And.intro rfl (And.intro rfl (And.intro rfl (And.intro rfl trivial)))))
            · have h := eF h c9
              refine Ev.iconst (pc := 114) dX10_flies_114 (v := 1) (by decide) ?_
              refine Ev.goto (pc := 115) (tgt := 119) dX10_flies_115 (by decide) ?_
              exact Ev.fg (ev_X10_flies_119 _ _ _ ih hK140 _ _ _ _ _ _ _ _ h) (And.intro rfl (And.intro rfl (And.intro rfl (And.intro rfl (And.intro rfl trivial)))))
def F_X10_flies_220 (K270 : Int32 → Int32 → Int32 → Int32 → eMem → Option eMem) : Nat → Int32 → Int32 → Int32 → Int32 → Int32 → eMem → Option eMem
  | 0, _, _, _, _, _, _ => none
  | n + 1, v2, v3, v4, v5, v7, M =>
    if v7 < 4 then
      eG (eIn (290 + v7) 2900) <|
      if (M.1 1 (290 + v7).toNatClampNeg) = v2 then
        (F_X10_comes 0 v7 1 (M.1 1 0) v4 (-1) M).bind fun q9 =>
        F_X10_flies_220 K270 n v2 v3 v4 v5 (v7 + 1) q9.2
      else
        F_X10_flies_220 K270 n v2 v3 v4 v5 (v7 + 1) M
    else
      K270 v2 v3 v4 v5 M
set_option maxRecDepth 100000 in
set_option maxHeartbeats 4000000 in
theorem ev_X10_flies_220 (K270 : Int32 → Int32 → Int32 → Int32 → eMem → Option eMem) (q : eMem) (hK270 : ∀ (v2 : Int32) (v3 : Int32) (v4 : Int32) (v5 : Int32) (M : eMem), K270 v2 v3 v4 v5 M = some q → Ev layR 7 m_X10_flies 270 [some (.ref 0), none, some (.int v2), some (.int v3), some (.int v4), some (.int v5), none, none, none] [] M (none, q)) : ∀ (fuel : Nat) (v2 : Int32) (v3 : Int32) (v4 : Int32) (v5 : Int32) (v7 : Int32) (M : eMem), F_X10_flies_220 K270 fuel v2 v3 v4 v5 v7 M = some q → Ev layR 7 m_X10_flies 220 [some (.ref 0), none, some (.int v2), some (.int v3), some (.int v4), some (.int v5), none, some (.int v7), none] [] M (none, q) := by
  intro fuel
  induction fuel with
  | zero => intro v2 v3 v4 v5 v7 M h; rw [F_X10_flies_220] at h; cases h
  | succ n ih =>
    intro v2 v3 v4 v5 v7 M h
    rw [F_X10_flies_220] at h
    refine Ev.iload (pc := 220) dX10_flies_220 rfl ?_
    refine Ev.iconst (pc := 222) dX10_flies_222 (v := 4) (by decide) ?_
    refine Ev.icmp_ge (pc := 223) (tgt := 270) dX10_flies_223 (by decide) (fun c9 => ?_) (fun c9 => ?_)
    · have h := eF h c9
      exact Ev.fg (hK270 _ _ _ _ _ h) (And.intro rfl (And.intro rfl (And.intro rfl (And.intro rfl (And.intro rfl trivial)))))
    · have h := eT h c9
      refine Ev.aload_n (pc := 226) dX10_flies_226 rfl ?_
      refine Ev.getR (pc := 227) dX10_flies_227 fl_RX10_7 lR_0 rfl ?_
      refine Ev.sipush (pc := 230) dX10_flies_230 (v := 290) (by decide) ?_
      refine Ev.iload (pc := 233) dX10_flies_233 rfl ?_
      refine Ev.iadd (pc := 235) dX10_flies_235 ?_
      obtain ⟨g9, h⟩ := eGdB h
      refine Ev.ialdj (pc := 236) dX10_flies_236 (j := (290 + v7).toNatClampNeg) lR_1 g9 rfl ?_
      refine Ev.iload_n (pc := 237) dX10_flies_237 rfl ?_
      refine Ev.icmp_ne (pc := 238) (tgt := 261) dX10_flies_238 (by decide) (fun c9 => ?_) (fun c9 => ?_)
      · have h := eF h c9
        refine Ev.iconst (pc := 261) dX10_flies_261 (v := (-1)) (by decide) ?_
        refine Ev.istore (pc := 262) dX10_flies_262 (by decide) rfl rfl ?_
        refine Ev.iincv (pc := 264) dX10_flies_264 (v := 1) (by decide) rfl (by decide) rfl rfl ?_
        refine Ev.goto (pc := 267) (tgt := 220) dX10_flies_267 (by decide) ?_
        exact Ev.fg (ih _ _ _ _ _ _ h) (And.intro rfl (And.intro rfl (And.intro rfl (And.intro rfl (And.intro rfl (And.intro rfl trivial))))))
      · have h := eT h c9
        refine Ev.aload_n (pc := 241) dX10_flies_241 rfl ?_
        refine Ev.iconst (pc := 242) dX10_flies_242 (v := 0) (by decide) ?_
        refine Ev.iload (pc := 243) dX10_flies_243 rfl ?_
        refine Ev.iconst (pc := 245) dX10_flies_245 (v := 1) (by decide) ?_
        refine Ev.aload_n (pc := 246) dX10_flies_246 rfl ?_
        refine Ev.getR (pc := 247) dX10_flies_247 fl_RX10_7 lR_0 rfl ?_
        refine Ev.iconst (pc := 250) dX10_flies_250 (v := 0) (by decide) ?_
        refine Ev.ialdj (pc := 251) dX10_flies_251 (j := 0) lR_1 (by decide) (by decide) ?_
        refine Ev.iload (pc := 252) dX10_flies_252 rfl ?_
        refine Ev.iconst (pc := 254) dX10_flies_254 (v := (-1)) (by decide) ?_
        refine eBk h (fun q9 hq9 h => ?_)
        refine Ev.callV (pc := 255) (as := [.int 0, .int v7, .int 1, .int (M.1 1 0), .int v4, .int (-1)]) (st := []) (z := 1) dX10_flies_255 wc_X10_comes ml_RX10_130 im_X10_comes se_X10_comes lR_0 rfl rfl (ev_X10_comes 0 v7 1 (M.1 1 0) v4 (-1) M _ hq9) rfl rfl (by decide) rfl rfl (Nat.le_of_ble_eq_true rfl) ?_
        refine Ev.goto (pc := 258) (tgt := 262) dX10_flies_258 (by decide) ?_
        refine Ev.istore (pc := 262) dX10_flies_262 (by decide) rfl rfl ?_
        refine Ev.iincv (pc := 264) dX10_flies_264 (v := 1) (by decide) rfl (by decide) rfl rfl ?_
        refine Ev.goto (pc := 267) (tgt := 220) dX10_flies_267 (by decide) ?_
        exact Ev.fg (ih _ _ _ _ _ _ h) (And.intro rfl (And.intro rfl (And.intro rfl (And.intro rfl (And.intro rfl (And.intro rfl trivial))))))
def F_X10_flies_178 (rec : Int32 → Int32 → Int32 → Int32 → eMem → Option eMem) (v2 : Int32) (v3 : Int32) (v4 : Int32) (v5 : Int32) (s0 : Int32) (M : eMem) : Option eMem :=
  (F_X10_unitAt v5 0).bind fun q7 =>
  eG (eIn q7 2900) <|
  if (M.1 1 q7.toNatClampNeg) = v2 then
    (F_X10_unitAt v5 2).bind fun q8 =>
    eG (eIn q8 2900) <|
    if (M.1 1 q8.toNatClampNeg) < 0 then
      if s0 = 0 then
        F_X10_flies_220
          (fun v2 v3 v4 v5 M =>
            rec v2 v3 v4 (v5 + 1) M)
          eFuel v2 v3 v4 v5 0 M
      else
        rec v2 v3 v4 (v5 + 1) M
    else
      rec v2 v3 v4 (v5 + 1) M
  else
    rec v2 v3 v4 (v5 + 1) M
set_option maxRecDepth 100000 in
set_option maxHeartbeats 4000000 in
theorem ev_X10_flies_178 (rec : Int32 → Int32 → Int32 → Int32 → eMem → Option eMem) (q : eMem) (hrec : ∀ (v2 : Int32) (v3 : Int32) (v4 : Int32) (v5 : Int32) (M : eMem), rec v2 v3 v4 v5 M = some q → Ev layR 7 m_X10_flies 143 [some (.ref 0), none, some (.int v2), some (.int v3), some (.int v4), some (.int v5), none, none, none] [] M (none, q)) (v2 : Int32) (v3 : Int32) (v4 : Int32) (v5 : Int32) (s0 : Int32) (M : eMem) (h : F_X10_flies_178 rec v2 v3 v4 v5 s0 M = some q) : Ev layR 7 m_X10_flies 178 [some (.ref 0), none, some (.int v2), some (.int v3), some (.int v4), some (.int v5), none, none, none] [.int s0] M (none, q) := by
  rw [F_X10_flies_178] at h
  refine Ev.istore (pc := 178) dX10_flies_178 (by decide) rfl rfl ?_
  refine Ev.aload_n (pc := 180) dX10_flies_180 rfl ?_
  refine Ev.getR (pc := 181) dX10_flies_181 fl_RX10_7 lR_0 rfl ?_
  refine Ev.iload (pc := 184) dX10_flies_184 rfl ?_
  refine Ev.iconst (pc := 186) dX10_flies_186 (v := 0) (by decide) ?_
  refine eBk h (fun q7 hq7 h => ?_)
  refine Ev.callS (pc := 187) (as := [.int v5, .int 0]) (st := [.ref 1]) (z := 0) dX10_flies_187 wc_X10_unitAt ml_RX10_74 sm_X10_unitAt (ev_X10_unitAt v5 0 M _ hq7) rfl rfl (by decide) rfl rfl (Nat.le_of_ble_eq_true rfl) ?_
  obtain ⟨g9, h⟩ := eGdB h
  refine Ev.ialdj (pc := 190) dX10_flies_190 (j := q7.toNatClampNeg) lR_1 g9 rfl ?_
  refine Ev.iload_n (pc := 191) dX10_flies_191 rfl ?_
  refine Ev.icmp_ne (pc := 192) (tgt := 270) dX10_flies_192 (by decide) (fun c9 => ?_) (fun c9 => ?_)
  · have h := eF h c9
    refine Ev.iincv (pc := 270) dX10_flies_270 (v := 1) (by decide) rfl (by decide) rfl rfl ?_
    refine Ev.goto (pc := 273) (tgt := 143) dX10_flies_273 (by decide) ?_
    exact Ev.fg (hrec _ _ _ _ _ h) (And.intro rfl (And.intro rfl (And.intro rfl (And.intro rfl (And.intro rfl trivial)))))
  · have h := eT h c9
    refine Ev.aload_n (pc := 195) dX10_flies_195 rfl ?_
    refine Ev.getR (pc := 196) dX10_flies_196 fl_RX10_7 lR_0 rfl ?_
    refine Ev.iload (pc := 199) dX10_flies_199 rfl ?_
    refine Ev.iconst (pc := 201) dX10_flies_201 (v := 2) (by decide) ?_
    refine eBk h (fun q8 hq8 h => ?_)
    refine Ev.callS (pc := 202) (as := [.int v5, .int 2]) (st := [.ref 1]) (z := 0) dX10_flies_202 wc_X10_unitAt ml_RX10_74 sm_X10_unitAt (ev_X10_unitAt v5 2 M _ hq8) rfl rfl (by decide) rfl rfl (Nat.le_of_ble_eq_true rfl) ?_
    obtain ⟨g9, h⟩ := eGdB h
    refine Ev.ialdj (pc := 205) dX10_flies_205 (j := q8.toNatClampNeg) lR_1 g9 rfl ?_
    refine Ev.if_ge (pc := 206) (tgt := 270) dX10_flies_206 (by decide) (fun c9 => ?_) (fun c9 => ?_)
    · have h := eF h c9
      refine Ev.iincv (pc := 270) dX10_flies_270 (v := 1) (by decide) rfl (by decide) rfl rfl ?_
      refine Ev.goto (pc := 273) (tgt := 143) dX10_flies_273 (by decide) ?_
      exact Ev.fg (hrec _ _ _ _ _ h) (And.intro rfl (And.intro rfl (And.intro rfl (And.intro rfl (And.intro rfl trivial)))))
    · have h := eT h c9
      refine Ev.iload (pc := 209) dX10_flies_209 rfl ?_
      refine Ev.if_eq (pc := 211) (tgt := 217) dX10_flies_211 (by decide) (fun c9 => ?_) (fun c9 => ?_)
      · have h := eT h c9
        refine Ev.iconst (pc := 217) dX10_flies_217 (v := 0) (by decide) ?_
        refine Ev.istore (pc := 218) dX10_flies_218 (by decide) rfl rfl ?_
        refine Ev.fg (ev_X10_flies_220 _ _ ?_ _ _ _ _ _ _ _ h) (And.intro rfl (And.intro rfl (And.intro rfl (And.intro rfl (And.intro rfl (And.intro rfl trivial))))))
        · intro v2 v3 v4 v5 M h
          refine Ev.iincv (pc := 270) dX10_flies_270 (v := 1) (by decide) rfl (by decide) rfl rfl ?_
          refine Ev.goto (pc := 273) (tgt := 143) dX10_flies_273 (by decide) ?_
          exact Ev.fg (hrec _ _ _ _ _ h) (And.intro rfl (And.intro rfl (And.intro rfl (And.intro rfl (And.intro rfl trivial)))))
      · have h := eF h c9
        refine Ev.goto (pc := 214) (tgt := 270) dX10_flies_214 (by decide) ?_
        refine Ev.iincv (pc := 270) dX10_flies_270 (v := 1) (by decide) rfl (by decide) rfl rfl ?_
        refine Ev.goto (pc := 273) (tgt := 143) dX10_flies_273 (by decide) ?_
        exact Ev.fg (hrec _ _ _ _ _ h) (And.intro rfl (And.intro rfl (And.intro rfl (And.intro rfl (And.intro rfl trivial)))))
def F_X10_flies_177 (rec : Int32 → Int32 → Int32 → Int32 → eMem → Option eMem) (v2 : Int32) (v3 : Int32) (v4 : Int32) (v5 : Int32) (M : eMem) : Option eMem :=
  F_X10_flies_178 (fun v2 v3 v4 v5 M => rec v2 v3 v4 v5 M) v2 v3 v4 v5 0 M
set_option maxRecDepth 100000 in
set_option maxHeartbeats 4000000 in
theorem ev_X10_flies_177 (rec : Int32 → Int32 → Int32 → Int32 → eMem → Option eMem) (q : eMem) (hrec : ∀ (v2 : Int32) (v3 : Int32) (v4 : Int32) (v5 : Int32) (M : eMem), rec v2 v3 v4 v5 M = some q → Ev layR 7 m_X10_flies 143 [some (.ref 0), none, some (.int v2), some (.int v3), some (.int v4), some (.int v5), none, none, none] [] M (none, q)) (v2 : Int32) (v3 : Int32) (v4 : Int32) (v5 : Int32) (M : eMem) (h : F_X10_flies_177 rec v2 v3 v4 v5 M = some q) : Ev layR 7 m_X10_flies 177 [some (.ref 0), none, some (.int v2), some (.int v3), some (.int v4), some (.int v5), none, none, none] [] M (none, q) := by
  rw [F_X10_flies_177] at h
  refine Ev.iconst (pc := 177) dX10_flies_177 (v := 0) (by decide) ?_
  exact Ev.fg (ev_X10_flies_178 _ _ hrec _ _ _ _ _ _ h) (And.intro rfl (And.intro rfl (And.intro rfl (And.intro rfl (And.intro rfl trivial)))))
def F_X10_flies_143  : Nat → Int32 → Int32 → Int32 → Int32 → eMem → Option eMem
  | 0, _, _, _, _, _ => none
  | n + 1, v2, v3, v4, v5, M =>
    if v5 < (M.1 1 8) then
      eG (eIn (14 + v2) 2900) <|
      if (M.1 1 (14 + v2).toNatClampNeg) = 1 then
        if 2 < v3 then
          F_X10_flies_178 (fun v2 v3 v4 v5 M => F_X10_flies_143 n v2 v3 v4 v5 M) v2 v3 v4 v5 1 M
        else
          F_X10_flies_177 (fun v2 v3 v4 v5 M => F_X10_flies_143 n v2 v3 v4 v5 M) v2 v3 v4 v5 M
      else
        F_X10_flies_177 (fun v2 v3 v4 v5 M => F_X10_flies_143 n v2 v3 v4 v5 M) v2 v3 v4 v5 M
    else
      some M
set_option maxRecDepth 100000 in
set_option maxHeartbeats 4000000 in
theorem ev_X10_flies_143  (q : eMem)  : ∀ (fuel : Nat) (v2 : Int32) (v3 : Int32) (v4 : Int32) (v5 : Int32) (M : eMem), F_X10_flies_143 fuel v2 v3 v4 v5 M = some q → Ev layR 7 m_X10_flies 143 [some (.ref 0), none, some (.int v2), some (.int v3), some (.int v4), some (.int v5), none, none, none] [] M (none, q) := by
  intro fuel
  induction fuel with
  | zero => intro v2 v3 v4 v5 M h; rw [F_X10_flies_143] at h; cases h
  | succ n ih =>
    intro v2 v3 v4 v5 M h
    rw [F_X10_flies_143] at h
    refine Ev.iload (pc := 143) dX10_flies_143 rfl ?_
    refine Ev.aload_n (pc := 145) dX10_flies_145 rfl ?_
    refine Ev.getR (pc := 146) dX10_flies_146 fl_RX10_7 lR_0 rfl ?_
    refine Ev.bipush (pc := 149) dX10_flies_149 (v := 8) (by decide) ?_
    refine Ev.ialdj (pc := 151) dX10_flies_151 (j := 8) lR_1 (by decide) (by decide) ?_
    refine Ev.icmp_ge (pc := 152) (tgt := 276) dX10_flies_152 (by decide) (fun c9 => ?_) (fun c9 => ?_)
    · have h := eF h c9
      obtain rfl := Option.some.inj h
      exact Ev.vret (pc := 276) dX10_flies_276 rfl
    · have h := eT h c9
      refine Ev.aload_n (pc := 155) dX10_flies_155 rfl ?_
      refine Ev.getR (pc := 156) dX10_flies_156 fl_RX10_7 lR_0 rfl ?_
      refine Ev.bipush (pc := 159) dX10_flies_159 (v := 14) (by decide) ?_
      refine Ev.iload_n (pc := 161) dX10_flies_161 rfl ?_
      refine Ev.iadd (pc := 162) dX10_flies_162 ?_
      obtain ⟨g9, h⟩ := eGdB h
      refine Ev.ialdj (pc := 163) dX10_flies_163 (j := (14 + v2).toNatClampNeg) lR_1 g9 rfl ?_
      refine Ev.iconst (pc := 164) dX10_flies_164 (v := 1) (by decide) ?_
      refine Ev.icmp_ne (pc := 165) (tgt := 177) dX10_flies_165 (by decide) (fun c9 => ?_) (fun c9 => ?_)
      · have h := eF h c9
        exact Ev.fg (ev_X10_flies_177 _ _ ih _ _ _ _ _ h) (And.intro rfl (And.intro rfl (And.intro rfl (And.intro rfl (And.intro rfl trivial)))))
      · have h := eT h c9
        refine Ev.iload_n (pc := 168) dX10_flies_168 rfl ?_
        refine Ev.iconst (pc := 169) dX10_flies_169 (v := 2) (by decide) ?_
        refine Ev.icmp_le (pc := 170) (tgt := 177) dX10_flies_170 (by decide) (fun c9 => ?_) (fun c9 => ?_)
        · have h := eF h c9
          exact Ev.fg (ev_X10_flies_177 _ _ ih _ _ _ _ _ h) (And.intro rfl (And.intro rfl (And.intro rfl (And.intro rfl (And.intro rfl trivial)))))
        · have h := eT h c9
          refine Ev.iconst (pc := 173) dX10_flies_173 (v := 1) (by decide) ?_
          refine Ev.goto (pc := 174) (tgt := 178) dX10_flies_174 (by decide) ?_
          exact Ev.fg (ev_X10_flies_178 _ _ ih _ _ _ _ _ _ h) (And.intro rfl (And.intro rfl (And.intro rfl (And.intro rfl (And.intro rfl trivial)))))
def F_X10_flies (x1 : Int32) (M : eMem) : Option eMem :=
  eG (eIn (x1 + 1) 2900) <|
  eG (eIn (x1 + 2) 2900) <|
  if 9 < ((M.1 1 (x1 + 2).toNatClampNeg) + (M.1 1 2)) then
    some M
  else
    eG (eIn (x1 + 3) 2900) <|
    F_X10_flies_52
      (fun v2 v3 v4 M =>
        F_X10_flies_143 eFuel v2 v3 v4 0 M)
      eFuel (M.1 1 (x1 + 1).toNatClampNeg) (M.1 1 (x1 + 2).toNatClampNeg) ((M.1 1 0) + (M.1 1 (x1 + 3).toNatClampNeg)) 0 M
set_option maxRecDepth 100000 in
set_option maxHeartbeats 4000000 in
theorem ev_X10_flies (x1 : Int32) (M : eMem) (q : eMem) (h : F_X10_flies x1 M = some q) : Ev layR 7 m_X10_flies 0 [some (.ref 0), some (.int x1), none, none, none, none, none, none, none] [] M (none, q) := by
  rw [F_X10_flies] at h
  refine Ev.aload_n (pc := 0) dX10_flies_0 rfl ?_
  refine Ev.getR (pc := 1) dX10_flies_1 fl_RX10_7 lR_0 rfl ?_
  refine Ev.iload_n (pc := 4) dX10_flies_4 rfl ?_
  refine Ev.iconst (pc := 5) dX10_flies_5 (v := 1) (by decide) ?_
  refine Ev.iadd (pc := 6) dX10_flies_6 ?_
  obtain ⟨g9, h⟩ := eGdB h
  refine Ev.ialdj (pc := 7) dX10_flies_7 (j := (x1 + 1).toNatClampNeg) lR_1 g9 rfl ?_
  refine Ev.istore_n (pc := 8) dX10_flies_8 (by decide) rfl rfl ?_
  refine Ev.aload_n (pc := 9) dX10_flies_9 rfl ?_
  refine Ev.getR (pc := 10) dX10_flies_10 fl_RX10_7 lR_0 rfl ?_
  refine Ev.iload_n (pc := 13) dX10_flies_13 rfl ?_
  refine Ev.iconst (pc := 14) dX10_flies_14 (v := 2) (by decide) ?_
  refine Ev.iadd (pc := 15) dX10_flies_15 ?_
  obtain ⟨g9, h⟩ := eGdB h
  refine Ev.ialdj (pc := 16) dX10_flies_16 (j := (x1 + 2).toNatClampNeg) lR_1 g9 rfl ?_
  refine Ev.istore_n (pc := 17) dX10_flies_17 (by decide) rfl rfl ?_
  refine Ev.iload_n (pc := 18) dX10_flies_18 rfl ?_
  refine Ev.aload_n (pc := 19) dX10_flies_19 rfl ?_
  refine Ev.getR (pc := 20) dX10_flies_20 fl_RX10_7 lR_0 rfl ?_
  refine Ev.iconst (pc := 23) dX10_flies_23 (v := 2) (by decide) ?_
  refine Ev.ialdj (pc := 24) dX10_flies_24 (j := 2) lR_1 (by decide) (by decide) ?_
  refine Ev.iadd (pc := 25) dX10_flies_25 ?_
  refine Ev.bipush (pc := 26) dX10_flies_26 (v := 9) (by decide) ?_
  refine Ev.icmp_le (pc := 28) (tgt := 32) dX10_flies_28 (by decide) (fun c9 => ?_) (fun c9 => ?_)
  · have h := eF h c9
    refine Ev.aload_n (pc := 32) dX10_flies_32 rfl ?_
    refine Ev.getR (pc := 33) dX10_flies_33 fl_RX10_7 lR_0 rfl ?_
    refine Ev.iconst (pc := 36) dX10_flies_36 (v := 0) (by decide) ?_
    refine Ev.ialdj (pc := 37) dX10_flies_37 (j := 0) lR_1 (by decide) (by decide) ?_
    refine Ev.aload_n (pc := 38) dX10_flies_38 rfl ?_
    refine Ev.getR (pc := 39) dX10_flies_39 fl_RX10_7 lR_0 rfl ?_
    refine Ev.iload_n (pc := 42) dX10_flies_42 rfl ?_
    refine Ev.iconst (pc := 43) dX10_flies_43 (v := 3) (by decide) ?_
    refine Ev.iadd (pc := 44) dX10_flies_44 ?_
    obtain ⟨g9, h⟩ := eGdB h
    refine Ev.ialdj (pc := 45) dX10_flies_45 (j := (x1 + 3).toNatClampNeg) lR_1 g9 rfl ?_
    refine Ev.iadd (pc := 46) dX10_flies_46 ?_
    refine Ev.istore (pc := 47) dX10_flies_47 (by decide) rfl rfl ?_
    refine Ev.iconst (pc := 49) dX10_flies_49 (v := 0) (by decide) ?_
    refine Ev.istore (pc := 50) dX10_flies_50 (by decide) rfl rfl ?_
    refine Ev.fg (ev_X10_flies_52 _ _ ?_ _ _ _ _ _ _ h) (And.intro rfl (And.intro rfl (And.intro rfl (And.intro rfl (And.intro rfl trivial)))))
    · intro v2 v3 v4 M h
      refine Ev.iconst (pc := 140) dX10_flies_140 (v := 0) (by decide) ?_
      refine Ev.istore (pc := 141) dX10_flies_141 (by decide) rfl rfl ?_
      exact Ev.fg (ev_X10_flies_143 _ _ _ _ _ _ _ h) (And.intro rfl (And.intro rfl (And.intro rfl (And.intro rfl (And.intro rfl trivial)))))
  · have h := eT h c9
    obtain rfl := Option.some.inj h
    exact Ev.vret (pc := 31) dX10_flies_31 rfl
theorem dX10_listens_0 : decode cX10_listens 0 = .ok (.aload_n 0, 1) := by decide +kernel
theorem dX10_listens_1 : decode cX10_listens 1 = .ok (.getfield 7, 3) := by decide +kernel
theorem dX10_listens_4 : decode cX10_listens 4 = .ok (.iconst 0, 1) := by decide +kernel
theorem dX10_listens_5 : decode cX10_listens 5 = .ok (.iaload, 1) := by decide +kernel
theorem dX10_listens_6 : decode cX10_listens 6 = .ok (.bipush 24, 2) := by decide +kernel
theorem dX10_listens_8 : decode cX10_listens 8 = .ok (.irem, 1) := by decide +kernel
theorem dX10_listens_9 : decode cX10_listens 9 = .ok (.istore_n 1, 1) := by decide +kernel
theorem dX10_listens_10 : decode cX10_listens 10 = .ok (.iconst 0, 1) := by decide +kernel
theorem dX10_listens_11 : decode cX10_listens 11 = .ok (.istore_n 2, 1) := by decide +kernel
theorem dX10_listens_12 : decode cX10_listens 12 = .ok (.iload_n 2, 1) := by decide +kernel
theorem dX10_listens_13 : decode cX10_listens 13 = .ok (.aload_n 0, 1) := by decide +kernel
theorem dX10_listens_14 : decode cX10_listens 14 = .ok (.getfield 7, 3) := by decide +kernel
theorem dX10_listens_17 : decode cX10_listens 17 = .ok (.bipush 9, 2) := by decide +kernel
theorem dX10_listens_19 : decode cX10_listens 19 = .ok (.iaload, 1) := by decide +kernel
theorem dX10_listens_20 : decode cX10_listens 20 = .ok (.if_icmp .ge 72, 3) := by decide +kernel
theorem dX10_listens_23 : decode cX10_listens 23 = .ok (.aload_n 0, 1) := by decide +kernel
theorem dX10_listens_24 : decode cX10_listens 24 = .ok (.iload_n 2, 1) := by decide +kernel
theorem dX10_listens_25 : decode cX10_listens 25 = .ok (.iconst 0, 1) := by decide +kernel
theorem dX10_listens_26 : decode cX10_listens 26 = .ok (.invokevirtual 77, 3) := by decide +kernel
theorem dX10_listens_29 : decode cX10_listens 29 = .ok (.iconst 3, 1) := by decide +kernel
theorem dX10_listens_30 : decode cX10_listens 30 = .ok (.if_icmp .ne 56, 3) := by decide +kernel
theorem dX10_listens_33 : decode cX10_listens 33 = .ok (.iload_n 1, 1) := by decide +kernel
theorem dX10_listens_34 : decode cX10_listens 34 = .ok (.aload_n 0, 1) := by decide +kernel
theorem dX10_listens_35 : decode cX10_listens 35 = .ok (.iload_n 2, 1) := by decide +kernel
theorem dX10_listens_36 : decode cX10_listens 36 = .ok (.iconst 3, 1) := by decide +kernel
theorem dX10_listens_37 : decode cX10_listens 37 = .ok (.invokevirtual 77, 3) := by decide +kernel
theorem dX10_listens_40 : decode cX10_listens 40 = .ok (.aload_n 0, 1) := by decide +kernel
theorem dX10_listens_41 : decode cX10_listens 41 = .ok (.iload_n 2, 1) := by decide +kernel
theorem dX10_listens_42 : decode cX10_listens 42 = .ok (.iconst 4, 1) := by decide +kernel
theorem dX10_listens_43 : decode cX10_listens 43 = .ok (.invokevirtual 77, 3) := by decide +kernel
theorem dX10_listens_46 : decode cX10_listens 46 = .ok (.invokestatic 58, 3) := by decide +kernel
theorem dX10_listens_49 : decode cX10_listens 49 = .ok (.ifCond .eq 37, 3) := by decide +kernel
theorem dX10_listens_52 : decode cX10_listens 52 = .ok (.aload_n 0, 1) := by decide +kernel
theorem dX10_listens_53 : decode cX10_listens 53 = .ok (.iload_n 2, 1) := by decide +kernel
theorem dX10_listens_54 : decode cX10_listens 54 = .ok (.invokevirtual 80, 3) := by decide +kernel
theorem dX10_listens_57 : decode cX10_listens 57 = .ok (.ifCond .eq 29, 3) := by decide +kernel
theorem dX10_listens_60 : decode cX10_listens 60 = .ok (.aload_n 0, 1) := by decide +kernel
theorem dX10_listens_61 : decode cX10_listens 61 = .ok (.iconst 1, 1) := by decide +kernel
theorem dX10_listens_62 : decode cX10_listens 62 = .ok (.aload_n 0, 1) := by decide +kernel
theorem dX10_listens_63 : decode cX10_listens 63 = .ok (.iload_n 2, 1) := by decide +kernel
theorem dX10_listens_64 : decode cX10_listens 64 = .ok (.iconst 1, 1) := by decide +kernel
theorem dX10_listens_65 : decode cX10_listens 65 = .ok (.invokevirtual 77, 3) := by decide +kernel
theorem dX10_listens_68 : decode cX10_listens 68 = .ok (.iconst 1, 1) := by decide +kernel
theorem dX10_listens_69 : decode cX10_listens 69 = .ok (.aload_n 0, 1) := by decide +kernel
theorem dX10_listens_70 : decode cX10_listens 70 = .ok (.getfield 7, 3) := by decide +kernel
theorem dX10_listens_73 : decode cX10_listens 73 = .ok (.iconst 0, 1) := by decide +kernel
theorem dX10_listens_74 : decode cX10_listens 74 = .ok (.iaload, 1) := by decide +kernel
theorem dX10_listens_75 : decode cX10_listens 75 = .ok (.aload_n 0, 1) := by decide +kernel
theorem dX10_listens_76 : decode cX10_listens 76 = .ok (.getfield 7, 3) := by decide +kernel
theorem dX10_listens_79 : decode cX10_listens 79 = .ok (.iconst 0, 1) := by decide +kernel
theorem dX10_listens_80 : decode cX10_listens 80 = .ok (.iaload, 1) := by decide +kernel
theorem dX10_listens_81 : decode cX10_listens 81 = .ok (.iload_n 2, 1) := by decide +kernel
theorem dX10_listens_82 : decode cX10_listens 82 = .ok (.invokevirtual 130, 3) := by decide +kernel
theorem dX10_listens_85 : decode cX10_listens 85 = .ok (.istore_n 3, 1) := by decide +kernel
theorem dX10_listens_86 : decode cX10_listens 86 = .ok (.iinc 2 1, 3) := by decide +kernel
theorem dX10_listens_89 : decode cX10_listens 89 = .ok (.goto (-77), 3) := by decide +kernel
theorem dX10_listens_92 : decode cX10_listens 92 = .ok (.return_, 1) := by decide +kernel
def F_X10_listens_12  : Nat → Int32 → Int32 → eMem → Option eMem
  | 0, _, _, _ => none
  | n + 1, v1, v2, M =>
    if v2 < (M.1 1 9) then
      (F_X10_show v2 0 M).bind fun q1 =>
      if q1 = 3 then
        (F_X10_show v2 3 M).bind fun q2 =>
        (F_X10_show v2 4 M).bind fun q3 =>
        (F_X10_in v1 q2 q3).bind fun q4 =>
        if q4 = 0 then
          F_X10_listens_12 n v1 (v2 + 1) M
        else
          (F_X10_isShown v2 M).bind fun q5 =>
          if q5 = 0 then
            F_X10_listens_12 n v1 (v2 + 1) M
          else
            (F_X10_show v2 1 M).bind fun q6 =>
            (F_X10_comes 1 q6 1 (M.1 1 0) (M.1 1 0) v2 M).bind fun q7 =>
            F_X10_listens_12 n v1 (v2 + 1) q7.2
      else
        F_X10_listens_12 n v1 (v2 + 1) M
    else
      some M
set_option maxRecDepth 100000 in
set_option maxHeartbeats 4000000 in
theorem ev_X10_listens_12  (q : eMem)  : ∀ (fuel : Nat) (v1 : Int32) (v2 : Int32) (M : eMem), F_X10_listens_12 fuel v1 v2 M = some q → Ev layR 7 m_X10_listens 12 [some (.ref 0), some (.int v1), some (.int v2), none] [] M (none, q) := by
  intro fuel
  induction fuel with
  | zero => intro v1 v2 M h; rw [F_X10_listens_12] at h; cases h
  | succ n ih =>
    intro v1 v2 M h
    rw [F_X10_listens_12] at h
    refine Ev.iload_n (pc := 12) dX10_listens_12 rfl ?_
    refine Ev.aload_n (pc := 13) dX10_listens_13 rfl ?_
    refine Ev.getR (pc := 14) dX10_listens_14 fl_RX10_7 lR_0 rfl ?_
    refine Ev.bipush (pc := 17) dX10_listens_17 (v := 9) (by decide) ?_
    refine Ev.ialdj (pc := 19) dX10_listens_19 (j := 9) lR_1 (by decide) (by decide) ?_
    refine Ev.icmp_ge (pc := 20) (tgt := 92) dX10_listens_20 (by decide) (fun c9 => ?_) (fun c9 => ?_)
    · have h := eF h c9
      obtain rfl := Option.some.inj h
      exact Ev.vret (pc := 92) dX10_listens_92 rfl
    · have h := eT h c9
      refine Ev.aload_n (pc := 23) dX10_listens_23 rfl ?_
      refine Ev.iload_n (pc := 24) dX10_listens_24 rfl ?_
      refine Ev.iconst (pc := 25) dX10_listens_25 (v := 0) (by decide) ?_
      refine eBk h (fun q1 hq1 h => ?_)
      refine Ev.callV (pc := 26) (as := [.int v2, .int 0]) (st := []) (z := 0) dX10_listens_26 wc_X10_show ml_RX10_77 im_X10_show se_X10_show lR_0 rfl rfl (ev_X10_show v2 0 M _ hq1) rfl rfl (by decide) rfl rfl (Nat.le_of_ble_eq_true rfl) ?_
      refine Ev.iconst (pc := 29) dX10_listens_29 (v := 3) (by decide) ?_
      refine Ev.icmp_ne (pc := 30) (tgt := 86) dX10_listens_30 (by decide) (fun c9 => ?_) (fun c9 => ?_)
      · have h := eF h c9
        refine Ev.iincv (pc := 86) dX10_listens_86 (v := 1) (by decide) rfl (by decide) rfl rfl ?_
        refine Ev.goto (pc := 89) (tgt := 12) dX10_listens_89 (by decide) ?_
        exact Ev.fg (ih _ _ _ h) (And.intro rfl (And.intro rfl (And.intro rfl trivial)))
      · have h := eT h c9
        refine Ev.iload_n (pc := 33) dX10_listens_33 rfl ?_
        refine Ev.aload_n (pc := 34) dX10_listens_34 rfl ?_
        refine Ev.iload_n (pc := 35) dX10_listens_35 rfl ?_
        refine Ev.iconst (pc := 36) dX10_listens_36 (v := 3) (by decide) ?_
        refine eBk h (fun q2 hq2 h => ?_)
        refine Ev.callV (pc := 37) (as := [.int v2, .int 3]) (st := [.int v1]) (z := 0) dX10_listens_37 wc_X10_show ml_RX10_77 im_X10_show se_X10_show lR_0 rfl rfl (ev_X10_show v2 3 M _ hq2) rfl rfl (by decide) rfl rfl (Nat.le_of_ble_eq_true rfl) ?_
        refine Ev.aload_n (pc := 40) dX10_listens_40 rfl ?_
        refine Ev.iload_n (pc := 41) dX10_listens_41 rfl ?_
        refine Ev.iconst (pc := 42) dX10_listens_42 (v := 4) (by decide) ?_
        refine eBk h (fun q3 hq3 h => ?_)
        refine Ev.callV (pc := 43) (as := [.int v2, .int 4]) (st := [.int q2, .int v1]) (z := 0) dX10_listens_43 wc_X10_show ml_RX10_77 im_X10_show se_X10_show lR_0 rfl rfl (ev_X10_show v2 4 M _ hq3) rfl rfl (by decide) rfl rfl (Nat.le_of_ble_eq_true rfl) ?_
        refine eBk h (fun q4 hq4 h => ?_)
        refine Ev.callS (pc := 46) (as := [.int v1, .int q2, .int q3]) (st := []) (z := 0) dX10_listens_46 wc_X10_in ml_RX10_58 sm_X10_in (ev_X10_in v1 q2 q3 M _ hq4) rfl rfl (by decide) rfl rfl (Nat.le_of_ble_eq_true rfl) ?_
        refine Ev.if_eq (pc := 49) (tgt := 86) dX10_listens_49 (by decide) (fun c9 => ?_) (fun c9 => ?_)
        · have h := eT h c9
          refine Ev.iincv (pc := 86) dX10_listens_86 (v := 1) (by decide) rfl (by decide) rfl rfl ?_
          refine Ev.goto (pc := 89) (tgt := 12) dX10_listens_89 (by decide) ?_
          exact Ev.fg (ih _ _ _ h) (And.intro rfl (And.intro rfl (And.intro rfl trivial)))
        · have h := eF h c9
          refine Ev.aload_n (pc := 52) dX10_listens_52 rfl ?_
          refine Ev.iload_n (pc := 53) dX10_listens_53 rfl ?_
          refine eBk h (fun q5 hq5 h => ?_)
          refine Ev.callV (pc := 54) (as := [.int v2]) (st := []) (z := 0) dX10_listens_54 wc_X10_isShown ml_RX10_80 im_X10_isShown se_X10_isShown lR_0 rfl rfl (ev_X10_isShown v2 M _ hq5) rfl rfl (by decide) rfl rfl (Nat.le_of_ble_eq_true rfl) ?_
          refine Ev.if_eq (pc := 57) (tgt := 86) dX10_listens_57 (by decide) (fun c9 => ?_) (fun c9 => ?_)
          · have h := eT h c9
            refine Ev.iincv (pc := 86) dX10_listens_86 (v := 1) (by decide) rfl (by decide) rfl rfl ?_
            refine Ev.goto (pc := 89) (tgt := 12) dX10_listens_89 (by decide) ?_
            exact Ev.fg (ih _ _ _ h) (And.intro rfl (And.intro rfl (And.intro rfl trivial)))
          · have h := eF h c9
            refine Ev.aload_n (pc := 60) dX10_listens_60 rfl ?_
            refine Ev.iconst (pc := 61) dX10_listens_61 (v := 1) (by decide) ?_
            refine Ev.aload_n (pc := 62) dX10_listens_62 rfl ?_
            refine Ev.iload_n (pc := 63) dX10_listens_63 rfl ?_
            refine Ev.iconst (pc := 64) dX10_listens_64 (v := 1) (by decide) ?_
            refine eBk h (fun q6 hq6 h => ?_)
            refine Ev.callV (pc := 65) (as := [.int v2, .int 1]) (st := [.int 1, .ref 0]) (z := 0) dX10_listens_65 wc_X10_show ml_RX10_77 im_X10_show se_X10_show lR_0 rfl rfl (ev_X10_show v2 1 M _ hq6) rfl rfl (by decide) rfl rfl (Nat.le_of_ble_eq_true rfl) ?_
            refine Ev.iconst (pc := 68) dX10_listens_68 (v := 1) (by decide) ?_
            refine Ev.aload_n (pc := 69) dX10_listens_69 rfl ?_
            refine Ev.getR (pc := 70) dX10_listens_70 fl_RX10_7 lR_0 rfl ?_
            refine Ev.iconst (pc := 73) dX10_listens_73 (v := 0) (by decide) ?_
            refine Ev.ialdj (pc := 74) dX10_listens_74 (j := 0) lR_1 (by decide) (by decide) ?_
            refine Ev.aload_n (pc := 75) dX10_listens_75 rfl ?_
            refine Ev.getR (pc := 76) dX10_listens_76 fl_RX10_7 lR_0 rfl ?_
            refine Ev.iconst (pc := 79) dX10_listens_79 (v := 0) (by decide) ?_
            refine Ev.ialdj (pc := 80) dX10_listens_80 (j := 0) lR_1 (by decide) (by decide) ?_
            refine Ev.iload_n (pc := 81) dX10_listens_81 rfl ?_
            refine eBk h (fun q7 hq7 h => ?_)
            refine Ev.callV (pc := 82) (as := [.int 1, .int q6, .int 1, .int (M.1 1 0), .int (M.1 1 0), .int v2]) (st := []) (z := 1) dX10_listens_82 wc_X10_comes ml_RX10_130 im_X10_comes se_X10_comes lR_0 rfl rfl (ev_X10_comes 1 q6 1 (M.1 1 0) (M.1 1 0) v2 M _ hq7) rfl rfl (by decide) rfl rfl (Nat.le_of_ble_eq_true rfl) ?_
            refine Ev.istore_n (pc := 85) dX10_listens_85 (by decide) rfl rfl ?_
            refine Ev.iincv (pc := 86) dX10_listens_86 (v := 1) (by decide) rfl (by decide) rfl rfl ?_
            refine Ev.goto (pc := 89) (tgt := 12) dX10_listens_89 (by decide) ?_
            exact Ev.fg (ih _ _ _ h) (And.intro rfl (And.intro rfl (And.intro rfl trivial)))
def F_X10_listens  (M : eMem) : Option eMem :=
  F_X10_listens_12 eFuel ((M.1 1 0) - (M.1 1 0) / 24 * 24) 0 M
set_option maxRecDepth 100000 in
set_option maxHeartbeats 4000000 in
theorem ev_X10_listens  (M : eMem) (q : eMem) (h : F_X10_listens  M = some q) : Ev layR 7 m_X10_listens 0 [some (.ref 0), none, none, none] [] M (none, q) := by
  rw [F_X10_listens] at h
  refine Ev.aload_n (pc := 0) dX10_listens_0 rfl ?_
  refine Ev.getR (pc := 1) dX10_listens_1 fl_RX10_7 lR_0 rfl ?_
  refine Ev.iconst (pc := 4) dX10_listens_4 (v := 0) (by decide) ?_
  refine Ev.ialdj (pc := 5) dX10_listens_5 (j := 0) lR_1 (by decide) (by decide) ?_
  refine Ev.bipush (pc := 6) dX10_listens_6 (v := 24) (by decide) ?_
  refine Ev.irem (pc := 8) dX10_listens_8 (by decide) ?_
  refine Ev.istore_n (pc := 9) dX10_listens_9 (by decide) rfl rfl ?_
  refine Ev.iconst (pc := 10) dX10_listens_10 (v := 0) (by decide) ?_
  refine Ev.istore_n (pc := 11) dX10_listens_11 (by decide) rfl rfl ?_
  exact Ev.fg (ev_X10_listens_12 _ _ _ _ _ h) (And.intro rfl (And.intro rfl (And.intro rfl trivial)))
theorem dX10_papers_0 : decode cX10_papers 0 = .ok (.iconst 0, 1) := by decide +kernel
theorem dX10_papers_1 : decode cX10_papers 1 = .ok (.istore_n 1, 1) := by decide +kernel
theorem dX10_papers_2 : decode cX10_papers 2 = .ok (.iload_n 1, 1) := by decide +kernel
theorem dX10_papers_3 : decode cX10_papers 3 = .ok (.aload_n 0, 1) := by decide +kernel
theorem dX10_papers_4 : decode cX10_papers 4 = .ok (.getfield 7, 3) := by decide +kernel
theorem dX10_papers_7 : decode cX10_papers 7 = .ok (.bipush 9, 2) := by decide +kernel
theorem dX10_papers_9 : decode cX10_papers 9 = .ok (.iaload, 1) := by decide +kernel
theorem dX10_papers_10 : decode cX10_papers 10 = .ok (.if_icmp .ge 103, 3) := by decide +kernel
theorem dX10_papers_13 : decode cX10_papers 13 = .ok (.aload_n 0, 1) := by decide +kernel
theorem dX10_papers_14 : decode cX10_papers 14 = .ok (.iload_n 1, 1) := by decide +kernel
theorem dX10_papers_15 : decode cX10_papers 15 = .ok (.iconst 0, 1) := by decide +kernel
theorem dX10_papers_16 : decode cX10_papers 16 = .ok (.invokevirtual 77, 3) := by decide +kernel
theorem dX10_papers_19 : decode cX10_papers 19 = .ok (.iconst 5, 1) := by decide +kernel
theorem dX10_papers_20 : decode cX10_papers 20 = .ok (.if_icmp .ne 40, 3) := by decide +kernel
theorem dX10_papers_23 : decode cX10_papers 23 = .ok (.aload_n 0, 1) := by decide +kernel
theorem dX10_papers_24 : decode cX10_papers 24 = .ok (.iload_n 1, 1) := by decide +kernel
theorem dX10_papers_25 : decode cX10_papers 25 = .ok (.iconst 5, 1) := by decide +kernel
theorem dX10_papers_26 : decode cX10_papers 26 = .ok (.invokevirtual 77, 3) := by decide +kernel
theorem dX10_papers_29 : decode cX10_papers 29 = .ok (.iconst 1, 1) := by decide +kernel
theorem dX10_papers_30 : decode cX10_papers 30 = .ok (.if_icmp .ne 30, 3) := by decide +kernel
theorem dX10_papers_33 : decode cX10_papers 33 = .ok (.aload_n 0, 1) := by decide +kernel
theorem dX10_papers_34 : decode cX10_papers 34 = .ok (.getfield 7, 3) := by decide +kernel
theorem dX10_papers_37 : decode cX10_papers 37 = .ok (.iconst 0, 1) := by decide +kernel
theorem dX10_papers_38 : decode cX10_papers 38 = .ok (.iaload, 1) := by decide +kernel
theorem dX10_papers_39 : decode cX10_papers 39 = .ok (.aload_n 0, 1) := by decide +kernel
theorem dX10_papers_40 : decode cX10_papers 40 = .ok (.iload_n 1, 1) := by decide +kernel
theorem dX10_papers_41 : decode cX10_papers 41 = .ok (.bipush 6, 2) := by decide +kernel
theorem dX10_papers_43 : decode cX10_papers 43 = .ok (.invokevirtual 77, 3) := by decide +kernel
theorem dX10_papers_46 : decode cX10_papers 46 = .ok (.isub, 1) := by decide +kernel
theorem dX10_papers_47 : decode cX10_papers 47 = .ok (.aload_n 0, 1) := by decide +kernel
theorem dX10_papers_48 : decode cX10_papers 48 = .ok (.iload_n 1, 1) := by decide +kernel
theorem dX10_papers_49 : decode cX10_papers 49 = .ok (.iconst 4, 1) := by decide +kernel
theorem dX10_papers_50 : decode cX10_papers 50 = .ok (.invokevirtual 77, 3) := by decide +kernel
theorem dX10_papers_53 : decode cX10_papers 53 = .ok (.if_icmp .lt 7, 3) := by decide +kernel
theorem dX10_papers_56 : decode cX10_papers 56 = .ok (.iconst 1, 1) := by decide +kernel
theorem dX10_papers_57 : decode cX10_papers 57 = .ok (.goto 4, 3) := by decide +kernel
theorem dX10_papers_60 : decode cX10_papers 60 = .ok (.iconst 0, 1) := by decide +kernel
theorem dX10_papers_61 : decode cX10_papers 61 = .ok (.istore_n 2, 1) := by decide +kernel
theorem dX10_papers_62 : decode cX10_papers 62 = .ok (.iload_n 2, 1) := by decide +kernel
theorem dX10_papers_63 : decode cX10_papers 63 = .ok (.ifCond .eq 44, 3) := by decide +kernel
theorem dX10_papers_66 : decode cX10_papers 66 = .ok (.aload_n 0, 1) := by decide +kernel
theorem dX10_papers_67 : decode cX10_papers 67 = .ok (.iload_n 1, 1) := by decide +kernel
theorem dX10_papers_68 : decode cX10_papers 68 = .ok (.invokevirtual 80, 3) := by decide +kernel
theorem dX10_papers_71 : decode cX10_papers 71 = .ok (.ifCond .eq 36, 3) := by decide +kernel
theorem dX10_papers_74 : decode cX10_papers 74 = .ok (.aload_n 0, 1) := by decide +kernel
theorem dX10_papers_75 : decode cX10_papers 75 = .ok (.iconst 3, 1) := by decide +kernel
theorem dX10_papers_76 : decode cX10_papers 76 = .ok (.aload_n 0, 1) := by decide +kernel
theorem dX10_papers_77 : decode cX10_papers 77 = .ok (.iload_n 1, 1) := by decide +kernel
theorem dX10_papers_78 : decode cX10_papers 78 = .ok (.iconst 1, 1) := by decide +kernel
theorem dX10_papers_79 : decode cX10_papers 79 = .ok (.invokevirtual 77, 3) := by decide +kernel
theorem dX10_papers_82 : decode cX10_papers 82 = .ok (.iconst 1, 1) := by decide +kernel
theorem dX10_papers_83 : decode cX10_papers 83 = .ok (.aload_n 0, 1) := by decide +kernel
theorem dX10_papers_84 : decode cX10_papers 84 = .ok (.getfield 7, 3) := by decide +kernel
theorem dX10_papers_87 : decode cX10_papers 87 = .ok (.iconst 0, 1) := by decide +kernel
theorem dX10_papers_88 : decode cX10_papers 88 = .ok (.iaload, 1) := by decide +kernel
theorem dX10_papers_89 : decode cX10_papers 89 = .ok (.aload_n 0, 1) := by decide +kernel
theorem dX10_papers_90 : decode cX10_papers 90 = .ok (.getfield 7, 3) := by decide +kernel
theorem dX10_papers_93 : decode cX10_papers 93 = .ok (.iconst 0, 1) := by decide +kernel
theorem dX10_papers_94 : decode cX10_papers 94 = .ok (.iaload, 1) := by decide +kernel
theorem dX10_papers_95 : decode cX10_papers 95 = .ok (.iload_n 1, 1) := by decide +kernel
theorem dX10_papers_96 : decode cX10_papers 96 = .ok (.invokevirtual 130, 3) := by decide +kernel
theorem dX10_papers_99 : decode cX10_papers 99 = .ok (.istore_n 3, 1) := by decide +kernel
theorem dX10_papers_100 : decode cX10_papers 100 = .ok (.aload_n 0, 1) := by decide +kernel
theorem dX10_papers_101 : decode cX10_papers 101 = .ok (.iload_n 1, 1) := by decide +kernel
theorem dX10_papers_102 : decode cX10_papers 102 = .ok (.iconst 5, 1) := by decide +kernel
theorem dX10_papers_103 : decode cX10_papers 103 = .ok (.iconst 0, 1) := by decide +kernel
theorem dX10_papers_104 : decode cX10_papers 104 = .ok (.invokevirtual 105, 3) := by decide +kernel
theorem dX10_papers_107 : decode cX10_papers 107 = .ok (.iinc 1 1, 3) := by decide +kernel
theorem dX10_papers_110 : decode cX10_papers 110 = .ok (.goto (-108), 3) := by decide +kernel
theorem dX10_papers_113 : decode cX10_papers 113 = .ok (.return_, 1) := by decide +kernel
def F_X10_papers_61 (rec : Int32 → eMem → Option eMem) (v1 : Int32) (s0 : Int32) (M : eMem) : Option eMem :=
  if s0 = 0 then
    rec (v1 + 1) M
  else
    (F_X10_isShown v1 M).bind fun q2 =>
    if q2 = 0 then
      rec (v1 + 1) M
    else
      (F_X10_show v1 1 M).bind fun q3 =>
      (F_X10_comes 3 q3 1 (M.1 1 0) (M.1 1 0) v1 M).bind fun q4 =>
      (F_X10_setShow v1 5 0 q4.2).bind fun q5 =>
      rec (v1 + 1) q5
set_option maxRecDepth 100000 in
set_option maxHeartbeats 4000000 in
theorem ev_X10_papers_61 (rec : Int32 → eMem → Option eMem) (q : eMem) (hrec : ∀ (v1 : Int32) (M : eMem), rec v1 M = some q → Ev layR 7 m_X10_papers 2 [some (.ref 0), some (.int v1), none, none] [] M (none, q)) (v1 : Int32) (s0 : Int32) (M : eMem) (h : F_X10_papers_61 rec v1 s0 M = some q) : Ev layR 7 m_X10_papers 61 [some (.ref 0), some (.int v1), none, none] [.int s0] M (none, q) := by
  rw [F_X10_papers_61] at h
  refine Ev.istore_n (pc := 61) dX10_papers_61 (by decide) rfl rfl ?_
  refine Ev.iload_n (pc := 62) dX10_papers_62 rfl ?_
  refine Ev.if_eq (pc := 63) (tgt := 107) dX10_papers_63 (by decide) (fun c9 => ?_) (fun c9 => ?_)
  · have h := eT h c9
    refine Ev.iincv (pc := 107) dX10_papers_107 (v := 1) (by decide) rfl (by decide) rfl rfl ?_
    refine Ev.goto (pc := 110) (tgt := 2) dX10_papers_110 (by decide) ?_
    exact Ev.fg (hrec _ _ h) (And.intro rfl (And.intro rfl trivial))
  · have h := eF h c9
    refine Ev.aload_n (pc := 66) dX10_papers_66 rfl ?_
    refine Ev.iload_n (pc := 67) dX10_papers_67 rfl ?_
    refine eBk h (fun q2 hq2 h => ?_)
    refine Ev.callV (pc := 68) (as := [.int v1]) (st := []) (z := 0) dX10_papers_68 wc_X10_isShown ml_RX10_80 im_X10_isShown se_X10_isShown lR_0 rfl rfl (ev_X10_isShown v1 M _ hq2) rfl rfl (by decide) rfl rfl (Nat.le_of_ble_eq_true rfl) ?_
    refine Ev.if_eq (pc := 71) (tgt := 107) dX10_papers_71 (by decide) (fun c9 => ?_) (fun c9 => ?_)
    · have h := eT h c9
      refine Ev.iincv (pc := 107) dX10_papers_107 (v := 1) (by decide) rfl (by decide) rfl rfl ?_
      refine Ev.goto (pc := 110) (tgt := 2) dX10_papers_110 (by decide) ?_
      exact Ev.fg (hrec _ _ h) (And.intro rfl (And.intro rfl trivial))
    · have h := eF h c9
      refine Ev.aload_n (pc := 74) dX10_papers_74 rfl ?_
      refine Ev.iconst (pc := 75) dX10_papers_75 (v := 3) (by decide) ?_
      refine Ev.aload_n (pc := 76) dX10_papers_76 rfl ?_
      refine Ev.iload_n (pc := 77) dX10_papers_77 rfl ?_
      refine Ev.iconst (pc := 78) dX10_papers_78 (v := 1) (by decide) ?_
      refine eBk h (fun q3 hq3 h => ?_)
      refine Ev.callV (pc := 79) (as := [.int v1, .int 1]) (st := [.int 3, .ref 0]) (z := 0) dX10_papers_79 wc_X10_show ml_RX10_77 im_X10_show se_X10_show lR_0 rfl rfl (ev_X10_show v1 1 M _ hq3) rfl rfl (by decide) rfl rfl (Nat.le_of_ble_eq_true rfl) ?_
      refine Ev.iconst (pc := 82) dX10_papers_82 (v := 1) (by decide) ?_
      refine Ev.aload_n (pc := 83) dX10_papers_83 rfl ?_
      refine Ev.getR (pc := 84) dX10_papers_84 fl_RX10_7 lR_0 rfl ?_
      refine Ev.iconst (pc := 87) dX10_papers_87 (v := 0) (by decide) ?_
      refine Ev.ialdj (pc := 88) dX10_papers_88 (j := 0) lR_1 (by decide) (by decide) ?_
      refine Ev.aload_n (pc := 89) dX10_papers_89 rfl ?_
      refine Ev.getR (pc := 90) dX10_papers_90 fl_RX10_7 lR_0 rfl ?_
      refine Ev.iconst (pc := 93) dX10_papers_93 (v := 0) (by decide) ?_
      refine Ev.ialdj (pc := 94) dX10_papers_94 (j := 0) lR_1 (by decide) (by decide) ?_
      refine Ev.iload_n (pc := 95) dX10_papers_95 rfl ?_
      refine eBk h (fun q4 hq4 h => ?_)
      refine Ev.callV (pc := 96) (as := [.int 3, .int q3, .int 1, .int (M.1 1 0), .int (M.1 1 0), .int v1]) (st := []) (z := 1) dX10_papers_96 wc_X10_comes ml_RX10_130 im_X10_comes se_X10_comes lR_0 rfl rfl (ev_X10_comes 3 q3 1 (M.1 1 0) (M.1 1 0) v1 M _ hq4) rfl rfl (by decide) rfl rfl (Nat.le_of_ble_eq_true rfl) ?_
      refine Ev.istore_n (pc := 99) dX10_papers_99 (by decide) rfl rfl ?_
      refine Ev.aload_n (pc := 100) dX10_papers_100 rfl ?_
      refine Ev.iload_n (pc := 101) dX10_papers_101 rfl ?_
      refine Ev.iconst (pc := 102) dX10_papers_102 (v := 5) (by decide) ?_
      refine Ev.iconst (pc := 103) dX10_papers_103 (v := 0) (by decide) ?_
      refine eBk h (fun q5 hq5 h => ?_)
      refine Ev.callV (pc := 104) (as := [.int v1, .int 5, .int 0]) (st := []) (z := 0) dX10_papers_104 wc_X10_setShow ml_RX10_105 im_X10_setShow se_X10_setShow lR_0 rfl rfl (ev_X10_setShow v1 5 0 q4.2 _ hq5) rfl rfl (by decide) rfl rfl (Nat.le_of_ble_eq_true rfl) ?_
      refine Ev.iincv (pc := 107) dX10_papers_107 (v := 1) (by decide) rfl (by decide) rfl rfl ?_
      refine Ev.goto (pc := 110) (tgt := 2) dX10_papers_110 (by decide) ?_
      exact Ev.fg (hrec _ _ h) (And.intro rfl (And.intro rfl trivial))
def F_X10_papers_60 (rec : Int32 → eMem → Option eMem) (v1 : Int32) (M : eMem) : Option eMem :=
  F_X10_papers_61 (fun v1 M => rec v1 M) v1 0 M
set_option maxRecDepth 100000 in
set_option maxHeartbeats 4000000 in
theorem ev_X10_papers_60 (rec : Int32 → eMem → Option eMem) (q : eMem) (hrec : ∀ (v1 : Int32) (M : eMem), rec v1 M = some q → Ev layR 7 m_X10_papers 2 [some (.ref 0), some (.int v1), none, none] [] M (none, q)) (v1 : Int32) (M : eMem) (h : F_X10_papers_60 rec v1 M = some q) : Ev layR 7 m_X10_papers 60 [some (.ref 0), some (.int v1), none, none] [] M (none, q) := by
  rw [F_X10_papers_60] at h
  refine Ev.iconst (pc := 60) dX10_papers_60 (v := 0) (by decide) ?_
  exact Ev.fg (ev_X10_papers_61 _ _ hrec _ _ _ h) (And.intro rfl (And.intro rfl trivial))
def F_X10_papers_2  : Nat → Int32 → eMem → Option eMem
  | 0, _, _ => none
  | n + 1, v1, M =>
    if v1 < (M.1 1 9) then
      (F_X10_show v1 0 M).bind fun q1 =>
      if q1 = 5 then
        (F_X10_show v1 5 M).bind fun q6 =>
        if q6 = 1 then
          (F_X10_show v1 6 M).bind fun q7 =>
          (F_X10_show v1 4 M).bind fun q8 =>
          if ((M.1 1 0) - q7) < q8 then
            F_X10_papers_60 (fun v1 M => F_X10_papers_2 n v1 M) v1 M
          else
            F_X10_papers_61 (fun v1 M => F_X10_papers_2 n v1 M) v1 1 M
        else
          F_X10_papers_60 (fun v1 M => F_X10_papers_2 n v1 M) v1 M
      else
        F_X10_papers_60 (fun v1 M => F_X10_papers_2 n v1 M) v1 M
    else
      some M
set_option maxRecDepth 100000 in
set_option maxHeartbeats 4000000 in
theorem ev_X10_papers_2  (q : eMem)  : ∀ (fuel : Nat) (v1 : Int32) (M : eMem), F_X10_papers_2 fuel v1 M = some q → Ev layR 7 m_X10_papers 2 [some (.ref 0), some (.int v1), none, none] [] M (none, q) := by
  intro fuel
  induction fuel with
  | zero => intro v1 M h; rw [F_X10_papers_2] at h; cases h
  | succ n ih =>
    intro v1 M h
    rw [F_X10_papers_2] at h
    refine Ev.iload_n (pc := 2) dX10_papers_2 rfl ?_
    refine Ev.aload_n (pc := 3) dX10_papers_3 rfl ?_
    refine Ev.getR (pc := 4) dX10_papers_4 fl_RX10_7 lR_0 rfl ?_
    refine Ev.bipush (pc := 7) dX10_papers_7 (v := 9) (by decide) ?_
    refine Ev.ialdj (pc := 9) dX10_papers_9 (j := 9) lR_1 (by decide) (by decide) ?_
    refine Ev.icmp_ge (pc := 10) (tgt := 113) dX10_papers_10 (by decide) (fun c9 => ?_) (fun c9 => ?_)
    · have h := eF h c9
      obtain rfl := Option.some.inj h
      exact Ev.vret (pc := 113) dX10_papers_113 rfl
    · have h := eT h c9
      refine Ev.aload_n (pc := 13) dX10_papers_13 rfl ?_
      refine Ev.iload_n (pc := 14) dX10_papers_14 rfl ?_
      refine Ev.iconst (pc := 15) dX10_papers_15 (v := 0) (by decide) ?_
      refine eBk h (fun q1 hq1 h => ?_)
      refine Ev.callV (pc := 16) (as := [.int v1, .int 0]) (st := []) (z := 0) dX10_papers_16 wc_X10_show ml_RX10_77 im_X10_show se_X10_show lR_0 rfl rfl (ev_X10_show v1 0 M _ hq1) rfl rfl (by decide) rfl rfl (Nat.le_of_ble_eq_true rfl) ?_
      refine Ev.iconst (pc := 19) dX10_papers_19 (v := 5) (by decide) ?_
      refine Ev.icmp_ne (pc := 20) (tgt := 60) dX10_papers_20 (by decide) (fun c9 => ?_) (fun c9 => ?_)
      · have h := eF h c9
        exact Ev.fg (ev_X10_papers_60 _ _ ih _ _ h) (And.intro rfl (And.intro rfl trivial))
      · have h := eT h c9
        refine Ev.aload_n (pc := 23) dX10_papers_23 rfl ?_
        refine Ev.iload_n (pc := 24) dX10_papers_24 rfl ?_
        refine Ev.iconst (pc := 25) dX10_papers_25 (v := 5) (by decide) ?_
        refine eBk h (fun q6 hq6 h => ?_)
        refine Ev.callV (pc := 26) (as := [.int v1, .int 5]) (st := []) (z := 0) dX10_papers_26 wc_X10_show ml_RX10_77 im_X10_show se_X10_show lR_0 rfl rfl (ev_X10_show v1 5 M _ hq6) rfl rfl (by decide) rfl rfl (Nat.le_of_ble_eq_true rfl) ?_
        refine Ev.iconst (pc := 29) dX10_papers_29 (v := 1) (by decide) ?_
        refine Ev.icmp_ne (pc := 30) (tgt := 60) dX10_papers_30 (by decide) (fun c9 => ?_) (fun c9 => ?_)
        · have h := eF h c9
          exact Ev.fg (ev_X10_papers_60 _ _ ih _ _ h) (And.intro rfl (And.intro rfl trivial))
        · have h := eT h c9
          refine Ev.aload_n (pc := 33) dX10_papers_33 rfl ?_
          refine Ev.getR (pc := 34) dX10_papers_34 fl_RX10_7 lR_0 rfl ?_
          refine Ev.iconst (pc := 37) dX10_papers_37 (v := 0) (by decide) ?_
          refine Ev.ialdj (pc := 38) dX10_papers_38 (j := 0) lR_1 (by decide) (by decide) ?_
          refine Ev.aload_n (pc := 39) dX10_papers_39 rfl ?_
          refine Ev.iload_n (pc := 40) dX10_papers_40 rfl ?_
          refine Ev.bipush (pc := 41) dX10_papers_41 (v := 6) (by decide) ?_
          refine eBk h (fun q7 hq7 h => ?_)
          refine Ev.callV (pc := 43) (as := [.int v1, .int 6]) (st := [.int (M.1 1 0)]) (z := 0) dX10_papers_43 wc_X10_show ml_RX10_77 im_X10_show se_X10_show lR_0 rfl rfl (ev_X10_show v1 6 M _ hq7) rfl rfl (by decide) rfl rfl (Nat.le_of_ble_eq_true rfl) ?_
          refine Ev.isub (pc := 46) dX10_papers_46 ?_
          refine Ev.aload_n (pc := 47) dX10_papers_47 rfl ?_
          refine Ev.iload_n (pc := 48) dX10_papers_48 rfl ?_
          refine Ev.iconst (pc := 49) dX10_papers_49 (v := 4) (by decide) ?_
          refine eBk h (fun q8 hq8 h => ?_)
          refine Ev.callV (pc := 50) (as := [.int v1, .int 4]) (st := [.int ((M.1 1 0) - q7)]) (z := 0) dX10_papers_50 wc_X10_show ml_RX10_77 im_X10_show se_X10_show lR_0 rfl rfl (ev_X10_show v1 4 M _ hq8) rfl rfl (by decide) rfl rfl (Nat.le_of_ble_eq_true rfl) ?_
          refine Ev.icmp_lt (pc := 53) (tgt := 60) dX10_papers_53 (by decide) (fun c9 => ?_) (fun c9 => ?_)
          · have h := eT h c9
            exact Ev.fg (ev_X10_papers_60 _ _ ih _ _ h) (And.intro rfl (And.intro rfl trivial))
          · have h := eF h c9
            refine Ev.iconst (pc := 56) dX10_papers_56 (v := 1) (by decide) ?_
            refine Ev.goto (pc := 57) (tgt := 61) dX10_papers_57 (by decide) ?_
            exact Ev.fg (ev_X10_papers_61 _ _ ih _ _ _ h) (And.intro rfl (And.intro rfl trivial))
def F_X10_papers  (M : eMem) : Option eMem :=
  F_X10_papers_2 eFuel 0 M
set_option maxRecDepth 100000 in
set_option maxHeartbeats 4000000 in
theorem ev_X10_papers  (M : eMem) (q : eMem) (h : F_X10_papers  M = some q) : Ev layR 7 m_X10_papers 0 [some (.ref 0), none, none, none] [] M (none, q) := by
  rw [F_X10_papers] at h
  refine Ev.iconst (pc := 0) dX10_papers_0 (v := 0) (by decide) ?_
  refine Ev.istore_n (pc := 1) dX10_papers_1 (by decide) rfl rfl ?_
  exact Ev.fg (ev_X10_papers_2 _ _ _ _ h) (And.intro rfl (And.intro rfl trivial))
theorem dX10_marches_0 : decode cX10_marches 0 = .ok (.iconst 0, 1) := by decide +kernel
theorem dX10_marches_1 : decode cX10_marches 1 = .ok (.istore_n 1, 1) := by decide +kernel
theorem dX10_marches_2 : decode cX10_marches 2 = .ok (.iload_n 1, 1) := by decide +kernel
theorem dX10_marches_3 : decode cX10_marches 3 = .ok (.aload_n 0, 1) := by decide +kernel
theorem dX10_marches_4 : decode cX10_marches 4 = .ok (.getfield 7, 3) := by decide +kernel
theorem dX10_marches_7 : decode cX10_marches 7 = .ok (.bipush 8, 2) := by decide +kernel
theorem dX10_marches_9 : decode cX10_marches 9 = .ok (.iaload, 1) := by decide +kernel
theorem dX10_marches_10 : decode cX10_marches 10 = .ok (.if_icmp .ge 83, 3) := by decide +kernel
theorem dX10_marches_13 : decode cX10_marches 13 = .ok (.aload_n 0, 1) := by decide +kernel
theorem dX10_marches_14 : decode cX10_marches 14 = .ok (.getfield 7, 3) := by decide +kernel
theorem dX10_marches_17 : decode cX10_marches 17 = .ok (.iload_n 1, 1) := by decide +kernel
theorem dX10_marches_18 : decode cX10_marches 18 = .ok (.iconst 2, 1) := by decide +kernel
theorem dX10_marches_19 : decode cX10_marches 19 = .ok (.invokestatic 74, 3) := by decide +kernel
theorem dX10_marches_22 : decode cX10_marches 22 = .ok (.iaload, 1) := by decide +kernel
theorem dX10_marches_23 : decode cX10_marches 23 = .ok (.ifCond .ge 6, 3) := by decide +kernel
theorem dX10_marches_26 : decode cX10_marches 26 = .ok (.goto 61, 3) := by decide +kernel
theorem dX10_marches_29 : decode cX10_marches 29 = .ok (.aload_n 0, 1) := by decide +kernel
theorem dX10_marches_30 : decode cX10_marches 30 = .ok (.getfield 7, 3) := by decide +kernel
theorem dX10_marches_33 : decode cX10_marches 33 = .ok (.iload_n 1, 1) := by decide +kernel
theorem dX10_marches_34 : decode cX10_marches 34 = .ok (.iconst 4, 1) := by decide +kernel
theorem dX10_marches_35 : decode cX10_marches 35 = .ok (.invokestatic 74, 3) := by decide +kernel
theorem dX10_marches_38 : decode cX10_marches 38 = .ok (.dup2, 1) := by decide +kernel
theorem dX10_marches_39 : decode cX10_marches 39 = .ok (.iaload, 1) := by decide +kernel
theorem dX10_marches_40 : decode cX10_marches 40 = .ok (.iconst 1, 1) := by decide +kernel
theorem dX10_marches_41 : decode cX10_marches 41 = .ok (.isub, 1) := by decide +kernel
theorem dX10_marches_42 : decode cX10_marches 42 = .ok (.iastore, 1) := by decide +kernel
theorem dX10_marches_43 : decode cX10_marches 43 = .ok (.aload_n 0, 1) := by decide +kernel
theorem dX10_marches_44 : decode cX10_marches 44 = .ok (.getfield 7, 3) := by decide +kernel
theorem dX10_marches_47 : decode cX10_marches 47 = .ok (.iload_n 1, 1) := by decide +kernel
theorem dX10_marches_48 : decode cX10_marches 48 = .ok (.iconst 4, 1) := by decide +kernel
theorem dX10_marches_49 : decode cX10_marches 49 = .ok (.invokestatic 74, 3) := by decide +kernel
theorem dX10_marches_52 : decode cX10_marches 52 = .ok (.iaload, 1) := by decide +kernel
theorem dX10_marches_53 : decode cX10_marches 53 = .ok (.ifCond .ne 34, 3) := by decide +kernel
theorem dX10_marches_56 : decode cX10_marches 56 = .ok (.aload_n 0, 1) := by decide +kernel
theorem dX10_marches_57 : decode cX10_marches 57 = .ok (.getfield 7, 3) := by decide +kernel
theorem dX10_marches_60 : decode cX10_marches 60 = .ok (.iload_n 1, 1) := by decide +kernel
theorem dX10_marches_61 : decode cX10_marches 61 = .ok (.iconst 0, 1) := by decide +kernel
theorem dX10_marches_62 : decode cX10_marches 62 = .ok (.invokestatic 74, 3) := by decide +kernel
theorem dX10_marches_65 : decode cX10_marches 65 = .ok (.aload_n 0, 1) := by decide +kernel
theorem dX10_marches_66 : decode cX10_marches 66 = .ok (.getfield 7, 3) := by decide +kernel
theorem dX10_marches_69 : decode cX10_marches 69 = .ok (.iload_n 1, 1) := by decide +kernel
theorem dX10_marches_70 : decode cX10_marches 70 = .ok (.iconst 3, 1) := by decide +kernel
theorem dX10_marches_71 : decode cX10_marches 71 = .ok (.invokestatic 74, 3) := by decide +kernel
theorem dX10_marches_74 : decode cX10_marches 74 = .ok (.iaload, 1) := by decide +kernel
theorem dX10_marches_75 : decode cX10_marches 75 = .ok (.iastore, 1) := by decide +kernel
theorem dX10_marches_76 : decode cX10_marches 76 = .ok (.aload_n 0, 1) := by decide +kernel
theorem dX10_marches_77 : decode cX10_marches 77 = .ok (.getfield 7, 3) := by decide +kernel
theorem dX10_marches_80 : decode cX10_marches 80 = .ok (.iload_n 1, 1) := by decide +kernel
theorem dX10_marches_81 : decode cX10_marches 81 = .ok (.iconst 2, 1) := by decide +kernel
theorem dX10_marches_82 : decode cX10_marches 82 = .ok (.invokestatic 74, 3) := by decide +kernel
theorem dX10_marches_85 : decode cX10_marches 85 = .ok (.iconst (-1), 1) := by decide +kernel
theorem dX10_marches_86 : decode cX10_marches 86 = .ok (.iastore, 1) := by decide +kernel
theorem dX10_marches_87 : decode cX10_marches 87 = .ok (.iinc 1 1, 3) := by decide +kernel
theorem dX10_marches_90 : decode cX10_marches 90 = .ok (.goto (-88), 3) := by decide +kernel
theorem dX10_marches_93 : decode cX10_marches 93 = .ok (.return_, 1) := by decide +kernel
def F_X10_marches_2  : Nat → Int32 → eMem → Option eMem
  | 0, _, _ => none
  | n + 1, v1, M =>
    if v1 < (M.1 1 8) then
      (F_X10_unitAt v1 2).bind fun q1 =>
      eG (eIn q1 2900) <|
      if (M.1 1 q1.toNatClampNeg) < 0 then
        F_X10_marches_2 n (v1 + 1) M
      else
        (F_X10_unitAt v1 4).bind fun q2 =>
        eG (eIn q2 2900) <|
        eG (eIn q2 2900) <|
        (F_X10_unitAt v1 4).bind fun q3 =>
        eG (eIn q3 2900) <|
        if ((eI M 1 q2.toNatClampNeg ((M.1 1 q2.toNatClampNeg) - 1)).1 1 q3.toNatClampNeg) = 0 then
          (F_X10_unitAt v1 0).bind fun q4 =>
          (F_X10_unitAt v1 3).bind fun q5 =>
          eG (eIn q5 2900) <|
          eG (eIn q4 2900) <|
          (F_X10_unitAt v1 2).bind fun q6 =>
          eG (eIn q6 2900) <|
          F_X10_marches_2 n (v1 + 1) (eI (eI (eI M 1 q2.toNatClampNeg ((M.1 1 q2.toNatClampNeg) - 1)) 1 q4.toNatClampNeg ((eI M 1 q2.toNatClampNeg ((M.1 1 q2.toNatClampNeg) - 1)).1 1 q5.toNatClampNeg)) 1 q6.toNatClampNeg (-1))
        else
          F_X10_marches_2 n (v1 + 1) (eI M 1 q2.toNatClampNeg ((M.1 1 q2.toNatClampNeg) - 1))
    else
      some M
set_option maxRecDepth 100000 in
set_option maxHeartbeats 4000000 in
theorem ev_X10_marches_2  (q : eMem)  : ∀ (fuel : Nat) (v1 : Int32) (M : eMem), F_X10_marches_2 fuel v1 M = some q → Ev layR 1 m_X10_marches 2 [some (.ref 0), some (.int v1)] [] M (none, q) := by
  intro fuel
  induction fuel with
  | zero => intro v1 M h; rw [F_X10_marches_2] at h; cases h
  | succ n ih =>
    intro v1 M h
    rw [F_X10_marches_2] at h
    refine Ev.iload_n (pc := 2) dX10_marches_2 rfl ?_
    refine Ev.aload_n (pc := 3) dX10_marches_3 rfl ?_
    refine Ev.getR (pc := 4) dX10_marches_4 fl_RX10_7 lR_0 rfl ?_
    refine Ev.bipush (pc := 7) dX10_marches_7 (v := 8) (by decide) ?_
    refine Ev.ialdj (pc := 9) dX10_marches_9 (j := 8) lR_1 (by decide) (by decide) ?_
    refine Ev.icmp_ge (pc := 10) (tgt := 93) dX10_marches_10 (by decide) (fun c9 => ?_) (fun c9 => ?_)
    · have h := eF h c9
      obtain rfl := Option.some.inj h
      exact Ev.vret (pc := 93) dX10_marches_93 rfl
    · have h := eT h c9
      refine Ev.aload_n (pc := 13) dX10_marches_13 rfl ?_
      refine Ev.getR (pc := 14) dX10_marches_14 fl_RX10_7 lR_0 rfl ?_
      refine Ev.iload_n (pc := 17) dX10_marches_17 rfl ?_
      refine Ev.iconst (pc := 18) dX10_marches_18 (v := 2) (by decide) ?_
      refine eBk h (fun q1 hq1 h => ?_)
      refine Ev.callS (pc := 19) (as := [.int v1, .int 2]) (st := [.ref 1]) (z := 0) dX10_marches_19 wc_X10_unitAt ml_RX10_74 sm_X10_unitAt (ev_X10_unitAt v1 2 M _ hq1) rfl rfl (by decide) rfl rfl (Nat.le_of_ble_eq_true rfl) ?_
      obtain ⟨g9, h⟩ := eGdB h
      refine Ev.ialdj (pc := 22) dX10_marches_22 (j := q1.toNatClampNeg) lR_1 g9 rfl ?_
      refine Ev.if_ge (pc := 23) (tgt := 29) dX10_marches_23 (by decide) (fun c9 => ?_) (fun c9 => ?_)
      · have h := eF h c9
        refine Ev.aload_n (pc := 29) dX10_marches_29 rfl ?_
        refine Ev.getR (pc := 30) dX10_marches_30 fl_RX10_7 lR_0 rfl ?_
        refine Ev.iload_n (pc := 33) dX10_marches_33 rfl ?_
        refine Ev.iconst (pc := 34) dX10_marches_34 (v := 4) (by decide) ?_
        refine eBk h (fun q2 hq2 h => ?_)
        refine Ev.callS (pc := 35) (as := [.int v1, .int 4]) (st := [.ref 1]) (z := 0) dX10_marches_35 wc_X10_unitAt ml_RX10_74 sm_X10_unitAt (ev_X10_unitAt v1 4 M _ hq2) rfl rfl (by decide) rfl rfl (Nat.le_of_ble_eq_true rfl) ?_
        refine Ev.dup2 (pc := 38) dX10_marches_38 rfl rfl ?_
        obtain ⟨g9, h⟩ := eGdB h
        refine Ev.ialdj (pc := 39) dX10_marches_39 (j := q2.toNatClampNeg) lR_1 g9 rfl ?_
        refine Ev.iconst (pc := 40) dX10_marches_40 (v := 1) (by decide) ?_
        refine Ev.isub (pc := 41) dX10_marches_41 ?_
        obtain ⟨g9, h⟩ := eGdB h
        refine Ev.iastj (pc := 42) dX10_marches_42 (j := q2.toNatClampNeg) lR_1 g9 rfl ?_
        refine Ev.aload_n (pc := 43) dX10_marches_43 rfl ?_
        refine Ev.getR (pc := 44) dX10_marches_44 fl_RX10_7 lR_0 rfl ?_
        refine Ev.iload_n (pc := 47) dX10_marches_47 rfl ?_
        refine Ev.iconst (pc := 48) dX10_marches_48 (v := 4) (by decide) ?_
        refine eBk h (fun q3 hq3 h => ?_)
        refine Ev.callS (pc := 49) (as := [.int v1, .int 4]) (st := [.ref 1]) (z := 0) dX10_marches_49 wc_X10_unitAt ml_RX10_74 sm_X10_unitAt (ev_X10_unitAt v1 4 (eI M 1 q2.toNatClampNeg ((M.1 1 q2.toNatClampNeg) - 1)) _ hq3) rfl rfl (by decide) rfl rfl (Nat.le_of_ble_eq_true rfl) ?_
        obtain ⟨g9, h⟩ := eGdB h
        refine Ev.ialdj (pc := 52) dX10_marches_52 (j := q3.toNatClampNeg) lR_1 g9 rfl ?_
        refine Ev.if_ne (pc := 53) (tgt := 87) dX10_marches_53 (by decide) (fun c9 => ?_) (fun c9 => ?_)
        · have h := eF h c9
          refine Ev.iincv (pc := 87) dX10_marches_87 (v := 1) (by decide) rfl (by decide) rfl rfl ?_
          refine Ev.goto (pc := 90) (tgt := 2) dX10_marches_90 (by decide) ?_
          exact Ev.fg (ih _ _ h) (And.intro rfl (And.intro rfl trivial))
        · have h := eT h c9
          refine Ev.aload_n (pc := 56) dX10_marches_56 rfl ?_
          refine Ev.getR (pc := 57) dX10_marches_57 fl_RX10_7 lR_0 rfl ?_
          refine Ev.iload_n (pc := 60) dX10_marches_60 rfl ?_
          refine Ev.iconst (pc := 61) dX10_marches_61 (v := 0) (by decide) ?_
          refine eBk h (fun q4 hq4 h => ?_)
          refine Ev.callS (pc := 62) (as := [.int v1, .int 0]) (st := [.ref 1]) (z := 0) dX10_marches_62 wc_X10_unitAt ml_RX10_74 sm_X10_unitAt (ev_X10_unitAt v1 0 (eI M 1 q2.toNatClampNeg ((M.1 1 q2.toNatClampNeg) - 1)) _ hq4) rfl rfl (by decide) rfl rfl (Nat.le_of_ble_eq_true rfl) ?_
          refine Ev.aload_n (pc := 65) dX10_marches_65 rfl ?_
          refine Ev.getR (pc := 66) dX10_marches_66 fl_RX10_7 lR_0 rfl ?_
          refine Ev.iload_n (pc := 69) dX10_marches_69 rfl ?_
          refine Ev.iconst (pc := 70) dX10_marches_70 (v := 3) (by decide) ?_
          refine eBk h (fun q5 hq5 h => ?_)
          refine Ev.callS (pc := 71) (as := [.int v1, .int 3]) (st := [.ref 1, .int q4, .ref 1]) (z := 0) dX10_marches_71 wc_X10_unitAt ml_RX10_74 sm_X10_unitAt (ev_X10_unitAt v1 3 (eI M 1 q2.toNatClampNeg ((M.1 1 q2.toNatClampNeg) - 1)) _ hq5) rfl rfl (by decide) rfl rfl (Nat.le_of_ble_eq_true rfl) ?_
          obtain ⟨g9, h⟩ := eGdB h
          refine Ev.ialdj (pc := 74) dX10_marches_74 (j := q5.toNatClampNeg) lR_1 g9 rfl ?_
          obtain ⟨g9, h⟩ := eGdB h
          refine Ev.iastj (pc := 75) dX10_marches_75 (j := q4.toNatClampNeg) lR_1 g9 rfl ?_
          refine Ev.aload_n (pc := 76) dX10_marches_76 rfl ?_
          refine Ev.getR (pc := 77) dX10_marches_77 fl_RX10_7 lR_0 rfl ?_
          refine Ev.iload_n (pc := 80) dX10_marches_80 rfl ?_
          refine Ev.iconst (pc := 81) dX10_marches_81 (v := 2) (by decide) ?_
          refine eBk h (fun q6 hq6 h => ?_)
          refine Ev.callS (pc := 82) (as := [.int v1, .int 2]) (st := [.ref 1]) (z := 0) dX10_marches_82 wc_X10_unitAt ml_RX10_74 sm_X10_unitAt (ev_X10_unitAt v1 2 (eI (eI M 1 q2.toNatClampNeg ((M.1 1 q2.toNatClampNeg) - 1)) 1 q4.toNatClampNeg ((eI M 1 q2.toNatClampNeg ((M.1 1 q2.toNatClampNeg) - 1)).1 1 q5.toNatClampNeg)) _ hq6) rfl rfl (by decide) rfl rfl (Nat.le_of_ble_eq_true rfl) ?_
          refine Ev.iconst (pc := 85) dX10_marches_85 (v := (-1)) (by decide) ?_
          obtain ⟨g9, h⟩ := eGdB h
          refine Ev.iastj (pc := 86) dX10_marches_86 (j := q6.toNatClampNeg) lR_1 g9 rfl ?_
          refine Ev.iincv (pc := 87) dX10_marches_87 (v := 1) (by decide) rfl (by decide) rfl rfl ?_
          refine Ev.goto (pc := 90) (tgt := 2) dX10_marches_90 (by decide) ?_
          exact Ev.fg (ih _ _ h) (And.intro rfl (And.intro rfl trivial))
      · have h := eT h c9
        refine Ev.goto (pc := 26) (tgt := 87) dX10_marches_26 (by decide) ?_
        refine Ev.iincv (pc := 87) dX10_marches_87 (v := 1) (by decide) rfl (by decide) rfl rfl ?_
        refine Ev.goto (pc := 90) (tgt := 2) dX10_marches_90 (by decide) ?_
        exact Ev.fg (ih _ _ h) (And.intro rfl (And.intro rfl trivial))
def F_X10_marches  (M : eMem) : Option eMem :=
  F_X10_marches_2 eFuel 0 M
set_option maxRecDepth 100000 in
set_option maxHeartbeats 4000000 in
theorem ev_X10_marches  (M : eMem) (q : eMem) (h : F_X10_marches  M = some q) : Ev layR 1 m_X10_marches 0 [some (.ref 0), none] [] M (none, q) := by
  rw [F_X10_marches] at h
  refine Ev.iconst (pc := 0) dX10_marches_0 (v := 0) (by decide) ?_
  refine Ev.istore_n (pc := 1) dX10_marches_1 (by decide) rfl rfl ?_
  exact Ev.fg (ev_X10_marches_2 _ _ _ _ h) (And.intro rfl (And.intro rfl trivial))
theorem dX10_standing_0 : decode cX10_standing 0 = .ok (.iconst 0, 1) := by decide +kernel
theorem dX10_standing_1 : decode cX10_standing 1 = .ok (.istore_n 1, 1) := by decide +kernel
theorem dX10_standing_2 : decode cX10_standing 2 = .ok (.iconst 0, 1) := by decide +kernel
theorem dX10_standing_3 : decode cX10_standing 3 = .ok (.istore_n 2, 1) := by decide +kernel
theorem dX10_standing_4 : decode cX10_standing 4 = .ok (.iload_n 2, 1) := by decide +kernel
theorem dX10_standing_5 : decode cX10_standing 5 = .ok (.aload_n 0, 1) := by decide +kernel
theorem dX10_standing_6 : decode cX10_standing 6 = .ok (.getfield 7, 3) := by decide +kernel
theorem dX10_standing_9 : decode cX10_standing 9 = .ok (.bipush 9, 2) := by decide +kernel
theorem dX10_standing_11 : decode cX10_standing 11 = .ok (.iaload, 1) := by decide +kernel
theorem dX10_standing_12 : decode cX10_standing 12 = .ok (.if_icmp .ge 18, 3) := by decide +kernel
theorem dX10_standing_15 : decode cX10_standing 15 = .ok (.iload_n 1, 1) := by decide +kernel
theorem dX10_standing_16 : decode cX10_standing 16 = .ok (.aload_n 0, 1) := by decide +kernel
theorem dX10_standing_17 : decode cX10_standing 17 = .ok (.iload_n 2, 1) := by decide +kernel
theorem dX10_standing_18 : decode cX10_standing 18 = .ok (.iconst 5, 1) := by decide +kernel
theorem dX10_standing_19 : decode cX10_standing 19 = .ok (.invokevirtual 77, 3) := by decide +kernel
theorem dX10_standing_22 : decode cX10_standing 22 = .ok (.iadd, 1) := by decide +kernel
theorem dX10_standing_23 : decode cX10_standing 23 = .ok (.istore_n 1, 1) := by decide +kernel
theorem dX10_standing_24 : decode cX10_standing 24 = .ok (.iinc 2 1, 3) := by decide +kernel
theorem dX10_standing_27 : decode cX10_standing 27 = .ok (.goto (-23), 3) := by decide +kernel
theorem dX10_standing_30 : decode cX10_standing 30 = .ok (.iload_n 1, 1) := by decide +kernel
theorem dX10_standing_31 : decode cX10_standing 31 = .ok (.ireturn, 1) := by decide +kernel
def F_X10_standing_4  : Nat → eMem → Int32 → Int32 → Option Int32
  | 0, _, _, _ => none
  | n + 1, M, v1, v2 =>
    if v2 < (M.1 1 9) then
      (F_X10_show v2 5 M).bind fun q1 =>
      F_X10_standing_4 n M (v1 + q1) (v2 + 1)
    else
      some v1
set_option maxRecDepth 100000 in
set_option maxHeartbeats 4000000 in
theorem ev_X10_standing_4  (q : Int32) (M : eMem)  : ∀ (fuel : Nat) (v1 : Int32) (v2 : Int32), F_X10_standing_4 fuel M v1 v2 = some q → Ev layR 1 m_X10_standing 4 [some (.ref 0), some (.int v1), some (.int v2)] [] M (some (.int q), M) := by
  intro fuel
  induction fuel with
  | zero => intro v1 v2 h; rw [F_X10_standing_4] at h; cases h
  | succ n ih =>
    intro v1 v2 h
    rw [F_X10_standing_4] at h
    refine Ev.iload_n (pc := 4) dX10_standing_4 rfl ?_
    refine Ev.aload_n (pc := 5) dX10_standing_5 rfl ?_
    refine Ev.getR (pc := 6) dX10_standing_6 fl_RX10_7 lR_0 rfl ?_
    refine Ev.bipush (pc := 9) dX10_standing_9 (v := 9) (by decide) ?_
    refine Ev.ialdj (pc := 11) dX10_standing_11 (j := 9) lR_1 (by decide) (by decide) ?_
    refine Ev.icmp_ge (pc := 12) (tgt := 30) dX10_standing_12 (by decide) (fun c9 => ?_) (fun c9 => ?_)
    · have h := eF h c9
      refine Ev.iload_n (pc := 30) dX10_standing_30 rfl ?_
      obtain rfl := Option.some.inj h
      exact Ev.iret (pc := 31) dX10_standing_31 rfl rfl
    · have h := eT h c9
      refine Ev.iload_n (pc := 15) dX10_standing_15 rfl ?_
      refine Ev.aload_n (pc := 16) dX10_standing_16 rfl ?_
      refine Ev.iload_n (pc := 17) dX10_standing_17 rfl ?_
      refine Ev.iconst (pc := 18) dX10_standing_18 (v := 5) (by decide) ?_
      refine eBk h (fun q1 hq1 h => ?_)
      refine Ev.callV (pc := 19) (as := [.int v2, .int 5]) (st := [.int v1]) (z := 0) dX10_standing_19 wc_X10_show ml_RX10_77 im_X10_show se_X10_show lR_0 rfl rfl (ev_X10_show v2 5 M _ hq1) rfl rfl (by decide) rfl rfl (Nat.le_of_ble_eq_true rfl) ?_
      refine Ev.iadd (pc := 22) dX10_standing_22 ?_
      refine Ev.istore_n (pc := 23) dX10_standing_23 (by decide) rfl rfl ?_
      refine Ev.iincv (pc := 24) dX10_standing_24 (v := 1) (by decide) rfl (by decide) rfl rfl ?_
      refine Ev.goto (pc := 27) (tgt := 4) dX10_standing_27 (by decide) ?_
      exact Ev.fg (ih _ _ h) (And.intro rfl (And.intro rfl (And.intro rfl trivial)))
def F_X10_standing  (M : eMem) : Option Int32 :=
  F_X10_standing_4 eFuel M 0 0
set_option maxRecDepth 100000 in
set_option maxHeartbeats 4000000 in
theorem ev_X10_standing  (M : eMem) (q : Int32) (h : F_X10_standing  M = some q) : Ev layR 1 m_X10_standing 0 [some (.ref 0), none, none] [] M (some (.int q), M) := by
  rw [F_X10_standing] at h
  refine Ev.iconst (pc := 0) dX10_standing_0 (v := 0) (by decide) ?_
  refine Ev.istore_n (pc := 1) dX10_standing_1 (by decide) rfl rfl ?_
  refine Ev.iconst (pc := 2) dX10_standing_2 (v := 0) (by decide) ?_
  refine Ev.istore_n (pc := 3) dX10_standing_3 (by decide) rfl rfl ?_
  exact Ev.fg (ev_X10_standing_4 _ _ _ _ _ h) (And.intro rfl (And.intro rfl (And.intro rfl trivial)))
theorem dX10_knownBy_0 : decode cX10_knownBy 0 = .ok (.iconst 0, 1) := by decide +kernel
theorem dX10_knownBy_1 : decode cX10_knownBy 1 = .ok (.istore_n 2, 1) := by decide +kernel
theorem dX10_knownBy_2 : decode cX10_knownBy 2 = .ok (.iconst 0, 1) := by decide +kernel
theorem dX10_knownBy_3 : decode cX10_knownBy 3 = .ok (.istore_n 3, 1) := by decide +kernel
theorem dX10_knownBy_4 : decode cX10_knownBy 4 = .ok (.iload_n 3, 1) := by decide +kernel
theorem dX10_knownBy_5 : decode cX10_knownBy 5 = .ok (.aload_n 0, 1) := by decide +kernel
theorem dX10_knownBy_6 : decode cX10_knownBy 6 = .ok (.getfield 7, 3) := by decide +kernel
theorem dX10_knownBy_9 : decode cX10_knownBy 9 = .ok (.bipush 10, 2) := by decide +kernel
theorem dX10_knownBy_11 : decode cX10_knownBy 11 = .ok (.iaload, 1) := by decide +kernel
theorem dX10_knownBy_12 : decode cX10_knownBy 12 = .ok (.if_icmp .ge 27, 3) := by decide +kernel
theorem dX10_knownBy_15 : decode cX10_knownBy 15 = .ok (.iload_n 2, 1) := by decide +kernel
theorem dX10_knownBy_16 : decode cX10_knownBy 16 = .ok (.aload_n 0, 1) := by decide +kernel
theorem dX10_knownBy_17 : decode cX10_knownBy 17 = .ok (.iload_n 3, 1) := by decide +kernel
theorem dX10_knownBy_18 : decode cX10_knownBy 18 = .ok (.iconst 4, 1) := by decide +kernel
theorem dX10_knownBy_19 : decode cX10_knownBy 19 = .ok (.invokevirtual 137, 3) := by decide +kernel
theorem dX10_knownBy_22 : decode cX10_knownBy 22 = .ok (.iload_n 1, 1) := by decide +kernel
theorem dX10_knownBy_23 : decode cX10_knownBy 23 = .ok (.if_icmp .gt 7, 3) := by decide +kernel
theorem dX10_knownBy_26 : decode cX10_knownBy 26 = .ok (.iconst 1, 1) := by decide +kernel
theorem dX10_knownBy_27 : decode cX10_knownBy 27 = .ok (.goto 4, 3) := by decide +kernel
theorem dX10_knownBy_30 : decode cX10_knownBy 30 = .ok (.iconst 0, 1) := by decide +kernel
theorem dX10_knownBy_31 : decode cX10_knownBy 31 = .ok (.iadd, 1) := by decide +kernel
theorem dX10_knownBy_32 : decode cX10_knownBy 32 = .ok (.istore_n 2, 1) := by decide +kernel
theorem dX10_knownBy_33 : decode cX10_knownBy 33 = .ok (.iinc 3 1, 3) := by decide +kernel
theorem dX10_knownBy_36 : decode cX10_knownBy 36 = .ok (.goto (-32), 3) := by decide +kernel
theorem dX10_knownBy_39 : decode cX10_knownBy 39 = .ok (.iload_n 2, 1) := by decide +kernel
theorem dX10_knownBy_40 : decode cX10_knownBy 40 = .ok (.ireturn, 1) := by decide +kernel
def F_X10_knownBy_4  : Nat → eMem → Int32 → Int32 → Int32 → Option Int32
  | 0, _, _, _, _ => none
  | n + 1, M, v1, v2, v3 =>
    if v3 < (M.1 1 10) then
      (F_X10_report1 v3 4 M).bind fun q1 =>
      if v1 < q1 then
        F_X10_knownBy_4 n M v1 (v2 + 0) (v3 + 1)
      else
        F_X10_knownBy_4 n M v1 (v2 + 1) (v3 + 1)
    else
      some v2
set_option maxRecDepth 100000 in
set_option maxHeartbeats 4000000 in
theorem ev_X10_knownBy_4  (q : Int32) (M : eMem)  : ∀ (fuel : Nat) (v1 : Int32) (v2 : Int32) (v3 : Int32), F_X10_knownBy_4 fuel M v1 v2 v3 = some q → Ev layR 1 m_X10_knownBy 4 [some (.ref 0), some (.int v1), some (.int v2), some (.int v3)] [] M (some (.int q), M) := by
  intro fuel
  induction fuel with
  | zero => intro v1 v2 v3 h; rw [F_X10_knownBy_4] at h; cases h
  | succ n ih =>
    intro v1 v2 v3 h
    rw [F_X10_knownBy_4] at h
    refine Ev.iload_n (pc := 4) dX10_knownBy_4 rfl ?_
    refine Ev.aload_n (pc := 5) dX10_knownBy_5 rfl ?_
    refine Ev.getR (pc := 6) dX10_knownBy_6 fl_RX10_7 lR_0 rfl ?_
    refine Ev.bipush (pc := 9) dX10_knownBy_9 (v := 10) (by decide) ?_
    refine Ev.ialdj (pc := 11) dX10_knownBy_11 (j := 10) lR_1 (by decide) (by decide) ?_
    refine Ev.icmp_ge (pc := 12) (tgt := 39) dX10_knownBy_12 (by decide) (fun c9 => ?_) (fun c9 => ?_)
    · have h := eF h c9
      refine Ev.iload_n (pc := 39) dX10_knownBy_39 rfl ?_
      obtain rfl := Option.some.inj h
      exact Ev.iret (pc := 40) dX10_knownBy_40 rfl rfl
    · have h := eT h c9
      refine Ev.iload_n (pc := 15) dX10_knownBy_15 rfl ?_
      refine Ev.aload_n (pc := 16) dX10_knownBy_16 rfl ?_
      refine Ev.iload_n (pc := 17) dX10_knownBy_17 rfl ?_
      refine Ev.iconst (pc := 18) dX10_knownBy_18 (v := 4) (by decide) ?_
      refine eBk h (fun q1 hq1 h => ?_)
      refine Ev.callV (pc := 19) (as := [.int v3, .int 4]) (st := [.int v2]) (z := 0) dX10_knownBy_19 wc_X10_report1 ml_RX10_137 im_X10_report1 se_X10_report1 lR_0 rfl rfl (ev_X10_report1 v3 4 M _ hq1) rfl rfl (by decide) rfl rfl (Nat.le_of_ble_eq_true rfl) ?_
      refine Ev.iload_n (pc := 22) dX10_knownBy_22 rfl ?_
      refine Ev.icmp_gt (pc := 23) (tgt := 30) dX10_knownBy_23 (by decide) (fun c9 => ?_) (fun c9 => ?_)
      · have h := eT h c9
        refine Ev.iconst (pc := 30) dX10_knownBy_30 (v := 0) (by decide) ?_
        refine Ev.iadd (pc := 31) dX10_knownBy_31 ?_
        refine Ev.istore_n (pc := 32) dX10_knownBy_32 (by decide) rfl rfl ?_
        refine Ev.iincv (pc := 33) dX10_knownBy_33 (v := 1) (by decide) rfl (by decide) rfl rfl ?_
        refine Ev.goto (pc := 36) (tgt := 4) dX10_knownBy_36 (by decide) ?_
        exact Ev.fg (ih _ _ _ h) (And.intro rfl (And.intro rfl (And.intro rfl (And.intro rfl trivial))))
      · have h := eF h c9
        refine Ev.iconst (pc := 26) dX10_knownBy_26 (v := 1) (by decide) ?_
        refine Ev.goto (pc := 27) (tgt := 31) dX10_knownBy_27 (by decide) ?_
        refine Ev.iadd (pc := 31) dX10_knownBy_31 ?_
        refine Ev.istore_n (pc := 32) dX10_knownBy_32 (by decide) rfl rfl ?_
        refine Ev.iincv (pc := 33) dX10_knownBy_33 (v := 1) (by decide) rfl (by decide) rfl rfl ?_
        refine Ev.goto (pc := 36) (tgt := 4) dX10_knownBy_36 (by decide) ?_
        exact Ev.fg (ih _ _ _ h) (And.intro rfl (And.intro rfl (And.intro rfl (And.intro rfl trivial))))
def F_X10_knownBy (x1 : Int32) (M : eMem) : Option Int32 :=
  F_X10_knownBy_4 eFuel M x1 0 0
set_option maxRecDepth 100000 in
set_option maxHeartbeats 4000000 in
theorem ev_X10_knownBy (x1 : Int32) (M : eMem) (q : Int32) (h : F_X10_knownBy x1 M = some q) : Ev layR 1 m_X10_knownBy 0 [some (.ref 0), some (.int x1), none, none] [] M (some (.int q), M) := by
  rw [F_X10_knownBy] at h
  refine Ev.iconst (pc := 0) dX10_knownBy_0 (v := 0) (by decide) ?_
  refine Ev.istore_n (pc := 1) dX10_knownBy_1 (by decide) rfl rfl ?_
  refine Ev.iconst (pc := 2) dX10_knownBy_2 (v := 0) (by decide) ?_
  refine Ev.istore_n (pc := 3) dX10_knownBy_3 (by decide) rfl rfl ?_
  exact Ev.fg (ev_X10_knownBy_4 _ _ _ _ _ _ h) (And.intro rfl (And.intro rfl (And.intro rfl (And.intro rfl trivial))))
theorem dX10_closes_0 : decode cX10_closes 0 = .ok (.iconst 0, 1) := by decide +kernel
theorem dX10_closes_1 : decode cX10_closes 1 = .ok (.istore_n 1, 1) := by decide +kernel
theorem dX10_closes_2 : decode cX10_closes 2 = .ok (.iconst 0, 1) := by decide +kernel
theorem dX10_closes_3 : decode cX10_closes 3 = .ok (.istore_n 2, 1) := by decide +kernel
theorem dX10_closes_4 : decode cX10_closes 4 = .ok (.iload_n 2, 1) := by decide +kernel
theorem dX10_closes_5 : decode cX10_closes 5 = .ok (.aload_n 0, 1) := by decide +kernel
theorem dX10_closes_6 : decode cX10_closes 6 = .ok (.getfield 7, 3) := by decide +kernel
theorem dX10_closes_9 : decode cX10_closes 9 = .ok (.bipush 9, 2) := by decide +kernel
theorem dX10_closes_11 : decode cX10_closes 11 = .ok (.iaload, 1) := by decide +kernel
theorem dX10_closes_12 : decode cX10_closes 12 = .ok (.if_icmp .ge 87, 3) := by decide +kernel
theorem dX10_closes_15 : decode cX10_closes 15 = .ok (.aload_n 0, 1) := by decide +kernel
theorem dX10_closes_16 : decode cX10_closes 16 = .ok (.iload_n 2, 1) := by decide +kernel
theorem dX10_closes_17 : decode cX10_closes 17 = .ok (.iconst 5, 1) := by decide +kernel
theorem dX10_closes_18 : decode cX10_closes 18 = .ok (.invokevirtual 77, 3) := by decide +kernel
theorem dX10_closes_21 : decode cX10_closes 21 = .ok (.iconst 1, 1) := by decide +kernel
theorem dX10_closes_22 : decode cX10_closes 22 = .ok (.if_icmp .ne 61, 3) := by decide +kernel
theorem dX10_closes_25 : decode cX10_closes 25 = .ok (.aload_n 0, 1) := by decide +kernel
theorem dX10_closes_26 : decode cX10_closes 26 = .ok (.iload_n 2, 1) := by decide +kernel
theorem dX10_closes_27 : decode cX10_closes 27 = .ok (.invokevirtual 121, 3) := by decide +kernel
theorem dX10_closes_30 : decode cX10_closes 30 = .ok (.aload_n 0, 1) := by decide +kernel
theorem dX10_closes_31 : decode cX10_closes 31 = .ok (.getfield 7, 3) := by decide +kernel
theorem dX10_closes_34 : decode cX10_closes 34 = .ok (.iconst 4, 1) := by decide +kernel
theorem dX10_closes_35 : decode cX10_closes 35 = .ok (.iaload, 1) := by decide +kernel
theorem dX10_closes_36 : decode cX10_closes 36 = .ok (.if_icmp .gt 40, 3) := by decide +kernel
theorem dX10_closes_39 : decode cX10_closes 39 = .ok (.aload_n 0, 1) := by decide +kernel
theorem dX10_closes_40 : decode cX10_closes 40 = .ok (.getfield 7, 3) := by decide +kernel
theorem dX10_closes_43 : decode cX10_closes 43 = .ok (.iconst 4, 1) := by decide +kernel
theorem dX10_closes_44 : decode cX10_closes 44 = .ok (.dup2, 1) := by decide +kernel
theorem dX10_closes_45 : decode cX10_closes 45 = .ok (.iaload, 1) := by decide +kernel
theorem dX10_closes_46 : decode cX10_closes 46 = .ok (.aload_n 0, 1) := by decide +kernel
theorem dX10_closes_47 : decode cX10_closes 47 = .ok (.iload_n 2, 1) := by decide +kernel
theorem dX10_closes_48 : decode cX10_closes 48 = .ok (.invokevirtual 121, 3) := by decide +kernel
theorem dX10_closes_51 : decode cX10_closes 51 = .ok (.isub, 1) := by decide +kernel
theorem dX10_closes_52 : decode cX10_closes 52 = .ok (.iastore, 1) := by decide +kernel
theorem dX10_closes_53 : decode cX10_closes 53 = .ok (.aload_n 0, 1) := by decide +kernel
theorem dX10_closes_54 : decode cX10_closes 54 = .ok (.iload_n 2, 1) := by decide +kernel
theorem dX10_closes_55 : decode cX10_closes 55 = .ok (.bipush 9, 2) := by decide +kernel
theorem dX10_closes_57 : decode cX10_closes 57 = .ok (.aload_n 0, 1) := by decide +kernel
theorem dX10_closes_58 : decode cX10_closes 58 = .ok (.iload_n 2, 1) := by decide +kernel
theorem dX10_closes_59 : decode cX10_closes 59 = .ok (.bipush 9, 2) := by decide +kernel
theorem dX10_closes_61 : decode cX10_closes 61 = .ok (.invokevirtual 77, 3) := by decide +kernel
theorem dX10_closes_64 : decode cX10_closes 64 = .ok (.aload_n 0, 1) := by decide +kernel
theorem dX10_closes_65 : decode cX10_closes 65 = .ok (.iload_n 2, 1) := by decide +kernel
theorem dX10_closes_66 : decode cX10_closes 66 = .ok (.invokevirtual 121, 3) := by decide +kernel
theorem dX10_closes_69 : decode cX10_closes 69 = .ok (.iadd, 1) := by decide +kernel
theorem dX10_closes_70 : decode cX10_closes 70 = .ok (.invokevirtual 105, 3) := by decide +kernel
theorem dX10_closes_73 : decode cX10_closes 73 = .ok (.goto 10, 3) := by decide +kernel
theorem dX10_closes_76 : decode cX10_closes 76 = .ok (.aload_n 0, 1) := by decide +kernel
theorem dX10_closes_77 : decode cX10_closes 77 = .ok (.iload_n 2, 1) := by decide +kernel
theorem dX10_closes_78 : decode cX10_closes 78 = .ok (.iconst 5, 1) := by decide +kernel
theorem dX10_closes_79 : decode cX10_closes 79 = .ok (.iconst 0, 1) := by decide +kernel
theorem dX10_closes_80 : decode cX10_closes 80 = .ok (.invokevirtual 105, 3) := by decide +kernel
theorem dX10_closes_83 : decode cX10_closes 83 = .ok (.iload_n 1, 1) := by decide +kernel
theorem dX10_closes_84 : decode cX10_closes 84 = .ok (.aload_n 0, 1) := by decide +kernel
theorem dX10_closes_85 : decode cX10_closes 85 = .ok (.iload_n 2, 1) := by decide +kernel
theorem dX10_closes_86 : decode cX10_closes 86 = .ok (.bipush 8, 2) := by decide +kernel
theorem dX10_closes_88 : decode cX10_closes 88 = .ok (.invokevirtual 77, 3) := by decide +kernel
theorem dX10_closes_91 : decode cX10_closes 91 = .ok (.iadd, 1) := by decide +kernel
theorem dX10_closes_92 : decode cX10_closes 92 = .ok (.istore_n 1, 1) := by decide +kernel
theorem dX10_closes_93 : decode cX10_closes 93 = .ok (.iinc 2 1, 3) := by decide +kernel
theorem dX10_closes_96 : decode cX10_closes 96 = .ok (.goto (-92), 3) := by decide +kernel
theorem dX10_closes_99 : decode cX10_closes 99 = .ok (.sipush 1278, 3) := by decide +kernel
theorem dX10_closes_102 : decode cX10_closes 102 = .ok (.bipush 6, 2) := by decide +kernel
theorem dX10_closes_104 : decode cX10_closes 104 = .ok (.aload_n 0, 1) := by decide +kernel
theorem dX10_closes_105 : decode cX10_closes 105 = .ok (.getfield 7, 3) := by decide +kernel
theorem dX10_closes_108 : decode cX10_closes 108 = .ok (.iconst 0, 1) := by decide +kernel
theorem dX10_closes_109 : decode cX10_closes 109 = .ok (.iaload, 1) := by decide +kernel
theorem dX10_closes_110 : decode cX10_closes 110 = .ok (.bipush 24, 2) := by decide +kernel
theorem dX10_closes_112 : decode cX10_closes 112 = .ok (.idiv, 1) := by decide +kernel
theorem dX10_closes_113 : decode cX10_closes 113 = .ok (.imul, 1) := by decide +kernel
theorem dX10_closes_114 : decode cX10_closes 114 = .ok (.iadd, 1) := by decide +kernel
theorem dX10_closes_115 : decode cX10_closes 115 = .ok (.istore_n 2, 1) := by decide +kernel
theorem dX10_closes_116 : decode cX10_closes 116 = .ok (.aload_n 0, 1) := by decide +kernel
theorem dX10_closes_117 : decode cX10_closes 117 = .ok (.aload_n 0, 1) := by decide +kernel
theorem dX10_closes_118 : decode cX10_closes 118 = .ok (.getfield 7, 3) := by decide +kernel
theorem dX10_closes_121 : decode cX10_closes 121 = .ok (.iconst 0, 1) := by decide +kernel
theorem dX10_closes_122 : decode cX10_closes 122 = .ok (.iaload, 1) := by decide +kernel
theorem dX10_closes_123 : decode cX10_closes 123 = .ok (.invokevirtual 154, 3) := by decide +kernel
theorem dX10_closes_126 : decode cX10_closes 126 = .ok (.aload_n 0, 1) := by decide +kernel
theorem dX10_closes_127 : decode cX10_closes 127 = .ok (.invokevirtual 158, 3) := by decide +kernel
theorem dX10_closes_130 : decode cX10_closes 130 = .ok (.aload_n 0, 1) := by decide +kernel
theorem dX10_closes_131 : decode cX10_closes 131 = .ok (.getfield 7, 3) := by decide +kernel
theorem dX10_closes_134 : decode cX10_closes 134 = .ok (.iload_n 2, 1) := by decide +kernel
theorem dX10_closes_135 : decode cX10_closes 135 = .ok (.aload_n 0, 1) := by decide +kernel
theorem dX10_closes_136 : decode cX10_closes 136 = .ok (.getfield 7, 3) := by decide +kernel
theorem dX10_closes_139 : decode cX10_closes 139 = .ok (.iconst 3, 1) := by decide +kernel
theorem dX10_closes_140 : decode cX10_closes 140 = .ok (.iaload, 1) := by decide +kernel
theorem dX10_closes_141 : decode cX10_closes 141 = .ok (.iastore, 1) := by decide +kernel
theorem dX10_closes_142 : decode cX10_closes 142 = .ok (.aload_n 0, 1) := by decide +kernel
theorem dX10_closes_143 : decode cX10_closes 143 = .ok (.getfield 7, 3) := by decide +kernel
theorem dX10_closes_146 : decode cX10_closes 146 = .ok (.iload_n 2, 1) := by decide +kernel
theorem dX10_closes_147 : decode cX10_closes 147 = .ok (.iconst 1, 1) := by decide +kernel
theorem dX10_closes_148 : decode cX10_closes 148 = .ok (.iadd, 1) := by decide +kernel
theorem dX10_closes_149 : decode cX10_closes 149 = .ok (.iload_n 1, 1) := by decide +kernel
theorem dX10_closes_150 : decode cX10_closes 150 = .ok (.iastore, 1) := by decide +kernel
theorem dX10_closes_151 : decode cX10_closes 151 = .ok (.aload_n 0, 1) := by decide +kernel
theorem dX10_closes_152 : decode cX10_closes 152 = .ok (.getfield 7, 3) := by decide +kernel
theorem dX10_closes_155 : decode cX10_closes 155 = .ok (.iload_n 2, 1) := by decide +kernel
theorem dX10_closes_156 : decode cX10_closes 156 = .ok (.iconst 2, 1) := by decide +kernel
theorem dX10_closes_157 : decode cX10_closes 157 = .ok (.iadd, 1) := by decide +kernel
theorem dX10_closes_158 : decode cX10_closes 158 = .ok (.aload_n 0, 1) := by decide +kernel
theorem dX10_closes_159 : decode cX10_closes 159 = .ok (.getfield 7, 3) := by decide +kernel
theorem dX10_closes_162 : decode cX10_closes 162 = .ok (.iconst 4, 1) := by decide +kernel
theorem dX10_closes_163 : decode cX10_closes 163 = .ok (.iaload, 1) := by decide +kernel
theorem dX10_closes_164 : decode cX10_closes 164 = .ok (.iastore, 1) := by decide +kernel
theorem dX10_closes_165 : decode cX10_closes 165 = .ok (.aload_n 0, 1) := by decide +kernel
theorem dX10_closes_166 : decode cX10_closes 166 = .ok (.getfield 7, 3) := by decide +kernel
theorem dX10_closes_169 : decode cX10_closes 169 = .ok (.iload_n 2, 1) := by decide +kernel
theorem dX10_closes_170 : decode cX10_closes 170 = .ok (.iconst 3, 1) := by decide +kernel
theorem dX10_closes_171 : decode cX10_closes 171 = .ok (.iadd, 1) := by decide +kernel
theorem dX10_closes_172 : decode cX10_closes 172 = .ok (.aload_n 0, 1) := by decide +kernel
theorem dX10_closes_173 : decode cX10_closes 173 = .ok (.invokevirtual 265, 3) := by decide +kernel
theorem dX10_closes_176 : decode cX10_closes 176 = .ok (.iastore, 1) := by decide +kernel
theorem dX10_closes_177 : decode cX10_closes 177 = .ok (.aload_n 0, 1) := by decide +kernel
theorem dX10_closes_178 : decode cX10_closes 178 = .ok (.getfield 7, 3) := by decide +kernel
theorem dX10_closes_181 : decode cX10_closes 181 = .ok (.iload_n 2, 1) := by decide +kernel
theorem dX10_closes_182 : decode cX10_closes 182 = .ok (.iconst 4, 1) := by decide +kernel
theorem dX10_closes_183 : decode cX10_closes 183 = .ok (.iadd, 1) := by decide +kernel
theorem dX10_closes_184 : decode cX10_closes 184 = .ok (.aload_n 0, 1) := by decide +kernel
theorem dX10_closes_185 : decode cX10_closes 185 = .ok (.aload_n 0, 1) := by decide +kernel
theorem dX10_closes_186 : decode cX10_closes 186 = .ok (.getfield 7, 3) := by decide +kernel
theorem dX10_closes_189 : decode cX10_closes 189 = .ok (.iconst 0, 1) := by decide +kernel
theorem dX10_closes_190 : decode cX10_closes 190 = .ok (.iaload, 1) := by decide +kernel
theorem dX10_closes_191 : decode cX10_closes 191 = .ok (.invokevirtual 268, 3) := by decide +kernel
theorem dX10_closes_194 : decode cX10_closes 194 = .ok (.iastore, 1) := by decide +kernel
theorem dX10_closes_195 : decode cX10_closes 195 = .ok (.aload_n 0, 1) := by decide +kernel
theorem dX10_closes_196 : decode cX10_closes 196 = .ok (.getfield 7, 3) := by decide +kernel
theorem dX10_closes_199 : decode cX10_closes 199 = .ok (.iload_n 2, 1) := by decide +kernel
theorem dX10_closes_200 : decode cX10_closes 200 = .ok (.iconst 5, 1) := by decide +kernel
theorem dX10_closes_201 : decode cX10_closes 201 = .ok (.iadd, 1) := by decide +kernel
theorem dX10_closes_202 : decode cX10_closes 202 = .ok (.aload_n 0, 1) := by decide +kernel
theorem dX10_closes_203 : decode cX10_closes 203 = .ok (.invokevirtual 173, 3) := by decide +kernel
theorem dX10_closes_206 : decode cX10_closes 206 = .ok (.iastore, 1) := by decide +kernel
theorem dX10_closes_207 : decode cX10_closes 207 = .ok (.return_, 1) := by decide +kernel
def F_X10_closes_83 (rec : Int32 → Int32 → eMem → Option eMem) (K99 : Int32 → eMem → Option eMem) (v1 : Int32) (v2 : Int32) (M : eMem) : Option eMem :=
  (F_X10_show v2 8 M).bind fun q2 =>
  rec (v1 + q2) (v2 + 1) M
set_option maxRecDepth 100000 in
set_option maxHeartbeats 4000000 in
theorem ev_X10_closes_83 (rec : Int32 → Int32 → eMem → Option eMem) (K99 : Int32 → eMem → Option eMem) (q : eMem) (hrec : ∀ (v1 : Int32) (v2 : Int32) (M : eMem), rec v1 v2 M = some q → Ev layR 3 m_X10_closes 4 [some (.ref 0), some (.int v1), some (.int v2)] [] M (none, q)) (hK99 : ∀ (v1 : Int32) (M : eMem), K99 v1 M = some q → Ev layR 3 m_X10_closes 99 [some (.ref 0), some (.int v1), none] [] M (none, q)) (v1 : Int32) (v2 : Int32) (M : eMem) (h : F_X10_closes_83 rec K99 v1 v2 M = some q) : Ev layR 3 m_X10_closes 83 [some (.ref 0), some (.int v1), some (.int v2)] [] M (none, q) := by
  rw [F_X10_closes_83] at h
  refine Ev.iload_n (pc := 83) dX10_closes_83 rfl ?_
  refine Ev.aload_n (pc := 84) dX10_closes_84 rfl ?_
  refine Ev.iload_n (pc := 85) dX10_closes_85 rfl ?_
  refine Ev.bipush (pc := 86) dX10_closes_86 (v := 8) (by decide) ?_
  refine eBk h (fun q2 hq2 h => ?_)
  refine Ev.callV (pc := 88) (as := [.int v2, .int 8]) (st := [.int v1]) (z := 0) dX10_closes_88 wc_X10_show ml_RX10_77 im_X10_show se_X10_show lR_0 rfl rfl (ev_X10_show v2 8 M _ hq2) rfl rfl (by decide) rfl rfl (Nat.le_of_ble_eq_true rfl) ?_
  refine Ev.iadd (pc := 91) dX10_closes_91 ?_
  refine Ev.istore_n (pc := 92) dX10_closes_92 (by decide) rfl rfl ?_
  refine Ev.iincv (pc := 93) dX10_closes_93 (v := 1) (by decide) rfl (by decide) rfl rfl ?_
  refine Ev.goto (pc := 96) (tgt := 4) dX10_closes_96 (by decide) ?_
  exact Ev.fg (hrec _ _ _ h) (And.intro rfl (And.intro rfl (And.intro rfl trivial)))
def F_X10_closes_4 (K99 : Int32 → eMem → Option eMem) : Nat → Int32 → Int32 → eMem → Option eMem
  | 0, _, _, _ => none
  | n + 1, v1, v2, M =>
    if v2 < (M.1 1 9) then
      (F_X10_show v2 5 M).bind fun q1 =>
      if q1 = 1 then
        (F_X10_priceOf v2 M).bind fun q3 =>
        if (M.1 1 4) < q3 then
          (F_X10_setShow v2 5 0 M).bind fun q4 =>
          F_X10_closes_83 (fun v1 v2 M => F_X10_closes_4 K99 n v1 v2 M) K99 v1 v2 q4
        else
          (F_X10_priceOf v2 M).bind fun q5 =>
          (F_X10_show v2 9 (eI M 1 4 ((M.1 1 4) - q5))).bind fun q6 =>
          (F_X10_priceOf v2 (eI M 1 4 ((M.1 1 4) - q5))).bind fun q7 =>
          (F_X10_setShow v2 9 (q6 + q7) (eI M 1 4 ((M.1 1 4) - q5))).bind fun q8 =>
          F_X10_closes_83 (fun v1 v2 M => F_X10_closes_4 K99 n v1 v2 M) K99 v1 v2 q8
      else
        F_X10_closes_83 (fun v1 v2 M => F_X10_closes_4 K99 n v1 v2 M) K99 v1 v2 M
    else
      K99 v1 M
set_option maxRecDepth 100000 in
set_option maxHeartbeats 4000000 in
theorem ev_X10_closes_4 (K99 : Int32 → eMem → Option eMem) (q : eMem) (hK99 : ∀ (v1 : Int32) (M : eMem), K99 v1 M = some q → Ev layR 3 m_X10_closes 99 [some (.ref 0), some (.int v1), none] [] M (none, q)) : ∀ (fuel : Nat) (v1 : Int32) (v2 : Int32) (M : eMem), F_X10_closes_4 K99 fuel v1 v2 M = some q → Ev layR 3 m_X10_closes 4 [some (.ref 0), some (.int v1), some (.int v2)] [] M (none, q) := by
  intro fuel
  induction fuel with
  | zero => intro v1 v2 M h; rw [F_X10_closes_4] at h; cases h
  | succ n ih =>
    intro v1 v2 M h
    rw [F_X10_closes_4] at h
    refine Ev.iload_n (pc := 4) dX10_closes_4 rfl ?_
    refine Ev.aload_n (pc := 5) dX10_closes_5 rfl ?_
    refine Ev.getR (pc := 6) dX10_closes_6 fl_RX10_7 lR_0 rfl ?_
    refine Ev.bipush (pc := 9) dX10_closes_9 (v := 9) (by decide) ?_
    refine Ev.ialdj (pc := 11) dX10_closes_11 (j := 9) lR_1 (by decide) (by decide) ?_
    refine Ev.icmp_ge (pc := 12) (tgt := 99) dX10_closes_12 (by decide) (fun c9 => ?_) (fun c9 => ?_)
    · have h := eF h c9
      exact Ev.fg (hK99 _ _ h) (And.intro rfl (And.intro rfl trivial))
    · have h := eT h c9
      refine Ev.aload_n (pc := 15) dX10_closes_15 rfl ?_
      refine Ev.iload_n (pc := 16) dX10_closes_16 rfl ?_
      refine Ev.iconst (pc := 17) dX10_closes_17 (v := 5) (by decide) ?_
      refine eBk h (fun q1 hq1 h => ?_)
      refine Ev.callV (pc := 18) (as := [.int v2, .int 5]) (st := []) (z := 0) dX10_closes_18 wc_X10_show ml_RX10_77 im_X10_show se_X10_show lR_0 rfl rfl (ev_X10_show v2 5 M _ hq1) rfl rfl (by decide) rfl rfl (Nat.le_of_ble_eq_true rfl) ?_
      refine Ev.iconst (pc := 21) dX10_closes_21 (v := 1) (by decide) ?_
      refine Ev.icmp_ne (pc := 22) (tgt := 83) dX10_closes_22 (by decide) (fun c9 => ?_) (fun c9 => ?_)
      · have h := eF h c9
        exact Ev.fg (ev_X10_closes_83 _ _ _ ih hK99 _ _ _ h) (And.intro rfl (And.intro rfl (And.intro rfl trivial)))
      · have h := eT h c9
        refine Ev.aload_n (pc := 25) dX10_closes_25 rfl ?_
        refine Ev.iload_n (pc := 26) dX10_closes_26 rfl ?_
        refine eBk h (fun q3 hq3 h => ?_)
        refine Ev.callV (pc := 27) (as := [.int v2]) (st := []) (z := 0) dX10_closes_27 wc_X10_priceOf ml_RX10_121 im_X10_priceOf se_X10_priceOf lR_0 rfl rfl (ev_X10_priceOf v2 M _ hq3) rfl rfl (by decide) rfl rfl (Nat.le_of_ble_eq_true rfl) ?_
        refine Ev.aload_n (pc := 30) dX10_closes_30 rfl ?_
        refine Ev.getR (pc := 31) dX10_closes_31 fl_RX10_7 lR_0 rfl ?_
        refine Ev.iconst (pc := 34) dX10_closes_34 (v := 4) (by decide) ?_
        refine Ev.ialdj (pc := 35) dX10_closes_35 (j := 4) lR_1 (by decide) (by decide) ?_
        refine Ev.icmp_gt (pc := 36) (tgt := 76) dX10_closes_36 (by decide) (fun c9 => ?_) (fun c9 => ?_)
        · have h := eT h c9
          refine Ev.aload_n (pc := 76) dX10_closes_76 rfl ?_
          refine Ev.iload_n (pc := 77) dX10_closes_77 rfl ?_
          refine Ev.iconst (pc := 78) dX10_closes_78 (v := 5) (by decide) ?_
          refine Ev.iconst (pc := 79) dX10_closes_79 (v := 0) (by decide) ?_
          refine eBk h (fun q4 hq4 h => ?_)
          refine Ev.callV (pc := 80) (as := [.int v2, .int 5, .int 0]) (st := []) (z := 0) dX10_closes_80 wc_X10_setShow ml_RX10_105 im_X10_setShow se_X10_setShow lR_0 rfl rfl (ev_X10_setShow v2 5 0 M _ hq4) rfl rfl (by decide) rfl rfl (Nat.le_of_ble_eq_true rfl) ?_
          exact Ev.fg (ev_X10_closes_83 _ _ _ ih hK99 _ _ _ h) (And.intro rfl (And.intro rfl (And.intro rfl trivial)))
        · have h := eF h c9
          refine Ev.aload_n (pc := 39) dX10_closes_39 rfl ?_
          refine Ev.getR (pc := 40) dX10_closes_40 fl_RX10_7 lR_0 rfl ?_
          refine Ev.iconst (pc := 43) dX10_closes_43 (v := 4) (by decide) ?_
          refine Ev.dup2 (pc := 44) dX10_closes_44 rfl rfl ?_
          refine Ev.ialdj (pc := 45) dX10_closes_45 (j := 4) lR_1 (by decide) (by decide) ?_
          refine Ev.aload_n (pc := 46) dX10_closes_46 rfl ?_
          refine Ev.iload_n (pc := 47) dX10_closes_47 rfl ?_
          refine eBk h (fun q5 hq5 h => ?_)
          refine Ev.callV (pc := 48) (as := [.int v2]) (st := [.int (M.1 1 4), .int 4, .ref 1]) (z := 0) dX10_closes_48 wc_X10_priceOf ml_RX10_121 im_X10_priceOf se_X10_priceOf lR_0 rfl rfl (ev_X10_priceOf v2 M _ hq5) rfl rfl (by decide) rfl rfl (Nat.le_of_ble_eq_true rfl) ?_
          refine Ev.isub (pc := 51) dX10_closes_51 ?_
          refine Ev.iastj (pc := 52) dX10_closes_52 (j := 4) lR_1 (by decide) (by decide) ?_
          refine Ev.aload_n (pc := 53) dX10_closes_53 rfl ?_
          refine Ev.iload_n (pc := 54) dX10_closes_54 rfl ?_
          refine Ev.bipush (pc := 55) dX10_closes_55 (v := 9) (by decide) ?_
          refine Ev.aload_n (pc := 57) dX10_closes_57 rfl ?_
          refine Ev.iload_n (pc := 58) dX10_closes_58 rfl ?_
          refine Ev.bipush (pc := 59) dX10_closes_59 (v := 9) (by decide) ?_
          refine eBk h (fun q6 hq6 h => ?_)
          refine Ev.callV (pc := 61) (as := [.int v2, .int 9]) (st := [.int 9, .int v2, .ref 0]) (z := 0) dX10_closes_61 wc_X10_show ml_RX10_77 im_X10_show se_X10_show lR_0 rfl rfl (ev_X10_show v2 9 (eI M 1 4 ((M.1 1 4) - q5)) _ hq6) rfl rfl (by decide) rfl rfl (Nat.le_of_ble_eq_true rfl) ?_
          refine Ev.aload_n (pc := 64) dX10_closes_64 rfl ?_
          refine Ev.iload_n (pc := 65) dX10_closes_65 rfl ?_
          refine eBk h (fun q7 hq7 h => ?_)
          refine Ev.callV (pc := 66) (as := [.int v2]) (st := [.int q6, .int 9, .int v2, .ref 0]) (z := 0) dX10_closes_66 wc_X10_priceOf ml_RX10_121 im_X10_priceOf se_X10_priceOf lR_0 rfl rfl (ev_X10_priceOf v2 (eI M 1 4 ((M.1 1 4) - q5)) _ hq7) rfl rfl (by decide) rfl rfl (Nat.le_of_ble_eq_true rfl) ?_
          refine Ev.iadd (pc := 69) dX10_closes_69 ?_
          refine eBk h (fun q8 hq8 h => ?_)
          refine Ev.callV (pc := 70) (as := [.int v2, .int 9, .int (q6 + q7)]) (st := []) (z := 0) dX10_closes_70 wc_X10_setShow ml_RX10_105 im_X10_setShow se_X10_setShow lR_0 rfl rfl (ev_X10_setShow v2 9 (q6 + q7) (eI M 1 4 ((M.1 1 4) - q5)) _ hq8) rfl rfl (by decide) rfl rfl (Nat.le_of_ble_eq_true rfl) ?_
          refine Ev.goto (pc := 73) (tgt := 83) dX10_closes_73 (by decide) ?_
          exact Ev.fg (ev_X10_closes_83 _ _ _ ih hK99 _ _ _ h) (And.intro rfl (And.intro rfl (And.intro rfl trivial)))
def F_X10_closes  (M : eMem) : Option eMem :=
  F_X10_closes_4
    (fun v1 M =>
      (F_X10_gather (M.1 1 0) M).bind fun q9 =>
      (F_X10_weigh q9).bind fun q10 =>
      eG (eIn (1278 + (6 * ((M.1 1 0) / 24))) 2900) <|
      eG (eIn ((1278 + (6 * ((M.1 1 0) / 24))) + 1) 2900) <|
      eG (eIn ((1278 + (6 * ((M.1 1 0) / 24))) + 2) 2900) <|
      (F_X10_standing (eI (eI (eI q10 1 (1278 + (6 * ((M.1 1 0) / 24))).toNatClampNeg (q10.1 1 3)) 1 ((1278 + (6 * ((M.1 1 0) / 24))) + 1).toNatClampNeg v1) 1 ((1278 + (6 * ((M.1 1 0) / 24))) + 2).toNatClampNeg ((eI (eI q10 1 (1278 + (6 * ((M.1 1 0) / 24))).toNatClampNeg (q10.1 1 3)) 1 ((1278 + (6 * ((M.1 1 0) / 24))) + 1).toNatClampNeg v1).1 1 4))).bind fun q11 =>
      eG (eIn ((1278 + (6 * ((M.1 1 0) / 24))) + 3) 2900) <|
      (F_X10_knownBy ((eI (eI (eI (eI q10 1 (1278 + (6 * ((M.1 1 0) / 24))).toNatClampNeg (q10.1 1 3)) 1 ((1278 + (6 * ((M.1 1 0) / 24))) + 1).toNatClampNeg v1) 1 ((1278 + (6 * ((M.1 1 0) / 24))) + 2).toNatClampNeg ((eI (eI q10 1 (1278 + (6 * ((M.1 1 0) / 24))).toNatClampNeg (q10.1 1 3)) 1 ((1278 + (6 * ((M.1 1 0) / 24))) + 1).toNatClampNeg v1).1 1 4)) 1 ((1278 + (6 * ((M.1 1 0) / 24))) + 3).toNatClampNeg q11).1 1 0) (eI (eI (eI (eI q10 1 (1278 + (6 * ((M.1 1 0) / 24))).toNatClampNeg (q10.1 1 3)) 1 ((1278 + (6 * ((M.1 1 0) / 24))) + 1).toNatClampNeg v1) 1 ((1278 + (6 * ((M.1 1 0) / 24))) + 2).toNatClampNeg ((eI (eI q10 1 (1278 + (6 * ((M.1 1 0) / 24))).toNatClampNeg (q10.1 1 3)) 1 ((1278 + (6 * ((M.1 1 0) / 24))) + 1).toNatClampNeg v1).1 1 4)) 1 ((1278 + (6 * ((M.1 1 0) / 24))) + 3).toNatClampNeg q11)).bind fun q12 =>
      eG (eIn ((1278 + (6 * ((M.1 1 0) / 24))) + 4) 2900) <|
      (F_X10_greatest (eI (eI (eI (eI (eI q10 1 (1278 + (6 * ((M.1 1 0) / 24))).toNatClampNeg (q10.1 1 3)) 1 ((1278 + (6 * ((M.1 1 0) / 24))) + 1).toNatClampNeg v1) 1 ((1278 + (6 * ((M.1 1 0) / 24))) + 2).toNatClampNeg ((eI (eI q10 1 (1278 + (6 * ((M.1 1 0) / 24))).toNatClampNeg (q10.1 1 3)) 1 ((1278 + (6 * ((M.1 1 0) / 24))) + 1).toNatClampNeg v1).1 1 4)) 1 ((1278 + (6 * ((M.1 1 0) / 24))) + 3).toNatClampNeg q11) 1 ((1278 + (6 * ((M.1 1 0) / 24))) + 4).toNatClampNeg q12)).bind fun q13 =>
      eG (eIn ((1278 + (6 * ((M.1 1 0) / 24))) + 5) 2900) <|
      some (eI (eI (eI (eI (eI (eI q10 1 (1278 + (6 * ((M.1 1 0) / 24))).toNatClampNeg (q10.1 1 3)) 1 ((1278 + (6 * ((M.1 1 0) / 24))) + 1).toNatClampNeg v1) 1 ((1278 + (6 * ((M.1 1 0) / 24))) + 2).toNatClampNeg ((eI (eI q10 1 (1278 + (6 * ((M.1 1 0) / 24))).toNatClampNeg (q10.1 1 3)) 1 ((1278 + (6 * ((M.1 1 0) / 24))) + 1).toNatClampNeg v1).1 1 4)) 1 ((1278 + (6 * ((M.1 1 0) / 24))) + 3).toNatClampNeg q11) 1 ((1278 + (6 * ((M.1 1 0) / 24))) + 4).toNatClampNeg q12) 1 ((1278 + (6 * ((M.1 1 0) / 24))) + 5).toNatClampNeg q13))
    eFuel 0 0 M
set_option maxRecDepth 100000 in
set_option maxHeartbeats 4000000 in
theorem ev_X10_closes  (M : eMem) (q : eMem) (h : F_X10_closes  M = some q) : Ev layR 3 m_X10_closes 0 [some (.ref 0), none, none] [] M (none, q) := by
  rw [F_X10_closes] at h
  refine Ev.iconst (pc := 0) dX10_closes_0 (v := 0) (by decide) ?_
  refine Ev.istore_n (pc := 1) dX10_closes_1 (by decide) rfl rfl ?_
  refine Ev.iconst (pc := 2) dX10_closes_2 (v := 0) (by decide) ?_
  refine Ev.istore_n (pc := 3) dX10_closes_3 (by decide) rfl rfl ?_
  refine Ev.fg (ev_X10_closes_4 _ _ ?_ _ _ _ _ h) (And.intro rfl (And.intro rfl (And.intro rfl trivial)))
  · intro v1 M h
    refine Ev.sipush (pc := 99) dX10_closes_99 (v := 1278) (by decide) ?_
    refine Ev.bipush (pc := 102) dX10_closes_102 (v := 6) (by decide) ?_
    refine Ev.aload_n (pc := 104) dX10_closes_104 rfl ?_
    refine Ev.getR (pc := 105) dX10_closes_105 fl_RX10_7 lR_0 rfl ?_
    refine Ev.iconst (pc := 108) dX10_closes_108 (v := 0) (by decide) ?_
    refine Ev.ialdj (pc := 109) dX10_closes_109 (j := 0) lR_1 (by decide) (by decide) ?_
    refine Ev.bipush (pc := 110) dX10_closes_110 (v := 24) (by decide) ?_
    refine Ev.idiv (pc := 112) dX10_closes_112 (by decide) ?_
    refine Ev.imul (pc := 113) dX10_closes_113 ?_
    refine Ev.iadd (pc := 114) dX10_closes_114 ?_
    refine Ev.istore_n (pc := 115) dX10_closes_115 (by decide) rfl rfl ?_
    refine Ev.aload_n (pc := 116) dX10_closes_116 rfl ?_
    refine Ev.aload_n (pc := 117) dX10_closes_117 rfl ?_
    refine Ev.getR (pc := 118) dX10_closes_118 fl_RX10_7 lR_0 rfl ?_
    refine Ev.iconst (pc := 121) dX10_closes_121 (v := 0) (by decide) ?_
    refine Ev.ialdj (pc := 122) dX10_closes_122 (j := 0) lR_1 (by decide) (by decide) ?_
    refine eBk h (fun q9 hq9 h => ?_)
    refine Ev.callV (pc := 123) (as := [.int (M.1 1 0)]) (st := []) (z := 1) dX10_closes_123 wc_X10_gather ml_RX10_154 im_X10_gather se_X10_gather lR_0 rfl rfl (ev_X10_gather (M.1 1 0) M _ hq9) rfl rfl (by decide) rfl rfl (Nat.le_of_ble_eq_true rfl) ?_
    refine Ev.aload_n (pc := 126) dX10_closes_126 rfl ?_
    refine eBk h (fun q10 hq10 h => ?_)
    refine Ev.callV (pc := 127) (as := []) (st := []) (z := 4) dX10_closes_127 wc_X10_weigh ml_RX10_158 im_X10_weigh se_X10_weigh lR_0 rfl rfl (ev_X10_weigh  q9 _ hq10) rfl rfl (by decide) rfl rfl (Nat.le_of_ble_eq_true rfl) ?_
    refine Ev.aload_n (pc := 130) dX10_closes_130 rfl ?_
    refine Ev.getR (pc := 131) dX10_closes_131 fl_RX10_7 lR_0 rfl ?_
    refine Ev.iload_n (pc := 134) dX10_closes_134 rfl ?_
    refine Ev.aload_n (pc := 135) dX10_closes_135 rfl ?_
    refine Ev.getR (pc := 136) dX10_closes_136 fl_RX10_7 lR_0 rfl ?_
    refine Ev.iconst (pc := 139) dX10_closes_139 (v := 3) (by decide) ?_
    refine Ev.ialdj (pc := 140) dX10_closes_140 (j := 3) lR_1 (by decide) (by decide) ?_
    obtain ⟨g9, h⟩ := eGdB h
    refine Ev.iastj (pc := 141) dX10_closes_141 (j := (1278 + (6 * ((M.1 1 0) / 24))).toNatClampNeg) lR_1 g9 rfl ?_
    refine Ev.aload_n (pc := 142) dX10_closes_142 rfl ?_
    refine Ev.getR (pc := 143) dX10_closes_143 fl_RX10_7 lR_0 rfl ?_
    refine Ev.iload_n (pc := 146) dX10_closes_146 rfl ?_
    refine Ev.iconst (pc := 147) dX10_closes_147 (v := 1) (by decide) ?_
    refine Ev.iadd (pc := 148) dX10_closes_148 ?_
    refine Ev.iload_n (pc := 149) dX10_closes_149 rfl ?_
    obtain ⟨g9, h⟩ := eGdB h
    refine Ev.iastj (pc := 150) dX10_closes_150 (j := ((1278 + (6 * ((M.1 1 0) / 24))) + 1).toNatClampNeg) lR_1 g9 rfl ?_
    refine Ev.aload_n (pc := 151) dX10_closes_151 rfl ?_
    refine Ev.getR (pc := 152) dX10_closes_152 fl_RX10_7 lR_0 rfl ?_
    refine Ev.iload_n (pc := 155) dX10_closes_155 rfl ?_
    refine Ev.iconst (pc := 156) dX10_closes_156 (v := 2) (by decide) ?_
    refine Ev.iadd (pc := 157) dX10_closes_157 ?_
    refine Ev.aload_n (pc := 158) dX10_closes_158 rfl ?_
    refine Ev.getR (pc := 159) dX10_closes_159 fl_RX10_7 lR_0 rfl ?_
    refine Ev.iconst (pc := 162) dX10_closes_162 (v := 4) (by decide) ?_
    refine Ev.ialdj (pc := 163) dX10_closes_163 (j := 4) lR_1 (by decide) (by decide) ?_
    obtain ⟨g9, h⟩ := eGdB h
    refine Ev.iastj (pc := 164) dX10_closes_164 (j := ((1278 + (6 * ((M.1 1 0) / 24))) + 2).toNatClampNeg) lR_1 g9 rfl ?_
    refine Ev.aload_n (pc := 165) dX10_closes_165 rfl ?_
    refine Ev.getR (pc := 166) dX10_closes_166 fl_RX10_7 lR_0 rfl ?_
    refine Ev.iload_n (pc := 169) dX10_closes_169 rfl ?_
    refine Ev.iconst (pc := 170) dX10_closes_170 (v := 3) (by decide) ?_
    refine Ev.iadd (pc := 171) dX10_closes_171 ?_
    refine Ev.aload_n (pc := 172) dX10_closes_172 rfl ?_
    refine eBk h (fun q11 hq11 h => ?_)
    refine Ev.callV (pc := 173) (as := []) (st := [.int ((1278 + (6 * ((M.1 1 0) / 24))) + 3), .ref 1]) (z := 2) dX10_closes_173 wc_X10_standing ml_RX10_265 im_X10_standing se_X10_standing lR_0 rfl rfl (ev_X10_standing  (eI (eI (eI q10 1 (1278 + (6 * ((M.1 1 0) / 24))).toNatClampNeg (q10.1 1 3)) 1 ((1278 + (6 * ((M.1 1 0) / 24))) + 1).toNatClampNeg v1) 1 ((1278 + (6 * ((M.1 1 0) / 24))) + 2).toNatClampNeg ((eI (eI q10 1 (1278 + (6 * ((M.1 1 0) / 24))).toNatClampNeg (q10.1 1 3)) 1 ((1278 + (6 * ((M.1 1 0) / 24))) + 1).toNatClampNeg v1).1 1 4)) _ hq11) rfl rfl (by decide) rfl rfl (Nat.le_of_ble_eq_true rfl) ?_
    obtain ⟨g9, h⟩ := eGdB h
    refine Ev.iastj (pc := 176) dX10_closes_176 (j := ((1278 + (6 * ((M.1 1 0) / 24))) + 3).toNatClampNeg) lR_1 g9 rfl ?_
    refine Ev.aload_n (pc := 177) dX10_closes_177 rfl ?_
    refine Ev.getR (pc := 178) dX10_closes_178 fl_RX10_7 lR_0 rfl ?_
    refine Ev.iload_n (pc := 181) dX10_closes_181 rfl ?_
    refine Ev.iconst (pc := 182) dX10_closes_182 (v := 4) (by decide) ?_
    refine Ev.iadd (pc := 183) dX10_closes_183 ?_
    refine Ev.aload_n (pc := 184) dX10_closes_184 rfl ?_
    refine Ev.aload_n (pc := 185) dX10_closes_185 rfl ?_
    refine Ev.getR (pc := 186) dX10_closes_186 fl_RX10_7 lR_0 rfl ?_
    refine Ev.iconst (pc := 189) dX10_closes_189 (v := 0) (by decide) ?_
    refine Ev.ialdj (pc := 190) dX10_closes_190 (j := 0) lR_1 (by decide) (by decide) ?_
    refine eBk h (fun q12 hq12 h => ?_)
    refine Ev.callV (pc := 191) (as := [.int ((eI (eI (eI (eI q10 1 (1278 + (6 * ((M.1 1 0) / 24))).toNatClampNeg (q10.1 1 3)) 1 ((1278 + (6 * ((M.1 1 0) / 24))) + 1).toNatClampNeg v1) 1 ((1278 + (6 * ((M.1 1 0) / 24))) + 2).toNatClampNeg ((eI (eI q10 1 (1278 + (6 * ((M.1 1 0) / 24))).toNatClampNeg (q10.1 1 3)) 1 ((1278 + (6 * ((M.1 1 0) / 24))) + 1).toNatClampNeg v1).1 1 4)) 1 ((1278 + (6 * ((M.1 1 0) / 24))) + 3).toNatClampNeg q11).1 1 0)]) (st := [.int ((1278 + (6 * ((M.1 1 0) / 24))) + 4), .ref 1]) (z := 2) dX10_closes_191 wc_X10_knownBy ml_RX10_268 im_X10_knownBy se_X10_knownBy lR_0 rfl rfl (ev_X10_knownBy ((eI (eI (eI (eI q10 1 (1278 + (6 * ((M.1 1 0) / 24))).toNatClampNeg (q10.1 1 3)) 1 ((1278 + (6 * ((M.1 1 0) / 24))) + 1).toNatClampNeg v1) 1 ((1278 + (6 * ((M.1 1 0) / 24))) + 2).toNatClampNeg ((eI (eI q10 1 (1278 + (6 * ((M.1 1 0) / 24))).toNatClampNeg (q10.1 1 3)) 1 ((1278 + (6 * ((M.1 1 0) / 24))) + 1).toNatClampNeg v1).1 1 4)) 1 ((1278 + (6 * ((M.1 1 0) / 24))) + 3).toNatClampNeg q11).1 1 0) (eI (eI (eI (eI q10 1 (1278 + (6 * ((M.1 1 0) / 24))).toNatClampNeg (q10.1 1 3)) 1 ((1278 + (6 * ((M.1 1 0) / 24))) + 1).toNatClampNeg v1) 1 ((1278 + (6 * ((M.1 1 0) / 24))) + 2).toNatClampNeg ((eI (eI q10 1 (1278 + (6 * ((M.1 1 0) / 24))).toNatClampNeg (q10.1 1 3)) 1 ((1278 + (6 * ((M.1 1 0) / 24))) + 1).toNatClampNeg v1).1 1 4)) 1 ((1278 + (6 * ((M.1 1 0) / 24))) + 3).toNatClampNeg q11) _ hq12) rfl rfl (by decide) rfl rfl (Nat.le_of_ble_eq_true rfl) ?_
    obtain ⟨g9, h⟩ := eGdB h
    refine Ev.iastj (pc := 194) dX10_closes_194 (j := ((1278 + (6 * ((M.1 1 0) / 24))) + 4).toNatClampNeg) lR_1 g9 rfl ?_
    refine Ev.aload_n (pc := 195) dX10_closes_195 rfl ?_
    refine Ev.getR (pc := 196) dX10_closes_196 fl_RX10_7 lR_0 rfl ?_
    refine Ev.iload_n (pc := 199) dX10_closes_199 rfl ?_
    refine Ev.iconst (pc := 200) dX10_closes_200 (v := 5) (by decide) ?_
    refine Ev.iadd (pc := 201) dX10_closes_201 ?_
    refine Ev.aload_n (pc := 202) dX10_closes_202 rfl ?_
    refine eBk h (fun q13 hq13 h => ?_)
    refine Ev.callV (pc := 203) (as := []) (st := [.int ((1278 + (6 * ((M.1 1 0) / 24))) + 5), .ref 1]) (z := 2) dX10_closes_203 wc_X10_greatest ml_RX10_173 im_X10_greatest se_X10_greatest lR_0 rfl rfl (ev_X10_greatest  (eI (eI (eI (eI (eI q10 1 (1278 + (6 * ((M.1 1 0) / 24))).toNatClampNeg (q10.1 1 3)) 1 ((1278 + (6 * ((M.1 1 0) / 24))) + 1).toNatClampNeg v1) 1 ((1278 + (6 * ((M.1 1 0) / 24))) + 2).toNatClampNeg ((eI (eI q10 1 (1278 + (6 * ((M.1 1 0) / 24))).toNatClampNeg (q10.1 1 3)) 1 ((1278 + (6 * ((M.1 1 0) / 24))) + 1).toNatClampNeg v1).1 1 4)) 1 ((1278 + (6 * ((M.1 1 0) / 24))) + 3).toNatClampNeg q11) 1 ((1278 + (6 * ((M.1 1 0) / 24))) + 4).toNatClampNeg q12) _ hq13) rfl rfl (by decide) rfl rfl (Nat.le_of_ble_eq_true rfl) ?_
    obtain ⟨g9, h⟩ := eGdB h
    refine Ev.iastj (pc := 206) dX10_closes_206 (j := ((1278 + (6 * ((M.1 1 0) / 24))) + 5).toNatClampNeg) lR_1 g9 rfl ?_
    obtain rfl := Option.some.inj h
    exact Ev.vret (pc := 207) dX10_closes_207 rfl
