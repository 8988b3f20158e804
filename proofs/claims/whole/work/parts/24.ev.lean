theorem dX9_copy_0 : decode cX9_copy 0 = .ok (.iload_n 1, 1) := by decide +kernel
theorem dX9_copy_1 : decode cX9_copy 1 = .ok (.iconst 4, 1) := by decide +kernel
theorem dX9_copy_2 : decode cX9_copy 2 = .ok (.invokestatic 37, 3) := by decide +kernel
theorem dX9_copy_5 : decode cX9_copy 5 = .ok (.ifCond .eq 11, 3) := by decide +kernel
theorem dX9_copy_8 : decode cX9_copy 8 = .ok (.iload_n 3, 1) := by decide +kernel
theorem dX9_copy_9 : decode cX9_copy 9 = .ok (.iconst 4, 1) := by decide +kernel
theorem dX9_copy_10 : decode cX9_copy 10 = .ok (.invokestatic 37, 3) := by decide +kernel
theorem dX9_copy_13 : decode cX9_copy 13 = .ok (.ifCond .ne 10, 3) := by decide +kernel
theorem dX9_copy_16 : decode cX9_copy 16 = .ok (.aload_n 0, 1) := by decide +kernel
theorem dX9_copy_17 : decode cX9_copy 17 = .ok (.ldc 41, 2) := by decide +kernel
theorem dX9_copy_19 : decode cX9_copy 19 = .ok (.invokevirtual 42, 3) := by decide +kernel
theorem dX9_copy_22 : decode cX9_copy 22 = .ok (.ireturn, 1) := by decide +kernel
theorem dX9_copy_23 : decode cX9_copy 23 = .ok (.aload_n 0, 1) := by decide +kernel
theorem dX9_copy_24 : decode cX9_copy 24 = .ok (.getfield 29, 3) := by decide +kernel
theorem dX9_copy_27 : decode cX9_copy 27 = .ok (.iload_n 1, 1) := by decide +kernel
theorem dX9_copy_28 : decode cX9_copy 28 = .ok (.invokevirtual 230, 3) := by decide +kernel
theorem dX9_copy_31 : decode cX9_copy 31 = .ok (.ifCond .ne 14, 3) := by decide +kernel
theorem dX9_copy_34 : decode cX9_copy 34 = .ok (.aload_n 0, 1) := by decide +kernel
theorem dX9_copy_35 : decode cX9_copy 35 = .ok (.getfield 29, 3) := by decide +kernel
theorem dX9_copy_38 : decode cX9_copy 38 = .ok (.iload_n 3, 1) := by decide +kernel
theorem dX9_copy_39 : decode cX9_copy 39 = .ok (.invokevirtual 230, 3) := by decide +kernel
theorem dX9_copy_42 : decode cX9_copy 42 = .ok (.ifCond .eq 10, 3) := by decide +kernel
theorem dX9_copy_45 : decode cX9_copy 45 = .ok (.aload_n 0, 1) := by decide +kernel
theorem dX9_copy_46 : decode cX9_copy 46 = .ok (.ldc 233, 2) := by decide +kernel
theorem dX9_copy_48 : decode cX9_copy 48 = .ok (.invokevirtual 42, 3) := by decide +kernel
theorem dX9_copy_51 : decode cX9_copy 51 = .ok (.ireturn, 1) := by decide +kernel
theorem dX9_copy_52 : decode cX9_copy 52 = .ok (.aload_n 0, 1) := by decide +kernel
theorem dX9_copy_53 : decode cX9_copy 53 = .ok (.getfield 29, 3) := by decide +kernel
theorem dX9_copy_56 : decode cX9_copy 56 = .ok (.getfield 383, 3) := by decide +kernel
theorem dX9_copy_59 : decode cX9_copy 59 = .ok (.iload_n 1, 1) := by decide +kernel
theorem dX9_copy_60 : decode cX9_copy 60 = .ok (.iaload, 1) := by decide +kernel
theorem dX9_copy_61 : decode cX9_copy 61 = .ok (.aload_n 0, 1) := by decide +kernel
theorem dX9_copy_62 : decode cX9_copy 62 = .ok (.getfield 29, 3) := by decide +kernel
theorem dX9_copy_65 : decode cX9_copy 65 = .ok (.getfield 383, 3) := by decide +kernel
theorem dX9_copy_68 : decode cX9_copy 68 = .ok (.iload_n 3, 1) := by decide +kernel
theorem dX9_copy_69 : decode cX9_copy 69 = .ok (.iaload, 1) := by decide +kernel
theorem dX9_copy_70 : decode cX9_copy 70 = .ok (.if_icmp .eq 10, 3) := by decide +kernel
theorem dX9_copy_73 : decode cX9_copy 73 = .ok (.aload_n 0, 1) := by decide +kernel
theorem dX9_copy_74 : decode cX9_copy 74 = .ok (.ldc 89, 2) := by decide +kernel
theorem dX9_copy_76 : decode cX9_copy 76 = .ok (.invokevirtual 42, 3) := by decide +kernel
theorem dX9_copy_79 : decode cX9_copy 79 = .ok (.ireturn, 1) := by decide +kernel
theorem dX9_copy_80 : decode cX9_copy 80 = .ok (.aload_n 0, 1) := by decide +kernel
theorem dX9_copy_81 : decode cX9_copy 81 = .ok (.getfield 29, 3) := by decide +kernel
theorem dX9_copy_84 : decode cX9_copy 84 = .ok (.iload_n 1, 1) := by decide +kernel
theorem dX9_copy_85 : decode cX9_copy 85 = .ok (.iload_n 2, 1) := by decide +kernel
theorem dX9_copy_86 : decode cX9_copy 86 = .ok (.iload 5, 2) := by decide +kernel
theorem dX9_copy_88 : decode cX9_copy 88 = .ok (.invokevirtual 392, 3) := by decide +kernel
theorem dX9_copy_91 : decode cX9_copy 91 = .ok (.ifCond .eq 18, 3) := by decide +kernel
theorem dX9_copy_94 : decode cX9_copy 94 = .ok (.aload_n 0, 1) := by decide +kernel
theorem dX9_copy_95 : decode cX9_copy 95 = .ok (.getfield 29, 3) := by decide +kernel
theorem dX9_copy_98 : decode cX9_copy 98 = .ok (.iload_n 3, 1) := by decide +kernel
theorem dX9_copy_99 : decode cX9_copy 99 = .ok (.iload 4, 2) := by decide +kernel
theorem dX9_copy_101 : decode cX9_copy 101 = .ok (.iload 5, 2) := by decide +kernel
theorem dX9_copy_103 : decode cX9_copy 103 = .ok (.invokevirtual 392, 3) := by decide +kernel
theorem dX9_copy_106 : decode cX9_copy 106 = .ok (.ifCond .ne 10, 3) := by decide +kernel
theorem dX9_copy_109 : decode cX9_copy 109 = .ok (.aload_n 0, 1) := by decide +kernel
theorem dX9_copy_110 : decode cX9_copy 110 = .ok (.ldc 41, 2) := by decide +kernel
theorem dX9_copy_112 : decode cX9_copy 112 = .ok (.invokevirtual 42, 3) := by decide +kernel
theorem dX9_copy_115 : decode cX9_copy 115 = .ok (.ireturn, 1) := by decide +kernel
theorem dX9_copy_116 : decode cX9_copy 116 = .ok (.aload_n 0, 1) := by decide +kernel
theorem dX9_copy_117 : decode cX9_copy 117 = .ok (.getfield 29, 3) := by decide +kernel
theorem dX9_copy_120 : decode cX9_copy 120 = .ok (.getfield 237, 3) := by decide +kernel
theorem dX9_copy_123 : decode cX9_copy 123 = .ok (.iload_n 1, 1) := by decide +kernel
theorem dX9_copy_124 : decode cX9_copy 124 = .ok (.aaload, 1) := by decide +kernel
theorem dX9_copy_125 : decode cX9_copy 125 = .ok (.iload_n 2, 1) := by decide +kernel
theorem dX9_copy_126 : decode cX9_copy 126 = .ok (.aload_n 0, 1) := by decide +kernel
theorem dX9_copy_127 : decode cX9_copy 127 = .ok (.getfield 29, 3) := by decide +kernel
theorem dX9_copy_130 : decode cX9_copy 130 = .ok (.getfield 237, 3) := by decide +kernel
theorem dX9_copy_133 : decode cX9_copy 133 = .ok (.iload_n 3, 1) := by decide +kernel
theorem dX9_copy_134 : decode cX9_copy 134 = .ok (.aaload, 1) := by decide +kernel
theorem dX9_copy_135 : decode cX9_copy 135 = .ok (.iload 4, 2) := by decide +kernel
theorem dX9_copy_137 : decode cX9_copy 137 = .ok (.iload 5, 2) := by decide +kernel
theorem dX9_copy_139 : decode cX9_copy 139 = .ok (.invokestatic 395, 3) := by decide +kernel
theorem dX9_copy_142 : decode cX9_copy 142 = .ok (.iload 5, 2) := by decide +kernel
theorem dX9_copy_144 : decode cX9_copy 144 = .ok (.ireturn, 1) := by decide +kernel
def F_X9_copy (x1 : Int32) (x2 : Int32) (x3 : Int32) (x4 : Int32) (x5 : Int32) (M : eMem) : Option (Int32 × eMem) :=
  (F_X9_isIn x1 4).bind fun q1 =>
  if q1 = 0 then
    (F_X9_found (-1000001) M).bind fun q2 =>
    some (q2.1, q2.2)
  else
    (F_X9_isIn x3 4).bind fun q3 =>
    if q3 = 0 then
      (F_X9_found (-1000001) M).bind fun q13 =>
      some (q13.1, q13.2)
    else
      (F_X4_isMissing x1 M).bind fun q4 =>
      if q4 = 0 then
        (F_X4_isMissing x3 M).bind fun q6 =>
        if q6 = 0 then
          eG (eIn x1 4) <|
          eG (eIn x3 4) <|
          if (M.1 148 x1.toNatClampNeg) = (M.1 148 x3.toNatClampNeg) then
            (F_X4_hasRange x1 x2 x5 M).bind fun q7 =>
            if q7 = 0 then
              (F_X9_found (-1000001) M).bind fun q8 =>
              some (q8.1, q8.2)
            else
              (F_X4_hasRange x3 x4 x5 M).bind fun q9 =>
              if q9 = 0 then
                (F_X9_found (-1000001) M).bind fun q10 =>
                some (q10.1, q10.2)
              else
                eG (eIn x1 4) <|
                eG (eIn x3 4) <|
                eG (eCp x2 x5 20) <|
                eG (eCp x4 x5 20) <|
                some (x5, (eCpy M (151 + x1.toNatClampNeg) (151 + x3.toNatClampNeg) x2.toNatClampNeg x4.toNatClampNeg x5.toNatClampNeg))
          else
            (F_X9_found (-1000003) M).bind fun q11 =>
            some (q11.1, q11.2)
        else
          (F_X9_found (-1000006) M).bind fun q12 =>
          some (q12.1, q12.2)
      else
        (F_X9_found (-1000006) M).bind fun q5 =>
        some (q5.1, q5.2)
set_option maxRecDepth 100000 in
set_option maxHeartbeats 4000000 in
theorem ev_X9_copy (x1 : Int32) (x2 : Int32) (x3 : Int32) (x4 : Int32) (x5 : Int32) (M : eMem) (q : (Int32 × eMem)) (h : F_X9_copy x1 x2 x3 x4 x5 M = some q) : Ev layC 2 m_X9_copy 0 [some (.ref 0), some (.int x1), some (.int x2), some (.int x3), some (.int x4), some (.int x5)] [] M (some (.int q.1), q.2) := by
  rw [F_X9_copy] at h
  refine Ev.iload_n (pc := 0) dX9_copy_0 rfl ?_
  refine Ev.iconst (pc := 1) dX9_copy_1 (v := 4) (by decide) ?_
  refine eBk h (fun q1 hq1 h => ?_)
  refine Ev.callS (pc := 2) (as := [.int x1, .int 4]) (st := []) (z := 0) dX9_copy_2 wc_X9_isIn ml_RX9_37 sm_X9_isIn (ev_X9_isIn x1 4 M _ hq1) rfl rfl (by decide) rfl rfl (Nat.le_of_ble_eq_true rfl) ?_
  refine Ev.if_eq (pc := 5) (tgt := 16) dX9_copy_5 (by decide) (fun c9 => ?_) (fun c9 => ?_)
  · have h := eT h c9
    refine Ev.aload_n (pc := 16) dX9_copy_16 rfl ?_
    refine Ev.ldc (pc := 17) dX9_copy_17 ld_RX9_41 ?_
    refine eBk h (fun q2 hq2 h => ?_)
    refine Ev.callV (pc := 19) (as := [.int (-1000001)]) (st := []) (z := 1) dX9_copy_19 wc_X9_found ml_RX9_42 im_X9_found se_X9_found lC_0 rfl rfl (ev_X9_found (-1000001) M _ hq2) rfl rfl (by decide) rfl rfl (Nat.le_of_ble_eq_true rfl) ?_
    obtain rfl := Option.some.inj h
    exact Ev.iret (pc := 22) dX9_copy_22 rfl rfl
  · have h := eF h c9
    refine Ev.iload_n (pc := 8) dX9_copy_8 rfl ?_
    refine Ev.iconst (pc := 9) dX9_copy_9 (v := 4) (by decide) ?_
    refine eBk h (fun q3 hq3 h => ?_)
    refine Ev.callS (pc := 10) (as := [.int x3, .int 4]) (st := []) (z := 0) dX9_copy_10 wc_X9_isIn ml_RX9_37 sm_X9_isIn (ev_X9_isIn x3 4 M _ hq3) rfl rfl (by decide) rfl rfl (Nat.le_of_ble_eq_true rfl) ?_
    refine Ev.if_ne (pc := 13) (tgt := 23) dX9_copy_13 (by decide) (fun c9 => ?_) (fun c9 => ?_)
    · have h := eF h c9
      refine Ev.aload_n (pc := 23) dX9_copy_23 rfl ?_
      refine Ev.getR (pc := 24) dX9_copy_24 fl_RX9_29 lC_0 rfl ?_
      refine Ev.iload_n (pc := 27) dX9_copy_27 rfl ?_
      refine eBk h (fun q4 hq4 h => ?_)
      refine Ev.callV (pc := 28) (as := [.int x1]) (st := []) (z := 0) dX9_copy_28 wc_X4_isMissing ml_RX9_230 im_X4_isMissing se_X4_isMissing lC_147 rfl rfl (ev_X4_isMissing x1 M _ hq4) rfl rfl (by decide) rfl rfl (Nat.le_of_ble_eq_true rfl) ?_
      refine Ev.if_ne (pc := 31) (tgt := 45) dX9_copy_31 (by decide) (fun c9 => ?_) (fun c9 => ?_)
      · have h := eF h c9
        refine Ev.aload_n (pc := 45) dX9_copy_45 rfl ?_
        refine Ev.ldc (pc := 46) dX9_copy_46 ld_RX9_233 ?_
        refine eBk h (fun q5 hq5 h => ?_)
        refine Ev.callV (pc := 48) (as := [.int (-1000006)]) (st := []) (z := 1) dX9_copy_48 wc_X9_found ml_RX9_42 im_X9_found se_X9_found lC_0 rfl rfl (ev_X9_found (-1000006) M _ hq5) rfl rfl (by decide) rfl rfl (Nat.le_of_ble_eq_true rfl) ?_
        obtain rfl := Option.some.inj h
        exact Ev.iret (pc := 51) dX9_copy_51 rfl rfl
      · have h := eT h c9
        refine Ev.aload_n (pc := 34) dX9_copy_34 rfl ?_
        refine Ev.getR (pc := 35) dX9_copy_35 fl_RX9_29 lC_0 rfl ?_
        refine Ev.iload_n (pc := 38) dX9_copy_38 rfl ?_
        refine eBk h (fun q6 hq6 h => ?_)
        refine Ev.callV (pc := 39) (as := [.int x3]) (st := []) (z := 0) dX9_copy_39 wc_X4_isMissing ml_RX9_230 im_X4_isMissing se_X4_isMissing lC_147 rfl rfl (ev_X4_isMissing x3 M _ hq6) rfl rfl (by decide) rfl rfl (Nat.le_of_ble_eq_true rfl) ?_
        refine Ev.if_eq (pc := 42) (tgt := 52) dX9_copy_42 (by decide) (fun c9 => ?_) (fun c9 => ?_)
        · have h := eT h c9
          refine Ev.aload_n (pc := 52) dX9_copy_52 rfl ?_
          refine Ev.getR (pc := 53) dX9_copy_53 fl_RX9_29 lC_0 rfl ?_
          refine Ev.getR (pc := 56) dX9_copy_56 fl_RX9_383 lC_147 rfl ?_
          refine Ev.iload_n (pc := 59) dX9_copy_59 rfl ?_
          obtain ⟨g9, h⟩ := eGdB h
          refine Ev.ialdj (pc := 60) dX9_copy_60 (j := x1.toNatClampNeg) lC_148 g9 rfl ?_
          refine Ev.aload_n (pc := 61) dX9_copy_61 rfl ?_
          refine Ev.getR (pc := 62) dX9_copy_62 fl_RX9_29 lC_0 rfl ?_
          refine Ev.getR (pc := 65) dX9_copy_65 fl_RX9_383 lC_147 rfl ?_
          refine Ev.iload_n (pc := 68) dX9_copy_68 rfl ?_
          obtain ⟨g9, h⟩ := eGdB h
          refine Ev.ialdj (pc := 69) dX9_copy_69 (j := x3.toNatClampNeg) lC_148 g9 rfl ?_
          refine Ev.icmp_eq (pc := 70) (tgt := 80) dX9_copy_70 (by decide) (fun c9 => ?_) (fun c9 => ?_)
          · have h := eT h c9
            refine Ev.aload_n (pc := 80) dX9_copy_80 rfl ?_
            refine Ev.getR (pc := 81) dX9_copy_81 fl_RX9_29 lC_0 rfl ?_
            refine Ev.iload_n (pc := 84) dX9_copy_84 rfl ?_
            refine Ev.iload_n (pc := 85) dX9_copy_85 rfl ?_
            refine Ev.iload (pc := 86) dX9_copy_86 rfl ?_
            refine eBk h (fun q7 hq7 h => ?_)
            refine Ev.callV (pc := 88) (as := [.int x1, .int x2, .int x5]) (st := []) (z := 0) dX9_copy_88 wc_X4_hasRange ml_RX9_392 im_X4_hasRange se_X4_hasRange lC_147 rfl rfl (ev_X4_hasRange x1 x2 x5 M _ hq7) rfl rfl (by decide) rfl rfl (Nat.le_of_ble_eq_true rfl) ?_
            refine Ev.if_eq (pc := 91) (tgt := 109) dX9_copy_91 (by decide) (fun c9 => ?_) (fun c9 => ?_)
            · have h := eT h c9
              refine Ev.aload_n (pc := 109) dX9_copy_109 rfl ?_
              refine Ev.ldc (pc := 110) dX9_copy_110 ld_RX9_41 ?_
              refine eBk h (fun q8 hq8 h => ?_)
              refine Ev.callV (pc := 112) (as := [.int (-1000001)]) (st := []) (z := 1) dX9_copy_112 wc_X9_found ml_RX9_42 im_X9_found se_X9_found lC_0 rfl rfl (ev_X9_found (-1000001) M _ hq8) rfl rfl (by decide) rfl rfl (Nat.le_of_ble_eq_true rfl) ?_
              obtain rfl := Option.some.inj h
              exact Ev.iret (pc := 115) dX9_copy_115 rfl rfl
            · have h := eF h c9
              refine Ev.aload_n (pc := 94) dX9_copy_94 rfl ?_
              refine Ev.getR (pc := 95) dX9_copy_95 fl_RX9_29 lC_0 rfl ?_
              refine Ev.iload_n (pc := 98) dX9_copy_98 rfl ?_
              refine Ev.iload (pc := 99) dX9_copy_99 rfl ?_
              refine Ev.iload (pc := 101) dX9_copy_101 rfl ?_
              refine eBk h (fun q9 hq9 h => ?_)
              refine Ev.callV (pc := 103) (as := [.int x3, .int x4, .int x5]) (st := []) (z := 0) dX9_copy_103 wc_X4_hasRange ml_RX9_392 im_X4_hasRange se_X4_hasRange lC_147 rfl rfl (ev_X4_hasRange x3 x4 x5 M _ hq9) rfl rfl (by decide) rfl rfl (Nat.le_of_ble_eq_true rfl) ?_
              refine Ev.if_ne (pc := 106) (tgt := 116) dX9_copy_106 (by decide) (fun c9 => ?_) (fun c9 => ?_)
              · have h := eF h c9
                refine Ev.aload_n (pc := 116) dX9_copy_116 rfl ?_
                refine Ev.getR (pc := 117) dX9_copy_117 fl_RX9_29 lC_0 rfl ?_
                refine Ev.getR (pc := 120) dX9_copy_120 fl_RX9_237 lC_147 rfl ?_
                refine Ev.iload_n (pc := 123) dX9_copy_123 rfl ?_
                obtain ⟨g9, h⟩ := eGdB h
                have gg5 := eIn_lt g9
                refine Ev.aaldj (pc := 124) dX9_copy_124 (z := 151 + x1.toNatClampNeg) lC_150 (by decide) (eIn_n0 g9) (grC_150 _ gg5) ?_
                refine Ev.iload_n (pc := 125) dX9_copy_125 rfl ?_
                refine Ev.aload_n (pc := 126) dX9_copy_126 rfl ?_
                refine Ev.getR (pc := 127) dX9_copy_127 fl_RX9_29 lC_0 rfl ?_
                refine Ev.getR (pc := 130) dX9_copy_130 fl_RX9_237 lC_147 rfl ?_
                refine Ev.iload_n (pc := 133) dX9_copy_133 rfl ?_
                obtain ⟨g9, h⟩ := eGdB h
                have gg13 := eIn_lt g9
                refine Ev.aaldj (pc := 134) dX9_copy_134 (z := 151 + x3.toNatClampNeg) lC_150 (by decide) (eIn_n0 g9) (grC_150 _ gg13) ?_
                refine Ev.iload (pc := 135) dX9_copy_135 rfl ?_
                refine Ev.iload (pc := 137) dX9_copy_137 rfl ?_
                obtain ⟨g8, h⟩ := eGdB h
                obtain ⟨g7, h⟩ := eGdB h
                refine Ev.copyIj (pc := 139) (sp2 := x2.toNatClampNeg) (dp2 := x4.toNatClampNeg) (n2 := x5.toNatClampNeg) dX9_copy_139 sy_RX9_395 (glC_150 _ gg5) (glC_150 _ gg13) rfl rfl rfl (eCp_of g8).1 (eCp_of g7).1 (eCp_of g8).2.1 (eCp_of g8).2.2 (eCp_of g7).2.2 (by decide) (Nat.le_of_ble_eq_true rfl) ?_
                refine Ev.iload (pc := 142) dX9_copy_142 rfl ?_
                obtain rfl := Option.some.inj h
                exact Ev.iret (pc := 144) dX9_copy_144 rfl rfl
              · have h := eT h c9
                refine Ev.aload_n (pc := 109) dX9_copy_109 rfl ?_
                refine Ev.ldc (pc := 110) dX9_copy_110 ld_RX9_41 ?_
                refine eBk h (fun q10 hq10 h => ?_)
                refine Ev.callV (pc := 112) (as := [.int (-1000001)]) (st := []) (z := 1) dX9_copy_112 wc_X9_found ml_RX9_42 im_X9_found se_X9_found lC_0 rfl rfl (ev_X9_found (-1000001) M _ hq10) rfl rfl (by decide) rfl rfl (Nat.le_of_ble_eq_true rfl) ?_
                obtain rfl := Option.some.inj h
                exact Ev.iret (pc := 115) dX9_copy_115 rfl rfl
          · have h := eF h c9
            refine Ev.aload_n (pc := 73) dX9_copy_73 rfl ?_
            refine Ev.ldc (pc := 74) dX9_copy_74 ld_RX9_89 ?_
            refine eBk h (fun q11 hq11 h => ?_)
            refine Ev.callV (pc := 76) (as := [.int (-1000003)]) (st := []) (z := 1) dX9_copy_76 wc_X9_found ml_RX9_42 im_X9_found se_X9_found lC_0 rfl rfl (ev_X9_found (-1000003) M _ hq11) rfl rfl (by decide) rfl rfl (Nat.le_of_ble_eq_true rfl) ?_
            obtain rfl := Option.some.inj h
            exact Ev.iret (pc := 79) dX9_copy_79 rfl rfl
        · have h := eF h c9
          refine Ev.aload_n (pc := 45) dX9_copy_45 rfl ?_
          refine Ev.ldc (pc := 46) dX9_copy_46 ld_RX9_233 ?_
          refine eBk h (fun q12 hq12 h => ?_)
          refine Ev.callV (pc := 48) (as := [.int (-1000006)]) (st := []) (z := 1) dX9_copy_48 wc_X9_found ml_RX9_42 im_X9_found se_X9_found lC_0 rfl rfl (ev_X9_found (-1000006) M _ hq12) rfl rfl (by decide) rfl rfl (Nat.le_of_ble_eq_true rfl) ?_
          obtain rfl := Option.some.inj h
          exact Ev.iret (pc := 51) dX9_copy_51 rfl rfl
    · have h := eT h c9
      refine Ev.aload_n (pc := 16) dX9_copy_16 rfl ?_
      refine Ev.ldc (pc := 17) dX9_copy_17 ld_RX9_41 ?_
      refine eBk h (fun q13 hq13 h => ?_)
      refine Ev.callV (pc := 19) (as := [.int (-1000001)]) (st := []) (z := 1) dX9_copy_19 wc_X9_found ml_RX9_42 im_X9_found se_X9_found lC_0 rfl rfl (ev_X9_found (-1000001) M _ hq13) rfl rfl (by decide) rfl rfl (Nat.le_of_ble_eq_true rfl) ?_
      obtain rfl := Option.some.inj h
      exact Ev.iret (pc := 22) dX9_copy_22 rfl rfl
theorem dX10_copy_0 : decode cX10_copy 0 = .ok (.iload_n 1, 1) := by decide +kernel
theorem dX10_copy_1 : decode cX10_copy 1 = .ok (.invokestatic 134, 3) := by decide +kernel
theorem dX10_copy_4 : decode cX10_copy 4 = .ok (.ifCond .eq 10, 3) := by decide +kernel
theorem dX10_copy_7 : decode cX10_copy 7 = .ok (.iload_n 3, 1) := by decide +kernel
theorem dX10_copy_8 : decode cX10_copy 8 = .ok (.invokestatic 134, 3) := by decide +kernel
theorem dX10_copy_11 : decode cX10_copy 11 = .ok (.ifCond .ne 9, 3) := by decide +kernel
theorem dX10_copy_14 : decode cX10_copy 14 = .ok (.aload_n 0, 1) := by decide +kernel
theorem dX10_copy_15 : decode cX10_copy 15 = .ok (.iconst 1, 1) := by decide +kernel
theorem dX10_copy_16 : decode cX10_copy 16 = .ok (.invokevirtual 66, 3) := by decide +kernel
theorem dX10_copy_19 : decode cX10_copy 19 = .ok (.ireturn, 1) := by decide +kernel
theorem dX10_copy_20 : decode cX10_copy 20 = .ok (.aload_n 0, 1) := by decide +kernel
theorem dX10_copy_21 : decode cX10_copy 21 = .ok (.getfield 20, 3) := by decide +kernel
theorem dX10_copy_24 : decode cX10_copy 24 = .ok (.iload_n 1, 1) := by decide +kernel
theorem dX10_copy_25 : decode cX10_copy 25 = .ok (.iaload, 1) := by decide +kernel
theorem dX10_copy_26 : decode cX10_copy 26 = .ok (.ifCond .eq 12, 3) := by decide +kernel
theorem dX10_copy_29 : decode cX10_copy 29 = .ok (.aload_n 0, 1) := by decide +kernel
theorem dX10_copy_30 : decode cX10_copy 30 = .ok (.getfield 20, 3) := by decide +kernel
theorem dX10_copy_33 : decode cX10_copy 33 = .ok (.iload_n 3, 1) := by decide +kernel
theorem dX10_copy_34 : decode cX10_copy 34 = .ok (.iaload, 1) := by decide +kernel
theorem dX10_copy_35 : decode cX10_copy 35 = .ok (.ifCond .ne 10, 3) := by decide +kernel
theorem dX10_copy_38 : decode cX10_copy 38 = .ok (.aload_n 0, 1) := by decide +kernel
theorem dX10_copy_39 : decode cX10_copy 39 = .ok (.bipush 6, 2) := by decide +kernel
theorem dX10_copy_41 : decode cX10_copy 41 = .ok (.invokevirtual 66, 3) := by decide +kernel
theorem dX10_copy_44 : decode cX10_copy 44 = .ok (.ireturn, 1) := by decide +kernel
theorem dX10_copy_45 : decode cX10_copy 45 = .ok (.aload_n 0, 1) := by decide +kernel
theorem dX10_copy_46 : decode cX10_copy 46 = .ok (.getfield 20, 3) := by decide +kernel
theorem dX10_copy_49 : decode cX10_copy 49 = .ok (.iload_n 1, 1) := by decide +kernel
theorem dX10_copy_50 : decode cX10_copy 50 = .ok (.iaload, 1) := by decide +kernel
theorem dX10_copy_51 : decode cX10_copy 51 = .ok (.aload_n 0, 1) := by decide +kernel
theorem dX10_copy_52 : decode cX10_copy 52 = .ok (.getfield 20, 3) := by decide +kernel
theorem dX10_copy_55 : decode cX10_copy 55 = .ok (.iload_n 3, 1) := by decide +kernel
theorem dX10_copy_56 : decode cX10_copy 56 = .ok (.iaload, 1) := by decide +kernel
theorem dX10_copy_57 : decode cX10_copy 57 = .ok (.if_icmp .eq 9, 3) := by decide +kernel
theorem dX10_copy_60 : decode cX10_copy 60 = .ok (.aload_n 0, 1) := by decide +kernel
theorem dX10_copy_61 : decode cX10_copy 61 = .ok (.iconst 3, 1) := by decide +kernel
theorem dX10_copy_62 : decode cX10_copy 62 = .ok (.invokevirtual 66, 3) := by decide +kernel
theorem dX10_copy_65 : decode cX10_copy 65 = .ok (.ireturn, 1) := by decide +kernel
theorem dX10_copy_66 : decode cX10_copy 66 = .ok (.iload 5, 2) := by decide +kernel
theorem dX10_copy_68 : decode cX10_copy 68 = .ok (.ifCond .lt 39, 3) := by decide +kernel
theorem dX10_copy_71 : decode cX10_copy 71 = .ok (.iload_n 2, 1) := by decide +kernel
theorem dX10_copy_72 : decode cX10_copy 72 = .ok (.ifCond .lt 35, 3) := by decide +kernel
theorem dX10_copy_75 : decode cX10_copy 75 = .ok (.iload 4, 2) := by decide +kernel
theorem dX10_copy_77 : decode cX10_copy 77 = .ok (.ifCond .lt 30, 3) := by decide +kernel
theorem dX10_copy_80 : decode cX10_copy 80 = .ok (.iload_n 2, 1) := by decide +kernel
theorem dX10_copy_81 : decode cX10_copy 81 = .ok (.aload_n 0, 1) := by decide +kernel
theorem dX10_copy_82 : decode cX10_copy 82 = .ok (.getfield 23, 3) := by decide +kernel
theorem dX10_copy_85 : decode cX10_copy 85 = .ok (.iload_n 1, 1) := by decide +kernel
theorem dX10_copy_86 : decode cX10_copy 86 = .ok (.iaload, 1) := by decide +kernel
theorem dX10_copy_87 : decode cX10_copy 87 = .ok (.iload 5, 2) := by decide +kernel
theorem dX10_copy_89 : decode cX10_copy 89 = .ok (.isub, 1) := by decide +kernel
theorem dX10_copy_90 : decode cX10_copy 90 = .ok (.if_icmp .gt 17, 3) := by decide +kernel
theorem dX10_copy_93 : decode cX10_copy 93 = .ok (.iload 4, 2) := by decide +kernel
theorem dX10_copy_95 : decode cX10_copy 95 = .ok (.aload_n 0, 1) := by decide +kernel
theorem dX10_copy_96 : decode cX10_copy 96 = .ok (.getfield 23, 3) := by decide +kernel
theorem dX10_copy_99 : decode cX10_copy 99 = .ok (.iload_n 3, 1) := by decide +kernel
theorem dX10_copy_100 : decode cX10_copy 100 = .ok (.iaload, 1) := by decide +kernel
theorem dX10_copy_101 : decode cX10_copy 101 = .ok (.iload 5, 2) := by decide +kernel
theorem dX10_copy_103 : decode cX10_copy 103 = .ok (.isub, 1) := by decide +kernel
theorem dX10_copy_104 : decode cX10_copy 104 = .ok (.if_icmp .le 9, 3) := by decide +kernel
theorem dX10_copy_107 : decode cX10_copy 107 = .ok (.aload_n 0, 1) := by decide +kernel
theorem dX10_copy_108 : decode cX10_copy 108 = .ok (.iconst 1, 1) := by decide +kernel
theorem dX10_copy_109 : decode cX10_copy 109 = .ok (.invokevirtual 66, 3) := by decide +kernel
theorem dX10_copy_112 : decode cX10_copy 112 = .ok (.ireturn, 1) := by decide +kernel
theorem dX10_copy_113 : decode cX10_copy 113 = .ok (.iconst 0, 1) := by decide +kernel
theorem dX10_copy_114 : decode cX10_copy 114 = .ok (.istore 6, 2) := by decide +kernel
theorem dX10_copy_116 : decode cX10_copy 116 = .ok (.iload 6, 2) := by decide +kernel
theorem dX10_copy_118 : decode cX10_copy 118 = .ok (.iload 5, 2) := by decide +kernel
theorem dX10_copy_120 : decode cX10_copy 120 = .ok (.if_icmp .ge 30, 3) := by decide +kernel
theorem dX10_copy_123 : decode cX10_copy 123 = .ok (.aload_n 0, 1) := by decide +kernel
theorem dX10_copy_124 : decode cX10_copy 124 = .ok (.getfield 54, 3) := by decide +kernel
theorem dX10_copy_127 : decode cX10_copy 127 = .ok (.iload 6, 2) := by decide +kernel
theorem dX10_copy_129 : decode cX10_copy 129 = .ok (.aload_n 0, 1) := by decide +kernel
theorem dX10_copy_130 : decode cX10_copy 130 = .ok (.getfield 26, 3) := by decide +kernel
theorem dX10_copy_133 : decode cX10_copy 133 = .ok (.bipush 20, 2) := by decide +kernel
theorem dX10_copy_135 : decode cX10_copy 135 = .ok (.iload_n 1, 1) := by decide +kernel
theorem dX10_copy_136 : decode cX10_copy 136 = .ok (.imul, 1) := by decide +kernel
theorem dX10_copy_137 : decode cX10_copy 137 = .ok (.iload_n 2, 1) := by decide +kernel
theorem dX10_copy_138 : decode cX10_copy 138 = .ok (.iadd, 1) := by decide +kernel
theorem dX10_copy_139 : decode cX10_copy 139 = .ok (.iload 6, 2) := by decide +kernel
theorem dX10_copy_141 : decode cX10_copy 141 = .ok (.iadd, 1) := by decide +kernel
theorem dX10_copy_142 : decode cX10_copy 142 = .ok (.iaload, 1) := by decide +kernel
theorem dX10_copy_143 : decode cX10_copy 143 = .ok (.iastore, 1) := by decide +kernel
theorem dX10_copy_144 : decode cX10_copy 144 = .ok (.iinc 6 1, 3) := by decide +kernel
theorem dX10_copy_147 : decode cX10_copy 147 = .ok (.goto (-31), 3) := by decide +kernel
theorem dX10_copy_150 : decode cX10_copy 150 = .ok (.iconst 0, 1) := by decide +kernel
theorem dX10_copy_151 : decode cX10_copy 151 = .ok (.istore 6, 2) := by decide +kernel
theorem dX10_copy_153 : decode cX10_copy 153 = .ok (.iload 6, 2) := by decide +kernel
theorem dX10_copy_155 : decode cX10_copy 155 = .ok (.iload 5, 2) := by decide +kernel
theorem dX10_copy_157 : decode cX10_copy 157 = .ok (.if_icmp .ge 31, 3) := by decide +kernel
theorem dX10_copy_160 : decode cX10_copy 160 = .ok (.aload_n 0, 1) := by decide +kernel
theorem dX10_copy_161 : decode cX10_copy 161 = .ok (.getfield 26, 3) := by decide +kernel
theorem dX10_copy_164 : decode cX10_copy 164 = .ok (.bipush 20, 2) := by decide +kernel
theorem dX10_copy_166 : decode cX10_copy 166 = .ok (.iload_n 3, 1) := by decide +kernel
theorem dX10_copy_167 : decode cX10_copy 167 = .ok (.imul, 1) := by decide +kernel
theorem dX10_copy_168 : decode cX10_copy 168 = .ok (.iload 4, 2) := by decide +kernel
theorem dX10_copy_170 : decode cX10_copy 170 = .ok (.iadd, 1) := by decide +kernel
theorem dX10_copy_171 : decode cX10_copy 171 = .ok (.iload 6, 2) := by decide +kernel
theorem dX10_copy_173 : decode cX10_copy 173 = .ok (.iadd, 1) := by decide +kernel
theorem dX10_copy_174 : decode cX10_copy 174 = .ok (.aload_n 0, 1) := by decide +kernel
theorem dX10_copy_175 : decode cX10_copy 175 = .ok (.getfield 54, 3) := by decide +kernel
theorem dX10_copy_178 : decode cX10_copy 178 = .ok (.iload 6, 2) := by decide +kernel
theorem dX10_copy_180 : decode cX10_copy 180 = .ok (.iaload, 1) := by decide +kernel
theorem dX10_copy_181 : decode cX10_copy 181 = .ok (.iastore, 1) := by decide +kernel
theorem dX10_copy_182 : decode cX10_copy 182 = .ok (.iinc 6 1, 3) := by decide +kernel
theorem dX10_copy_185 : decode cX10_copy 185 = .ok (.goto (-32), 3) := by decide +kernel
theorem dX10_copy_188 : decode cX10_copy 188 = .ok (.iload 5, 2) := by decide +kernel
theorem dX10_copy_190 : decode cX10_copy 190 = .ok (.ireturn, 1) := by decide +kernel
def F_X10_copy_116 (K150 : Int32 → Int32 → Int32 → eMem → Option (Int32 × eMem)) : Nat → Int32 → Int32 → Int32 → Int32 → Int32 → Int32 → eMem → Option (Int32 × eMem)
  | 0, _, _, _, _, _, _, _ => none
  | n + 1, v1, v2, v3, v4, v5, v6, M =>
    if v6 < v5 then
      eG (eIn (((20 * v1) + v2) + v6) 80) <|
      eG (eIn v6 20) <|
      F_X10_copy_116 K150 n v1 v2 v3 v4 v5 (v6 + 1) (eI M 15 v6.toNatClampNeg (M.1 6 (((20 * v1) + v2) + v6).toNatClampNeg))
    else
      K150 v3 v4 v5 M
set_option maxRecDepth 100000 in
set_option maxHeartbeats 4000000 in
theorem ev_X10_copy_116 (K150 : Int32 → Int32 → Int32 → eMem → Option (Int32 × eMem)) (q : (Int32 × eMem)) (hK150 : ∀ (v3 : Int32) (v4 : Int32) (v5 : Int32) (M : eMem), K150 v3 v4 v5 M = some q → Ev layR 2 m_X10_copy 150 [some (.ref 0), none, none, some (.int v3), some (.int v4), some (.int v5), none] [] M (some (.int q.1), q.2)) : ∀ (fuel : Nat) (v1 : Int32) (v2 : Int32) (v3 : Int32) (v4 : Int32) (v5 : Int32) (v6 : Int32) (M : eMem), F_X10_copy_116 K150 fuel v1 v2 v3 v4 v5 v6 M = some q → Ev layR 2 m_X10_copy 116 [some (.ref 0), some (.int v1), some (.int v2), some (.int v3), some (.int v4), some (.int v5), some (.int v6)] [] M (some (.int q.1), q.2) := by
  intro fuel
  induction fuel with
  | zero => intro v1 v2 v3 v4 v5 v6 M h; rw [F_X10_copy_116] at h; cases h
  | succ n ih =>
    intro v1 v2 v3 v4 v5 v6 M h
    rw [F_X10_copy_116] at h
    refine Ev.iload (pc := 116) dX10_copy_116 rfl ?_
    refine Ev.iload (pc := 118) dX10_copy_118 rfl ?_
    refine Ev.icmp_ge (pc := 120) (tgt := 150) dX10_copy_120 (by decide) (fun c9 => ?_) (fun c9 => ?_)
    · have h := eF h c9
      exact Ev.fg (hK150 _ _ _ _ h) (And.intro rfl (And.intro rfl (And.intro rfl (And.intro rfl trivial))))
    · have h := eT h c9
      refine Ev.aload_n (pc := 123) dX10_copy_123 rfl ?_
      refine Ev.getR (pc := 124) dX10_copy_124 fl_RX10_54 lR_0 rfl ?_
      refine Ev.iload (pc := 127) dX10_copy_127 rfl ?_
      refine Ev.aload_n (pc := 129) dX10_copy_129 rfl ?_
      refine Ev.getR (pc := 130) dX10_copy_130 fl_RX10_26 lR_0 rfl ?_
      refine Ev.bipush (pc := 133) dX10_copy_133 (v := 20) (by decide) ?_
      refine Ev.iload_n (pc := 135) dX10_copy_135 rfl ?_
      refine Ev.imul (pc := 136) dX10_copy_136 ?_
      refine Ev.iload_n (pc := 137) dX10_copy_137 rfl ?_
      refine Ev.iadd (pc := 138) dX10_copy_138 ?_
      refine Ev.iload (pc := 139) dX10_copy_139 rfl ?_
      refine Ev.iadd (pc := 141) dX10_copy_141 ?_
      obtain ⟨g9, h⟩ := eGdB h
      refine Ev.ialdj (pc := 142) dX10_copy_142 (j := (((20 * v1) + v2) + v6).toNatClampNeg) lR_6 g9 rfl ?_
      obtain ⟨g9, h⟩ := eGdB h
      refine Ev.iastj (pc := 143) dX10_copy_143 (j := v6.toNatClampNeg) lR_15 g9 rfl ?_
      refine Ev.iincv (pc := 144) dX10_copy_144 (v := 1) (by decide) rfl (by decide) rfl rfl ?_
      refine Ev.goto (pc := 147) (tgt := 116) dX10_copy_147 (by decide) ?_
      exact Ev.fg (ih _ _ _ _ _ _ _ h) (And.intro rfl (And.intro rfl (And.intro rfl (And.intro rfl (And.intro rfl (And.intro rfl (And.intro rfl trivial)))))))
def F_X10_copy_153  : Nat → Int32 → Int32 → Int32 → Int32 → eMem → Option (Int32 × eMem)
  | 0, _, _, _, _, _ => none
  | n + 1, v3, v4, v5, v6, M =>
    if v6 < v5 then
      eG (eIn v6 20) <|
      eG (eIn (((20 * v3) + v4) + v6) 80) <|
      F_X10_copy_153 n v3 v4 v5 (v6 + 1) (eI M 6 (((20 * v3) + v4) + v6).toNatClampNeg (M.1 15 v6.toNatClampNeg))
    else
      some (v5, M)
set_option maxRecDepth 100000 in
set_option maxHeartbeats 4000000 in
theorem ev_X10_copy_153  (q : (Int32 × eMem))  : ∀ (fuel : Nat) (v3 : Int32) (v4 : Int32) (v5 : Int32) (v6 : Int32) (M : eMem), F_X10_copy_153 fuel v3 v4 v5 v6 M = some q → Ev layR 2 m_X10_copy 153 [some (.ref 0), none, none, some (.int v3), some (.int v4), some (.int v5), some (.int v6)] [] M (some (.int q.1), q.2) := by
  intro fuel
  induction fuel with
  | zero => intro v3 v4 v5 v6 M h; rw [F_X10_copy_153] at h; cases h
  | succ n ih =>
    intro v3 v4 v5 v6 M h
    rw [F_X10_copy_153] at h
    refine Ev.iload (pc := 153) dX10_copy_153 rfl ?_
    refine Ev.iload (pc := 155) dX10_copy_155 rfl ?_
    refine Ev.icmp_ge (pc := 157) (tgt := 188) dX10_copy_157 (by decide) (fun c9 => ?_) (fun c9 => ?_)
    · have h := eF h c9
      refine Ev.iload (pc := 188) dX10_copy_188 rfl ?_
      obtain rfl := Option.some.inj h
      exact Ev.iret (pc := 190) dX10_copy_190 rfl rfl
    · have h := eT h c9
      refine Ev.aload_n (pc := 160) dX10_copy_160 rfl ?_
      refine Ev.getR (pc := 161) dX10_copy_161 fl_RX10_26 lR_0 rfl ?_
      refine Ev.bipush (pc := 164) dX10_copy_164 (v := 20) (by decide) ?_
      refine Ev.iload_n (pc := 166) dX10_copy_166 rfl ?_
      refine Ev.imul (pc := 167) dX10_copy_167 ?_
      refine Ev.iload (pc := 168) dX10_copy_168 rfl ?_
      refine Ev.iadd (pc := 170) dX10_copy_170 ?_
      refine Ev.iload (pc := 171) dX10_copy_171 rfl ?_
      refine Ev.iadd (pc := 173) dX10_copy_173 ?_
      refine Ev.aload_n (pc := 174) dX10_copy_174 rfl ?_
      refine Ev.getR (pc := 175) dX10_copy_175 fl_RX10_54 lR_0 rfl ?_
      refine Ev.iload (pc := 178) dX10_copy_178 rfl ?_
      obtain ⟨g9, h⟩ := eGdB h
      refine Ev.ialdj (pc := 180) dX10_copy_180 (j := v6.toNatClampNeg) lR_15 g9 rfl ?_
      obtain ⟨g9, h⟩ := eGdB h
      refine Ev.iastj (pc := 181) dX10_copy_181 (j := (((20 * v3) + v4) + v6).toNatClampNeg) lR_6 g9 rfl ?_
      refine Ev.iincv (pc := 182) dX10_copy_182 (v := 1) (by decide) rfl (by decide) rfl rfl ?_
      refine Ev.goto (pc := 185) (tgt := 153) dX10_copy_185 (by decide) ?_
      exact Ev.fg (ih _ _ _ _ _ h) (And.intro rfl (And.intro rfl (And.intro rfl (And.intro rfl (And.intro rfl trivial)))))
def F_X10_copy (x1 : Int32) (x2 : Int32) (x3 : Int32) (x4 : Int32) (x5 : Int32) (M : eMem) : Option (Int32 × eMem) :=
  (F_X10_isSheet x1).bind fun q1 =>
  if q1 = 0 then
    (F_X10_finding 1 M).bind fun q2 =>
    some (q2.1, q2.2)
  else
    (F_X10_isSheet x3).bind fun q3 =>
    if q3 = 0 then
      (F_X10_finding 1 M).bind fun q12 =>
      some (q12.1, q12.2)
    else
      eG (eIn x1 4) <|
      if (M.1 4 x1.toNatClampNeg) = 0 then
        (F_X10_finding 6 M).bind fun q4 =>
        some (q4.1, q4.2)
      else
        eG (eIn x3 4) <|
        if (M.1 4 x3.toNatClampNeg) = 0 then
          (F_X10_finding 6 M).bind fun q11 =>
          some (q11.1, q11.2)
        else
          eG (eIn x1 4) <|
          eG (eIn x3 4) <|
          if (M.1 4 x1.toNatClampNeg) = (M.1 4 x3.toNatClampNeg) then
            if x5 < 0 then
              (F_X10_finding 1 M).bind fun q5 =>
              some (q5.1, q5.2)
            else
              if x2 < 0 then
                (F_X10_finding 1 M).bind fun q6 =>
                some (q6.1, q6.2)
              else
                if x4 < 0 then
                  (F_X10_finding 1 M).bind fun q7 =>
                  some (q7.1, q7.2)
                else
                  eG (eIn x1 4) <|
                  if ((M.1 5 x1.toNatClampNeg) - x5) < x2 then
                    (F_X10_finding 1 M).bind fun q8 =>
                    some (q8.1, q8.2)
                  else
                    eG (eIn x3 4) <|
                    if ((M.1 5 x3.toNatClampNeg) - x5) < x4 then
                      (F_X10_finding 1 M).bind fun q9 =>
                      some (q9.1, q9.2)
                    else
                      F_X10_copy_116
                        (fun v3 v4 v5 M =>
                          F_X10_copy_153 eFuel v3 v4 v5 0 M)
                        eFuel x1 x2 x3 x4 x5 0 M
          else
            (F_X10_finding 3 M).bind fun q10 =>
            some (q10.1, q10.2)
set_option maxRecDepth 100000 in
set_option maxHeartbeats 4000000 in
theorem ev_X10_copy (x1 : Int32) (x2 : Int32) (x3 : Int32) (x4 : Int32) (x5 : Int32) (M : eMem) (q : (Int32 × eMem)) (h : F_X10_copy x1 x2 x3 x4 x5 M = some q) : Ev layR 2 m_X10_copy 0 [some (.ref 0), some (.int x1), some (.int x2), some (.int x3), some (.int x4), some (.int x5), none] [] M (some (.int q.1), q.2) := by
  rw [F_X10_copy] at h
  refine Ev.iload_n (pc := 0) dX10_copy_0 rfl ?_
  refine eBk h (fun q1 hq1 h => ?_)
  refine Ev.callS (pc := 1) (as := [.int x1]) (st := []) (z := 0) dX10_copy_1 wc_X10_isSheet ml_RX10_134 sm_X10_isSheet (ev_X10_isSheet x1 M _ hq1) rfl rfl (by decide) rfl rfl (Nat.le_of_ble_eq_true rfl) ?_
  refine Ev.if_eq (pc := 4) (tgt := 14) dX10_copy_4 (by decide) (fun c9 => ?_) (fun c9 => ?_)
  · have h := eT h c9
    refine Ev.aload_n (pc := 14) dX10_copy_14 rfl ?_
    refine Ev.iconst (pc := 15) dX10_copy_15 (v := 1) (by decide) ?_
    refine eBk h (fun q2 hq2 h => ?_)
    refine Ev.callV (pc := 16) (as := [.int 1]) (st := []) (z := 0) dX10_copy_16 wc_X10_finding ml_RX10_66 im_X10_finding se_X10_finding lR_0 rfl rfl (ev_X10_finding 1 M _ hq2) rfl rfl (by decide) rfl rfl (Nat.le_of_ble_eq_true rfl) ?_
    obtain rfl := Option.some.inj h
    exact Ev.iret (pc := 19) dX10_copy_19 rfl rfl
  · have h := eF h c9
    refine Ev.iload_n (pc := 7) dX10_copy_7 rfl ?_
    refine eBk h (fun q3 hq3 h => ?_)
    refine Ev.callS (pc := 8) (as := [.int x3]) (st := []) (z := 0) dX10_copy_8 wc_X10_isSheet ml_RX10_134 sm_X10_isSheet (ev_X10_isSheet x3 M _ hq3) rfl rfl (by decide) rfl rfl (Nat.le_of_ble_eq_true rfl) ?_
    refine Ev.if_ne (pc := 11) (tgt := 20) dX10_copy_11 (by decide) (fun c9 => ?_) (fun c9 => ?_)
    · have h := eF h c9
      refine Ev.aload_n (pc := 20) dX10_copy_20 rfl ?_
      refine Ev.getR (pc := 21) dX10_copy_21 fl_RX10_20 lR_0 rfl ?_
      refine Ev.iload_n (pc := 24) dX10_copy_24 rfl ?_
      obtain ⟨g9, h⟩ := eGdB h
      refine Ev.ialdj (pc := 25) dX10_copy_25 (j := x1.toNatClampNeg) lR_4 g9 rfl ?_
      refine Ev.if_eq (pc := 26) (tgt := 38) dX10_copy_26 (by decide) (fun c9 => ?_) (fun c9 => ?_)
      · have h := eT h c9
        refine Ev.aload_n (pc := 38) dX10_copy_38 rfl ?_
        refine Ev.bipush (pc := 39) dX10_copy_39 (v := 6) (by decide) ?_
        refine eBk h (fun q4 hq4 h => ?_)
        refine Ev.callV (pc := 41) (as := [.int 6]) (st := []) (z := 0) dX10_copy_41 wc_X10_finding ml_RX10_66 im_X10_finding se_X10_finding lR_0 rfl rfl (ev_X10_finding 6 M _ hq4) rfl rfl (by decide) rfl rfl (Nat.le_of_ble_eq_true rfl) ?_
        obtain rfl := Option.some.inj h
        exact Ev.iret (pc := 44) dX10_copy_44 rfl rfl
      · have h := eF h c9
        refine Ev.aload_n (pc := 29) dX10_copy_29 rfl ?_
        refine Ev.getR (pc := 30) dX10_copy_30 fl_RX10_20 lR_0 rfl ?_
        refine Ev.iload_n (pc := 33) dX10_copy_33 rfl ?_
        obtain ⟨g9, h⟩ := eGdB h
        refine Ev.ialdj (pc := 34) dX10_copy_34 (j := x3.toNatClampNeg) lR_4 g9 rfl ?_
        refine Ev.if_ne (pc := 35) (tgt := 45) dX10_copy_35 (by decide) (fun c9 => ?_) (fun c9 => ?_)
        · have h := eF h c9
          refine Ev.aload_n (pc := 45) dX10_copy_45 rfl ?_
          refine Ev.getR (pc := 46) dX10_copy_46 fl_RX10_20 lR_0 rfl ?_
          refine Ev.iload_n (pc := 49) dX10_copy_49 rfl ?_
          obtain ⟨g9, h⟩ := eGdB h
          refine Ev.ialdj (pc := 50) dX10_copy_50 (j := x1.toNatClampNeg) lR_4 g9 rfl ?_
          refine Ev.aload_n (pc := 51) dX10_copy_51 rfl ?_
          refine Ev.getR (pc := 52) dX10_copy_52 fl_RX10_20 lR_0 rfl ?_
          refine Ev.iload_n (pc := 55) dX10_copy_55 rfl ?_
          obtain ⟨g9, h⟩ := eGdB h
          refine Ev.ialdj (pc := 56) dX10_copy_56 (j := x3.toNatClampNeg) lR_4 g9 rfl ?_
          refine Ev.icmp_eq (pc := 57) (tgt := 66) dX10_copy_57 (by decide) (fun c9 => ?_) (fun c9 => ?_)
          · have h := eT h c9
            refine Ev.iload (pc := 66) dX10_copy_66 rfl ?_
            refine Ev.if_lt (pc := 68) (tgt := 107) dX10_copy_68 (by decide) (fun c9 => ?_) (fun c9 => ?_)
            · have h := eT h c9
              refine Ev.aload_n (pc := 107) dX10_copy_107 rfl ?_
              refine Ev.iconst (pc := 108) dX10_copy_108 (v := 1) (by decide) ?_
              refine eBk h (fun q5 hq5 h => ?_)
              refine Ev.callV (pc := 109) (as := [.int 1]) (st := []) (z := 0) dX10_copy_109 wc_X10_finding ml_RX10_66 im_X10_finding se_X10_finding lR_0 rfl rfl (ev_X10_finding 1 M _ hq5) rfl rfl (by decide) rfl rfl (Nat.le_of_ble_eq_true rfl) ?_
              obtain rfl := Option.some.inj h
              exact Ev.iret (pc := 112) dX10_copy_112 rfl rfl
            · have h := eF h c9
              refine Ev.iload_n (pc := 71) dX10_copy_71 rfl ?_
              refine Ev.if_lt (pc := 72) (tgt := 107) dX10_copy_72 (by decide) (fun c9 => ?_) (fun c9 => ?_)
              · have h := eT h c9
                refine Ev.aload_n (pc := 107) dX10_copy_107 rfl ?_
                refine Ev.iconst (pc := 108) dX10_copy_108 (v := 1) (by decide) ?_
                refine eBk h (fun q6 hq6 h => ?_)
                refine Ev.callV (pc := 109) (as := [.int 1]) (st := []) (z := 0) dX10_copy_109 wc_X10_finding ml_RX10_66 im_X10_finding se_X10_finding lR_0 rfl rfl (ev_X10_finding 1 M _ hq6) rfl rfl (by decide) rfl rfl (Nat.le_of_ble_eq_true rfl) ?_
                obtain rfl := Option.some.inj h
                exact Ev.iret (pc := 112) dX10_copy_112 rfl rfl
              · have h := eF h c9
                refine Ev.iload (pc := 75) dX10_copy_75 rfl ?_
                refine Ev.if_lt (pc := 77) (tgt := 107) dX10_copy_77 (by decide) (fun c9 => ?_) (fun c9 => ?_)
                · have h := eT h c9
                  refine Ev.aload_n (pc := 107) dX10_copy_107 rfl ?_
                  refine Ev.iconst (pc := 108) dX10_copy_108 (v := 1) (by decide) ?_
                  refine eBk h (fun q7 hq7 h => ?_)
                  refine Ev.callV (pc := 109) (as := [.int 1]) (st := []) (z := 0) dX10_copy_109 wc_X10_finding ml_RX10_66 im_X10_finding se_X10_finding lR_0 rfl rfl (ev_X10_finding 1 M _ hq7) rfl rfl (by decide) rfl rfl (Nat.le_of_ble_eq_true rfl) ?_
                  obtain rfl := Option.some.inj h
                  exact Ev.iret (pc := 112) dX10_copy_112 rfl rfl
                · have h := eF h c9
                  refine Ev.iload_n (pc := 80) dX10_copy_80 rfl ?_
                  refine Ev.aload_n (pc := 81) dX10_copy_81 rfl ?_
                  refine Ev.getR (pc := 82) dX10_copy_82 fl_RX10_23 lR_0 rfl ?_
                  refine Ev.iload_n (pc := 85) dX10_copy_85 rfl ?_
                  obtain ⟨g9, h⟩ := eGdB h
                  refine Ev.ialdj (pc := 86) dX10_copy_86 (j := x1.toNatClampNeg) lR_5 g9 rfl ?_
                  refine Ev.iload (pc := 87) dX10_copy_87 rfl ?_
                  refine Ev.isub (pc := 89) dX10_copy_89 ?_
                  refine Ev.icmp_gt (pc := 90) (tgt := 107) dX10_copy_90 (by decide) (fun c9 => ?_) (fun c9 => ?_)
                  · have h := eT h c9
                    refine Ev.aload_n (pc := 107) dX10_copy_107 rfl ?_
                    refine Ev.iconst (pc := 108) dX10_copy_108 (v := 1) (by decide) ?_
                    refine eBk h (fun q8 hq8 h => ?_)
                    refine Ev.callV (pc := 109) (as := [.int 1]) (st := []) (z := 0) dX10_copy_109 wc_X10_finding ml_RX10_66 im_X10_finding se_X10_finding lR_0 rfl rfl (ev_X10_finding 1 M _ hq8) rfl rfl (by decide) rfl rfl (Nat.le_of_ble_eq_true rfl) ?_
                    obtain rfl := Option.some.inj h
                    exact Ev.iret (pc := 112) dX10_copy_112 rfl rfl
                  · have h := eF h c9
                    refine Ev.iload (pc := 93) dX10_copy_93 rfl ?_
                    refine Ev.aload_n (pc := 95) dX10_copy_95 rfl ?_
                    refine Ev.getR (pc := 96) dX10_copy_96 fl_RX10_23 lR_0 rfl ?_
                    refine Ev.iload_n (pc := 99) dX10_copy_99 rfl ?_
                    obtain ⟨g9, h⟩ := eGdB h
                    refine Ev.ialdj (pc := 100) dX10_copy_100 (j := x3.toNatClampNeg) lR_5 g9 rfl ?_
                    refine Ev.iload (pc := 101) dX10_copy_101 rfl ?_
                    refine Ev.isub (pc := 103) dX10_copy_103 ?_
                    refine Ev.icmp_le (pc := 104) (tgt := 113) dX10_copy_104 (by decide) (fun c9 => ?_) (fun c9 => ?_)
                    · have h := eF h c9
                      refine Ev.iconst (pc := 113) dX10_copy_113 (v := 0) (by decide) ?_
                      refine Ev.istore (pc := 114) dX10_copy_114 (by decide) rfl rfl ?_
                      refine Ev.fg (ev_X10_copy_116 _ _ ?_ _ _ _ _ _ _ _ _ h) (And.intro rfl (And.intro rfl (And.intro rfl (And.intro rfl (And.intro rfl (And.intro rfl (And.intro rfl trivial)))))))
                      · intro v3 v4 v5 M h
                        refine Ev.iconst (pc := 150) dX10_copy_150 (v := 0) (by decide) ?_
                        refine Ev.istore (pc := 151) dX10_copy_151 (by decide) rfl rfl ?_
                        exact Ev.fg (ev_X10_copy_153 _ _ _ _ _ _ _ h) (And.intro rfl (And.intro rfl (And.intro rfl (And.intro rfl (And.intro rfl trivial)))))
                    · have h := eT h c9
                      refine Ev.aload_n (pc := 107) dX10_copy_107 rfl ?_
                      refine Ev.iconst (pc := 108) dX10_copy_108 (v := 1) (by decide) ?_
                      refine eBk h (fun q9 hq9 h => ?_)
                      refine Ev.callV (pc := 109) (as := [.int 1]) (st := []) (z := 0) dX10_copy_109 wc_X10_finding ml_RX10_66 im_X10_finding se_X10_finding lR_0 rfl rfl (ev_X10_finding 1 M _ hq9) rfl rfl (by decide) rfl rfl (Nat.le_of_ble_eq_true rfl) ?_
                      obtain rfl := Option.some.inj h
                      exact Ev.iret (pc := 112) dX10_copy_112 rfl rfl
          · have h := eF h c9
            refine Ev.aload_n (pc := 60) dX10_copy_60 rfl ?_
            refine Ev.iconst (pc := 61) dX10_copy_61 (v := 3) (by decide) ?_
            refine eBk h (fun q10 hq10 h => ?_)
            refine Ev.callV (pc := 62) (as := [.int 3]) (st := []) (z := 0) dX10_copy_62 wc_X10_finding ml_RX10_66 im_X10_finding se_X10_finding lR_0 rfl rfl (ev_X10_finding 3 M _ hq10) rfl rfl (by decide) rfl rfl (Nat.le_of_ble_eq_true rfl) ?_
            obtain rfl := Option.some.inj h
            exact Ev.iret (pc := 65) dX10_copy_65 rfl rfl
        · have h := eT h c9
          refine Ev.aload_n (pc := 38) dX10_copy_38 rfl ?_
          refine Ev.bipush (pc := 39) dX10_copy_39 (v := 6) (by decide) ?_
          refine eBk h (fun q11 hq11 h => ?_)
          refine Ev.callV (pc := 41) (as := [.int 6]) (st := []) (z := 0) dX10_copy_41 wc_X10_finding ml_RX10_66 im_X10_finding se_X10_finding lR_0 rfl rfl (ev_X10_finding 6 M _ hq11) rfl rfl (by decide) rfl rfl (Nat.le_of_ble_eq_true rfl) ?_
          obtain rfl := Option.some.inj h
          exact Ev.iret (pc := 44) dX10_copy_44 rfl rfl
    · have h := eT h c9
      refine Ev.aload_n (pc := 14) dX10_copy_14 rfl ?_
      refine Ev.iconst (pc := 15) dX10_copy_15 (v := 1) (by decide) ?_
      refine eBk h (fun q12 hq12 h => ?_)
      refine Ev.callV (pc := 16) (as := [.int 1]) (st := []) (z := 0) dX10_copy_16 wc_X10_finding ml_RX10_66 im_X10_finding se_X10_finding lR_0 rfl rfl (ev_X10_finding 1 M _ hq12) rfl rfl (by decide) rfl rfl (Nat.le_of_ble_eq_true rfl) ?_
      obtain rfl := Option.some.inj h
      exact Ev.iret (pc := 19) dX10_copy_19 rfl rfl
theorem dX0_become_0 : decode cX0_become 0 = .ok (.aload_n 1, 1) := by decide +kernel
theorem dX0_become_1 : decode cX0_become 1 = .ok (.getfield 9, 3) := by decide +kernel
theorem dX0_become_4 : decode cX0_become 4 = .ok (.iconst 0, 1) := by decide +kernel
theorem dX0_become_5 : decode cX0_become 5 = .ok (.aload_n 0, 1) := by decide +kernel
theorem dX0_become_6 : decode cX0_become 6 = .ok (.getfield 9, 3) := by decide +kernel
theorem dX0_become_9 : decode cX0_become 9 = .ok (.iconst 0, 1) := by decide +kernel
theorem dX0_become_10 : decode cX0_become 10 = .ok (.bipush 96, 2) := by decide +kernel
theorem dX0_become_12 : decode cX0_become 12 = .ok (.invokestatic 50, 3) := by decide +kernel
theorem dX0_become_15 : decode cX0_become 15 = .ok (.aload_n 1, 1) := by decide +kernel
theorem dX0_become_16 : decode cX0_become 16 = .ok (.getfield 15, 3) := by decide +kernel
theorem dX0_become_19 : decode cX0_become 19 = .ok (.iconst 0, 1) := by decide +kernel
theorem dX0_become_20 : decode cX0_become 20 = .ok (.aload_n 0, 1) := by decide +kernel
theorem dX0_become_21 : decode cX0_become 21 = .ok (.getfield 15, 3) := by decide +kernel
theorem dX0_become_24 : decode cX0_become 24 = .ok (.iconst 0, 1) := by decide +kernel
theorem dX0_become_25 : decode cX0_become 25 = .ok (.bipush 40, 2) := by decide +kernel
theorem dX0_become_27 : decode cX0_become 27 = .ok (.invokestatic 50, 3) := by decide +kernel
theorem dX0_become_30 : decode cX0_become 30 = .ok (.aload_n 1, 1) := by decide +kernel
theorem dX0_become_31 : decode cX0_become 31 = .ok (.getfield 18, 3) := by decide +kernel
theorem dX0_become_34 : decode cX0_become 34 = .ok (.iconst 0, 1) := by decide +kernel
theorem dX0_become_35 : decode cX0_become 35 = .ok (.aload_n 0, 1) := by decide +kernel
theorem dX0_become_36 : decode cX0_become 36 = .ok (.getfield 18, 3) := by decide +kernel
theorem dX0_become_39 : decode cX0_become 39 = .ok (.iconst 0, 1) := by decide +kernel
theorem dX0_become_40 : decode cX0_become 40 = .ok (.bipush 40, 2) := by decide +kernel
theorem dX0_become_42 : decode cX0_become 42 = .ok (.invokestatic 50, 3) := by decide +kernel
theorem dX0_become_45 : decode cX0_become 45 = .ok (.aload_n 1, 1) := by decide +kernel
theorem dX0_become_46 : decode cX0_become 46 = .ok (.getfield 21, 3) := by decide +kernel
theorem dX0_become_49 : decode cX0_become 49 = .ok (.iconst 0, 1) := by decide +kernel
theorem dX0_become_50 : decode cX0_become 50 = .ok (.aload_n 0, 1) := by decide +kernel
theorem dX0_become_51 : decode cX0_become 51 = .ok (.getfield 21, 3) := by decide +kernel
theorem dX0_become_54 : decode cX0_become 54 = .ok (.iconst 0, 1) := by decide +kernel
theorem dX0_become_55 : decode cX0_become 55 = .ok (.bipush 40, 2) := by decide +kernel
theorem dX0_become_57 : decode cX0_become 57 = .ok (.invokestatic 50, 3) := by decide +kernel
theorem dX0_become_60 : decode cX0_become 60 = .ok (.aload_n 0, 1) := by decide +kernel
theorem dX0_become_61 : decode cX0_become 61 = .ok (.aload_n 1, 1) := by decide +kernel
theorem dX0_become_62 : decode cX0_become 62 = .ok (.getfield 39, 3) := by decide +kernel
theorem dX0_become_65 : decode cX0_become 65 = .ok (.putfield 39, 3) := by decide +kernel
theorem dX0_become_68 : decode cX0_become 68 = .ok (.aload_n 1, 1) := by decide +kernel
theorem dX0_become_69 : decode cX0_become 69 = .ok (.getfield 24, 3) := by decide +kernel
theorem dX0_become_72 : decode cX0_become 72 = .ok (.iconst 0, 1) := by decide +kernel
theorem dX0_become_73 : decode cX0_become 73 = .ok (.aload_n 0, 1) := by decide +kernel
theorem dX0_become_74 : decode cX0_become 74 = .ok (.getfield 24, 3) := by decide +kernel
theorem dX0_become_77 : decode cX0_become 77 = .ok (.iconst 0, 1) := by decide +kernel
theorem dX0_become_78 : decode cX0_become 78 = .ok (.bipush 12, 2) := by decide +kernel
theorem dX0_become_80 : decode cX0_become 80 = .ok (.invokestatic 50, 3) := by decide +kernel
theorem dX0_become_83 : decode cX0_become 83 = .ok (.aload_n 1, 1) := by decide +kernel
theorem dX0_become_84 : decode cX0_become 84 = .ok (.getfield 27, 3) := by decide +kernel
theorem dX0_become_87 : decode cX0_become 87 = .ok (.iconst 0, 1) := by decide +kernel
theorem dX0_become_88 : decode cX0_become 88 = .ok (.aload_n 0, 1) := by decide +kernel
theorem dX0_become_89 : decode cX0_become 89 = .ok (.getfield 27, 3) := by decide +kernel
theorem dX0_become_92 : decode cX0_become 92 = .ok (.iconst 0, 1) := by decide +kernel
theorem dX0_become_93 : decode cX0_become 93 = .ok (.bipush 12, 2) := by decide +kernel
theorem dX0_become_95 : decode cX0_become 95 = .ok (.invokestatic 50, 3) := by decide +kernel
theorem dX0_become_98 : decode cX0_become 98 = .ok (.aload_n 1, 1) := by decide +kernel
theorem dX0_become_99 : decode cX0_become 99 = .ok (.getfield 30, 3) := by decide +kernel
theorem dX0_become_102 : decode cX0_become 102 = .ok (.iconst 0, 1) := by decide +kernel
theorem dX0_become_103 : decode cX0_become 103 = .ok (.aload_n 0, 1) := by decide +kernel
theorem dX0_become_104 : decode cX0_become 104 = .ok (.getfield 30, 3) := by decide +kernel
theorem dX0_become_107 : decode cX0_become 107 = .ok (.iconst 0, 1) := by decide +kernel
theorem dX0_become_108 : decode cX0_become 108 = .ok (.bipush 12, 2) := by decide +kernel
theorem dX0_become_110 : decode cX0_become 110 = .ok (.invokestatic 50, 3) := by decide +kernel
theorem dX0_become_113 : decode cX0_become 113 = .ok (.aload_n 1, 1) := by decide +kernel
theorem dX0_become_114 : decode cX0_become 114 = .ok (.getfield 33, 3) := by decide +kernel
theorem dX0_become_117 : decode cX0_become 117 = .ok (.iconst 0, 1) := by decide +kernel
theorem dX0_become_118 : decode cX0_become 118 = .ok (.aload_n 0, 1) := by decide +kernel
theorem dX0_become_119 : decode cX0_become 119 = .ok (.getfield 33, 3) := by decide +kernel
theorem dX0_become_122 : decode cX0_become 122 = .ok (.iconst 0, 1) := by decide +kernel
theorem dX0_become_123 : decode cX0_become 123 = .ok (.bipush 12, 2) := by decide +kernel
theorem dX0_become_125 : decode cX0_become 125 = .ok (.invokestatic 50, 3) := by decide +kernel
theorem dX0_become_128 : decode cX0_become 128 = .ok (.aload_n 0, 1) := by decide +kernel
theorem dX0_become_129 : decode cX0_become 129 = .ok (.aload_n 1, 1) := by decide +kernel
theorem dX0_become_130 : decode cX0_become 130 = .ok (.getfield 47, 3) := by decide +kernel
theorem dX0_become_133 : decode cX0_become 133 = .ok (.putfield 47, 3) := by decide +kernel
theorem dX0_become_136 : decode cX0_become 136 = .ok (.aload_n 1, 1) := by decide +kernel
theorem dX0_become_137 : decode cX0_become 137 = .ok (.getfield 36, 3) := by decide +kernel
theorem dX0_become_140 : decode cX0_become 140 = .ok (.iconst 0, 1) := by decide +kernel
theorem dX0_become_141 : decode cX0_become 141 = .ok (.aload_n 0, 1) := by decide +kernel
theorem dX0_become_142 : decode cX0_become 142 = .ok (.getfield 36, 3) := by decide +kernel
theorem dX0_become_145 : decode cX0_become 145 = .ok (.iconst 0, 1) := by decide +kernel
theorem dX0_become_146 : decode cX0_become 146 = .ok (.iconst 4, 1) := by decide +kernel
theorem dX0_become_147 : decode cX0_become 147 = .ok (.invokestatic 50, 3) := by decide +kernel
theorem dX0_become_150 : decode cX0_become 150 = .ok (.aload_n 0, 1) := by decide +kernel
theorem dX0_become_151 : decode cX0_become 151 = .ok (.aload_n 1, 1) := by decide +kernel
theorem dX0_become_152 : decode cX0_become 152 = .ok (.getfield 56, 3) := by decide +kernel
theorem dX0_become_155 : decode cX0_become 155 = .ok (.putfield 56, 3) := by decide +kernel
theorem dX0_become_158 : decode cX0_become 158 = .ok (.aload_n 0, 1) := by decide +kernel
theorem dX0_become_159 : decode cX0_become 159 = .ok (.aload_n 1, 1) := by decide +kernel
theorem dX0_become_160 : decode cX0_become 160 = .ok (.getfield 59, 3) := by decide +kernel
theorem dX0_become_163 : decode cX0_become 163 = .ok (.putfield 59, 3) := by decide +kernel
theorem dX0_become_166 : decode cX0_become 166 = .ok (.aload_n 0, 1) := by decide +kernel
theorem dX0_become_167 : decode cX0_become 167 = .ok (.aload_n 1, 1) := by decide +kernel
theorem dX0_become_168 : decode cX0_become 168 = .ok (.getfield 62, 3) := by decide +kernel
theorem dX0_become_171 : decode cX0_become 171 = .ok (.putfield 62, 3) := by decide +kernel
theorem dX0_become_174 : decode cX0_become 174 = .ok (.aload_n 0, 1) := by decide +kernel
theorem dX0_become_175 : decode cX0_become 175 = .ok (.aload_n 1, 1) := by decide +kernel
theorem dX0_become_176 : decode cX0_become 176 = .ok (.getfield 65, 3) := by decide +kernel
theorem dX0_become_179 : decode cX0_become 179 = .ok (.putfield 65, 3) := by decide +kernel
theorem dX0_become_182 : decode cX0_become 182 = .ok (.aload_n 0, 1) := by decide +kernel
theorem dX0_become_183 : decode cX0_become 183 = .ok (.aload_n 1, 1) := by decide +kernel
theorem dX0_become_184 : decode cX0_become 184 = .ok (.getfield 68, 3) := by decide +kernel
theorem dX0_become_187 : decode cX0_become 187 = .ok (.putfield 68, 3) := by decide +kernel
theorem dX0_become_190 : decode cX0_become 190 = .ok (.return_, 1) := by decide +kernel
def F_X0_become  (M : eMem) : Option eMem :=
  some (eI (eI (eI (eI (eI (eCpy (eI (eCpy (eCpy (eCpy (eCpy (eI (eCpy (eCpy (eCpy (eCpy M 3 75 0 0 96) 4 76 0 0 40) 5 77 0 0 40) 6 78 0 0 40) 74 4 (M.1 2 4)) 7 79 0 0 12) 8 80 0 0 12) 9 81 0 0 12) 10 82 0 0 12) 74 9 (M.1 2 9)) 11 83 0 0 4) 74 11 (M.1 2 11)) 74 12 (M.1 2 12)) 74 13 (M.1 2 13)) 74 14 (M.1 2 14)) 74 15 (M.1 2 15))
set_option maxRecDepth 100000 in
set_option maxHeartbeats 4000000 in
theorem ev_X0_become  (M : eMem) (q : eMem) (h : F_X0_become  M = some q) : Ev layC 1 m_X0_become 0 [some (.ref 74), some (.ref 2)] [] M (none, q) := by
  rw [F_X0_become] at h
  refine Ev.aload_n (pc := 0) dX0_become_0 rfl ?_
  refine Ev.getR (pc := 1) dX0_become_1 fl_RX0_9 lC_2 rfl ?_
  refine Ev.iconst (pc := 4) dX0_become_4 (v := 0) (by decide) ?_
  refine Ev.aload_n (pc := 5) dX0_become_5 rfl ?_
  refine Ev.getR (pc := 6) dX0_become_6 fl_RX0_9 lC_74 rfl ?_
  refine Ev.iconst (pc := 9) dX0_become_9 (v := 0) (by decide) ?_
  refine Ev.bipush (pc := 10) dX0_become_10 (v := 96) (by decide) ?_
  refine Ev.copyIk (pc := 12) (sp2 := 0) (dp2 := 0) (n2 := 96) dX0_become_12 sy_RX0_50 lC_3 lC_75 (by decide) (by decide) (by decide) (by decide) (by decide) (by decide) (by decide) (by decide) (by decide) (Nat.le_of_ble_eq_true rfl) ?_
  refine Ev.aload_n (pc := 15) dX0_become_15 rfl ?_
  refine Ev.getR (pc := 16) dX0_become_16 fl_RX0_15 lC_2 rfl ?_
  refine Ev.iconst (pc := 19) dX0_become_19 (v := 0) (by decide) ?_
  refine Ev.aload_n (pc := 20) dX0_become_20 rfl ?_
  refine Ev.getR (pc := 21) dX0_become_21 fl_RX0_15 lC_74 rfl ?_
  refine Ev.iconst (pc := 24) dX0_become_24 (v := 0) (by decide) ?_
  refine Ev.bipush (pc := 25) dX0_become_25 (v := 40) (by decide) ?_
  refine Ev.copyIk (pc := 27) (sp2 := 0) (dp2 := 0) (n2 := 40) dX0_become_27 sy_RX0_50 lC_4 lC_76 (by decide) (by decide) (by decide) (by decide) (by decide) (by decide) (by decide) (by decide) (by decide) (Nat.le_of_ble_eq_true rfl) ?_
  refine Ev.aload_n (pc := 30) dX0_become_30 rfl ?_
  refine Ev.getR (pc := 31) dX0_become_31 fl_RX0_18 lC_2 rfl ?_
  refine Ev.iconst (pc := 34) dX0_become_34 (v := 0) (by decide) ?_
  refine Ev.aload_n (pc := 35) dX0_become_35 rfl ?_
  refine Ev.getR (pc := 36) dX0_become_36 fl_RX0_18 lC_74 rfl ?_
  refine Ev.iconst (pc := 39) dX0_become_39 (v := 0) (by decide) ?_
  refine Ev.bipush (pc := 40) dX0_become_40 (v := 40) (by decide) ?_
  refine Ev.copyIk (pc := 42) (sp2 := 0) (dp2 := 0) (n2 := 40) dX0_become_42 sy_RX0_50 lC_5 lC_77 (by decide) (by decide) (by decide) (by decide) (by decide) (by decide) (by decide) (by decide) (by decide) (Nat.le_of_ble_eq_true rfl) ?_
  refine Ev.aload_n (pc := 45) dX0_become_45 rfl ?_
  refine Ev.getR (pc := 46) dX0_become_46 fl_RX0_21 lC_2 rfl ?_
  refine Ev.iconst (pc := 49) dX0_become_49 (v := 0) (by decide) ?_
  refine Ev.aload_n (pc := 50) dX0_become_50 rfl ?_
  refine Ev.getR (pc := 51) dX0_become_51 fl_RX0_21 lC_74 rfl ?_
  refine Ev.iconst (pc := 54) dX0_become_54 (v := 0) (by decide) ?_
  refine Ev.bipush (pc := 55) dX0_become_55 (v := 40) (by decide) ?_
  refine Ev.copyIk (pc := 57) (sp2 := 0) (dp2 := 0) (n2 := 40) dX0_become_57 sy_RX0_50 lC_6 lC_78 (by decide) (by decide) (by decide) (by decide) (by decide) (by decide) (by decide) (by decide) (by decide) (Nat.le_of_ble_eq_true rfl) ?_
  refine Ev.aload_n (pc := 60) dX0_become_60 rfl ?_
  refine Ev.aload_n (pc := 61) dX0_become_61 rfl ?_
  refine Ev.getIv (pc := 62) dX0_become_62 (v := (M.1 2 4)) fl_RX0_39 lC_2 rfl ((eCpy_n (by decide)).trans ((eCpy_n (by decide)).trans ((eCpy_n (by decide)).trans (eCpy_n (by decide))))) ?_
  refine Ev.putI (pc := 65) dX0_become_65 fp_RX0_39 lC_74 rfl rfl rfl ?_
  refine Ev.aload_n (pc := 68) dX0_become_68 rfl ?_
  refine Ev.getR (pc := 69) dX0_become_69 fl_RX0_24 lC_2 rfl ?_
  refine Ev.iconst (pc := 72) dX0_become_72 (v := 0) (by decide) ?_
  refine Ev.aload_n (pc := 73) dX0_become_73 rfl ?_
  refine Ev.getR (pc := 74) dX0_become_74 fl_RX0_24 lC_74 rfl ?_
  refine Ev.iconst (pc := 77) dX0_become_77 (v := 0) (by decide) ?_
  refine Ev.bipush (pc := 78) dX0_become_78 (v := 12) (by decide) ?_
  refine Ev.copyIk (pc := 80) (sp2 := 0) (dp2 := 0) (n2 := 12) dX0_become_80 sy_RX0_50 lC_7 lC_79 (by decide) (by decide) (by decide) (by decide) (by decide) (by decide) (by decide) (by decide) (by decide) (Nat.le_of_ble_eq_true rfl) ?_
  refine Ev.aload_n (pc := 83) dX0_become_83 rfl ?_
  refine Ev.getR (pc := 84) dX0_become_84 fl_RX0_27 lC_2 rfl ?_
  refine Ev.iconst (pc := 87) dX0_become_87 (v := 0) (by decide) ?_
  refine Ev.aload_n (pc := 88) dX0_become_88 rfl ?_
  refine Ev.getR (pc := 89) dX0_become_89 fl_RX0_27 lC_74 rfl ?_
  refine Ev.iconst (pc := 92) dX0_become_92 (v := 0) (by decide) ?_
  refine Ev.bipush (pc := 93) dX0_become_93 (v := 12) (by decide) ?_
  refine Ev.copyIk (pc := 95) (sp2 := 0) (dp2 := 0) (n2 := 12) dX0_become_95 sy_RX0_50 lC_8 lC_80 (by decide) (by decide) (by decide) (by decide) (by decide) (by decide) (by decide) (by decide) (by decide) (Nat.le_of_ble_eq_true rfl) ?_
  refine Ev.aload_n (pc := 98) dX0_become_98 rfl ?_
  refine Ev.getR (pc := 99) dX0_become_99 fl_RX0_30 lC_2 rfl ?_
  refine Ev.iconst (pc := 102) dX0_become_102 (v := 0) (by decide) ?_
  refine Ev.aload_n (pc := 103) dX0_become_103 rfl ?_
  refine Ev.getR (pc := 104) dX0_become_104 fl_RX0_30 lC_74 rfl ?_
  refine Ev.iconst (pc := 107) dX0_become_107 (v := 0) (by decide) ?_
  refine Ev.bipush (pc := 108) dX0_become_108 (v := 12) (by decide) ?_
  refine Ev.copyIk (pc := 110) (sp2 := 0) (dp2 := 0) (n2 := 12) dX0_become_110 sy_RX0_50 lC_9 lC_81 (by decide) (by decide) (by decide) (by decide) (by decide) (by decide) (by decide) (by decide) (by decide) (Nat.le_of_ble_eq_true rfl) ?_
  refine Ev.aload_n (pc := 113) dX0_become_113 rfl ?_
  refine Ev.getR (pc := 114) dX0_become_114 fl_RX0_33 lC_2 rfl ?_
  refine Ev.iconst (pc := 117) dX0_become_117 (v := 0) (by decide) ?_
  refine Ev.aload_n (pc := 118) dX0_become_118 rfl ?_
  refine Ev.getR (pc := 119) dX0_become_119 fl_RX0_33 lC_74 rfl ?_
  refine Ev.iconst (pc := 122) dX0_become_122 (v := 0) (by decide) ?_
  refine Ev.bipush (pc := 123) dX0_become_123 (v := 12) (by decide) ?_
  refine Ev.copyIk (pc := 125) (sp2 := 0) (dp2 := 0) (n2 := 12) dX0_become_125 sy_RX0_50 lC_10 lC_82 (by decide) (by decide) (by decide) (by decide) (by decide) (by decide) (by decide) (by decide) (by decide) (Nat.le_of_ble_eq_true rfl) ?_
  refine Ev.aload_n (pc := 128) dX0_become_128 rfl ?_
  refine Ev.aload_n (pc := 129) dX0_become_129 rfl ?_
  refine Ev.getIv (pc := 130) dX0_become_130 (v := (M.1 2 9)) fl_RX0_47 lC_2 rfl ((eCpy_n (by decide)).trans ((eCpy_n (by decide)).trans ((eCpy_n (by decide)).trans ((eCpy_n (by decide)).trans ((eI_n (by decide)).trans ((eCpy_n (by decide)).trans ((eCpy_n (by decide)).trans ((eCpy_n (by decide)).trans (eCpy_n (by decide)))))))))) ?_
  refine Ev.putI (pc := 133) dX0_become_133 fp_RX0_47 lC_74 rfl rfl rfl ?_
  refine Ev.aload_n (pc := 136) dX0_become_136 rfl ?_
  refine Ev.getR (pc := 137) dX0_become_137 fl_RX0_36 lC_2 rfl ?_
  refine Ev.iconst (pc := 140) dX0_become_140 (v := 0) (by decide) ?_
  refine Ev.aload_n (pc := 141) dX0_become_141 rfl ?_
  refine Ev.getR (pc := 142) dX0_become_142 fl_RX0_36 lC_74 rfl ?_
  refine Ev.iconst (pc := 145) dX0_become_145 (v := 0) (by decide) ?_
  refine Ev.iconst (pc := 146) dX0_become_146 (v := 4) (by decide) ?_
  refine Ev.copyIk (pc := 147) (sp2 := 0) (dp2 := 0) (n2 := 4) dX0_become_147 sy_RX0_50 lC_11 lC_83 (by decide) (by decide) (by decide) (by decide) (by decide) (by decide) (by decide) (by decide) (by decide) (Nat.le_of_ble_eq_true rfl) ?_
  refine Ev.aload_n (pc := 150) dX0_become_150 rfl ?_
  refine Ev.aload_n (pc := 151) dX0_become_151 rfl ?_
  refine Ev.getIv (pc := 152) dX0_become_152 (v := (M.1 2 11)) fl_RX0_56 lC_2 rfl ((eCpy_n (by decide)).trans ((eI_n (by decide)).trans ((eCpy_n (by decide)).trans ((eCpy_n (by decide)).trans ((eCpy_n (by decide)).trans ((eCpy_n (by decide)).trans ((eI_n (by decide)).trans ((eCpy_n (by decide)).trans ((eCpy_n (by decide)).trans ((eCpy_n (by decide)).trans (eCpy_n (by decide)))))))))))) ?_
  refine Ev.putI (pc := 155) dX0_become_155 fp_RX0_56 lC_74 rfl rfl rfl ?_
  refine Ev.aload_n (pc := 158) dX0_become_158 rfl ?_
  refine Ev.aload_n (pc := 159) dX0_become_159 rfl ?_
  refine Ev.getIv (pc := 160) dX0_become_160 (v := (M.1 2 12)) fl_RX0_59 lC_2 rfl ((eI_n (by decide)).trans ((eCpy_n (by decide)).trans ((eI_n (by decide)).trans ((eCpy_n (by decide)).trans ((eCpy_n (by decide)).trans ((eCpy_n (by decide)).trans ((eCpy_n (by decide)).trans ((eI_n (by decide)).trans ((eCpy_n (by decide)).trans ((eCpy_n (by decide)).trans ((eCpy_n (by decide)).trans (eCpy_n (by decide))))))))))))) ?_
  refine Ev.putI (pc := 163) dX0_become_163 fp_RX0_59 lC_74 rfl rfl rfl ?_
  refine Ev.aload_n (pc := 166) dX0_become_166 rfl ?_
  refine Ev.aload_n (pc := 167) dX0_become_167 rfl ?_
  refine Ev.getIv (pc := 168) dX0_become_168 (v := (M.1 2 13)) fl_RX0_62 lC_2 rfl ((eI_n (by decide)).trans ((eI_n (by decide)).trans ((eCpy_n (by decide)).trans ((eI_n (by decide)).trans ((eCpy_n (by decide)).trans ((eCpy_n (by decide)).trans ((eCpy_n (by decide)).trans ((eCpy_n (by decide)).trans ((eI_n (by decide)).trans ((eCpy_n (by decide)).trans ((eCpy_n (by decide)).trans ((eCpy_n (by decide)).trans (eCpy_n (by decide)))))))))))))) ?_
  refine Ev.putI (pc := 171) dX0_become_171 fp_RX0_62 lC_74 rfl rfl rfl ?_
  refine Ev.aload_n (pc := 174) dX0_become_174 rfl ?_
  refine Ev.aload_n (pc := 175) dX0_become_175 rfl ?_
  refine Ev.getIv (pc := 176) dX0_become_176 (v := (M.1 2 14)) fl_RX0_65 lC_2 rfl ((eI_n (by decide)).trans ((eI_n (by decide)).trans ((eI_n (by decide)).trans ((eCpy_n (by decide)).trans ((eI_n (by decide)).trans ((eCpy_n (by decide)).trans ((eCpy_n (by decide)).trans ((eCpy_n (by decide)).trans ((eCpy_n (by decide)).trans ((eI_n (by decide)).trans ((eCpy_n (by decide)).trans ((eCpy_n (by decide)).trans ((eCpy_n (by decide)).trans (eCpy_n (by decide))))))))))))))) ?_
  refine Ev.putI (pc := 179) dX0_become_179 fp_RX0_65 lC_74 rfl rfl rfl ?_
  refine Ev.aload_n (pc := 182) dX0_become_182 rfl ?_
  refine Ev.aload_n (pc := 183) dX0_become_183 rfl ?_
  refine Ev.getIv (pc := 184) dX0_become_184 (v := (M.1 2 15)) fl_RX0_68 lC_2 rfl ((eI_n (by decide)).trans ((eI_n (by decide)).trans ((eI_n (by decide)).trans ((eI_n (by decide)).trans ((eCpy_n (by decide)).trans ((eI_n (by decide)).trans ((eCpy_n (by decide)).trans ((eCpy_n (by decide)).trans ((eCpy_n (by decide)).trans ((eCpy_n (by decide)).trans ((eI_n (by decide)).trans ((eCpy_n (by decide)).trans ((eCpy_n (by decide)).trans ((eCpy_n (by decide)).trans (eCpy_n (by decide)))))))))))))))) ?_
  refine Ev.putI (pc := 187) dX0_become_187 fp_RX0_68 lC_74 rfl rfl rfl ?_
  obtain rfl := Option.some.inj h
  exact Ev.vret (pc := 190) dX0_become_190 rfl
theorem dX5_become_0 : decode cX5_become 0 = .ok (.aload_n 1, 1) := by decide +kernel
theorem dX5_become_1 : decode cX5_become 1 = .ok (.getfield 9, 3) := by decide +kernel
theorem dX5_become_4 : decode cX5_become 4 = .ok (.iconst 0, 1) := by decide +kernel
theorem dX5_become_5 : decode cX5_become 5 = .ok (.aload_n 0, 1) := by decide +kernel
theorem dX5_become_6 : decode cX5_become 6 = .ok (.getfield 9, 3) := by decide +kernel
theorem dX5_become_9 : decode cX5_become 9 = .ok (.iconst 0, 1) := by decide +kernel
theorem dX5_become_10 : decode cX5_become 10 = .ok (.bipush 20, 2) := by decide +kernel
theorem dX5_become_12 : decode cX5_become 12 = .ok (.invokestatic 67, 3) := by decide +kernel
theorem dX5_become_15 : decode cX5_become 15 = .ok (.aload_n 1, 1) := by decide +kernel
theorem dX5_become_16 : decode cX5_become 16 = .ok (.getfield 15, 3) := by decide +kernel
theorem dX5_become_19 : decode cX5_become 19 = .ok (.iconst 0, 1) := by decide +kernel
theorem dX5_become_20 : decode cX5_become 20 = .ok (.aload_n 0, 1) := by decide +kernel
theorem dX5_become_21 : decode cX5_become 21 = .ok (.getfield 15, 3) := by decide +kernel
theorem dX5_become_24 : decode cX5_become 24 = .ok (.iconst 0, 1) := by decide +kernel
theorem dX5_become_25 : decode cX5_become 25 = .ok (.bipush 20, 2) := by decide +kernel
theorem dX5_become_27 : decode cX5_become 27 = .ok (.invokestatic 67, 3) := by decide +kernel
theorem dX5_become_30 : decode cX5_become 30 = .ok (.aload_n 1, 1) := by decide +kernel
theorem dX5_become_31 : decode cX5_become 31 = .ok (.getfield 18, 3) := by decide +kernel
theorem dX5_become_34 : decode cX5_become 34 = .ok (.iconst 0, 1) := by decide +kernel
theorem dX5_become_35 : decode cX5_become 35 = .ok (.aload_n 0, 1) := by decide +kernel
theorem dX5_become_36 : decode cX5_become 36 = .ok (.getfield 18, 3) := by decide +kernel
theorem dX5_become_39 : decode cX5_become 39 = .ok (.iconst 0, 1) := by decide +kernel
theorem dX5_become_40 : decode cX5_become 40 = .ok (.bipush 20, 2) := by decide +kernel
theorem dX5_become_42 : decode cX5_become 42 = .ok (.invokestatic 67, 3) := by decide +kernel
theorem dX5_become_45 : decode cX5_become 45 = .ok (.aload_n 1, 1) := by decide +kernel
theorem dX5_become_46 : decode cX5_become 46 = .ok (.getfield 21, 3) := by decide +kernel
theorem dX5_become_49 : decode cX5_become 49 = .ok (.iconst 0, 1) := by decide +kernel
theorem dX5_become_50 : decode cX5_become 50 = .ok (.aload_n 0, 1) := by decide +kernel
theorem dX5_become_51 : decode cX5_become 51 = .ok (.getfield 21, 3) := by decide +kernel
theorem dX5_become_54 : decode cX5_become 54 = .ok (.iconst 0, 1) := by decide +kernel
theorem dX5_become_55 : decode cX5_become 55 = .ok (.bipush 20, 2) := by decide +kernel
theorem dX5_become_57 : decode cX5_become 57 = .ok (.invokestatic 67, 3) := by decide +kernel
theorem dX5_become_60 : decode cX5_become 60 = .ok (.aload_n 1, 1) := by decide +kernel
theorem dX5_become_61 : decode cX5_become 61 = .ok (.getfield 24, 3) := by decide +kernel
theorem dX5_become_64 : decode cX5_become 64 = .ok (.iconst 0, 1) := by decide +kernel
theorem dX5_become_65 : decode cX5_become 65 = .ok (.aload_n 0, 1) := by decide +kernel
theorem dX5_become_66 : decode cX5_become 66 = .ok (.getfield 24, 3) := by decide +kernel
theorem dX5_become_69 : decode cX5_become 69 = .ok (.iconst 0, 1) := by decide +kernel
theorem dX5_become_70 : decode cX5_become 70 = .ok (.bipush 20, 2) := by decide +kernel
theorem dX5_become_72 : decode cX5_become 72 = .ok (.invokestatic 67, 3) := by decide +kernel
theorem dX5_become_75 : decode cX5_become 75 = .ok (.aload_n 1, 1) := by decide +kernel
theorem dX5_become_76 : decode cX5_become 76 = .ok (.getfield 27, 3) := by decide +kernel
theorem dX5_become_79 : decode cX5_become 79 = .ok (.iconst 0, 1) := by decide +kernel
theorem dX5_become_80 : decode cX5_become 80 = .ok (.aload_n 0, 1) := by decide +kernel
theorem dX5_become_81 : decode cX5_become 81 = .ok (.getfield 27, 3) := by decide +kernel
theorem dX5_become_84 : decode cX5_become 84 = .ok (.iconst 0, 1) := by decide +kernel
theorem dX5_become_85 : decode cX5_become 85 = .ok (.bipush 20, 2) := by decide +kernel
theorem dX5_become_87 : decode cX5_become 87 = .ok (.invokestatic 67, 3) := by decide +kernel
theorem dX5_become_90 : decode cX5_become 90 = .ok (.aload_n 1, 1) := by decide +kernel
theorem dX5_become_91 : decode cX5_become 91 = .ok (.getfield 31, 3) := by decide +kernel
theorem dX5_become_94 : decode cX5_become 94 = .ok (.iconst 0, 1) := by decide +kernel
theorem dX5_become_95 : decode cX5_become 95 = .ok (.aload_n 0, 1) := by decide +kernel
theorem dX5_become_96 : decode cX5_become 96 = .ok (.getfield 31, 3) := by decide +kernel
theorem dX5_become_99 : decode cX5_become 99 = .ok (.iconst 0, 1) := by decide +kernel
theorem dX5_become_100 : decode cX5_become 100 = .ok (.bipush 20, 2) := by decide +kernel
theorem dX5_become_102 : decode cX5_become 102 = .ok (.invokestatic 67, 3) := by decide +kernel
theorem dX5_become_105 : decode cX5_become 105 = .ok (.aload_n 1, 1) := by decide +kernel
theorem dX5_become_106 : decode cX5_become 106 = .ok (.getfield 34, 3) := by decide +kernel
theorem dX5_become_109 : decode cX5_become 109 = .ok (.iconst 0, 1) := by decide +kernel
theorem dX5_become_110 : decode cX5_become 110 = .ok (.aload_n 0, 1) := by decide +kernel
theorem dX5_become_111 : decode cX5_become 111 = .ok (.getfield 34, 3) := by decide +kernel
theorem dX5_become_114 : decode cX5_become 114 = .ok (.iconst 0, 1) := by decide +kernel
theorem dX5_become_115 : decode cX5_become 115 = .ok (.bipush 20, 2) := by decide +kernel
theorem dX5_become_117 : decode cX5_become 117 = .ok (.invokestatic 67, 3) := by decide +kernel
theorem dX5_become_120 : decode cX5_become 120 = .ok (.aload_n 1, 1) := by decide +kernel
theorem dX5_become_121 : decode cX5_become 121 = .ok (.getfield 37, 3) := by decide +kernel
theorem dX5_become_124 : decode cX5_become 124 = .ok (.iconst 0, 1) := by decide +kernel
theorem dX5_become_125 : decode cX5_become 125 = .ok (.aload_n 0, 1) := by decide +kernel
theorem dX5_become_126 : decode cX5_become 126 = .ok (.getfield 37, 3) := by decide +kernel
theorem dX5_become_129 : decode cX5_become 129 = .ok (.iconst 0, 1) := by decide +kernel
theorem dX5_become_130 : decode cX5_become 130 = .ok (.bipush 20, 2) := by decide +kernel
theorem dX5_become_132 : decode cX5_become 132 = .ok (.invokestatic 67, 3) := by decide +kernel
theorem dX5_become_135 : decode cX5_become 135 = .ok (.aload_n 1, 1) := by decide +kernel
theorem dX5_become_136 : decode cX5_become 136 = .ok (.getfield 40, 3) := by decide +kernel
theorem dX5_become_139 : decode cX5_become 139 = .ok (.iconst 0, 1) := by decide +kernel
theorem dX5_become_140 : decode cX5_become 140 = .ok (.aload_n 0, 1) := by decide +kernel
theorem dX5_become_141 : decode cX5_become 141 = .ok (.getfield 40, 3) := by decide +kernel
theorem dX5_become_144 : decode cX5_become 144 = .ok (.iconst 0, 1) := by decide +kernel
theorem dX5_become_145 : decode cX5_become 145 = .ok (.bipush 20, 2) := by decide +kernel
theorem dX5_become_147 : decode cX5_become 147 = .ok (.invokestatic 67, 3) := by decide +kernel
theorem dX5_become_150 : decode cX5_become 150 = .ok (.aload_n 0, 1) := by decide +kernel
theorem dX5_become_151 : decode cX5_become 151 = .ok (.aload_n 1, 1) := by decide +kernel
theorem dX5_become_152 : decode cX5_become 152 = .ok (.getfield 43, 3) := by decide +kernel
theorem dX5_become_155 : decode cX5_become 155 = .ok (.putfield 43, 3) := by decide +kernel
theorem dX5_become_158 : decode cX5_become 158 = .ok (.return_, 1) := by decide +kernel
def F_X5_become  (M : eMem) : Option eMem :=
  eG (eZ (eCpy (eCpy (eCpy (eCpy (eCpy M 13 85 0 0 20) 14 86 0 0 20) 15 87 0 0 20) 16 88 0 0 20) 17 89 0 0 20) 18 20) <|
  eG (eZ (eCpy (eCpy (eCpy (eCpy (eCpy (eCpy (eCpy M 13 85 0 0 20) 14 86 0 0 20) 15 87 0 0 20) 16 88 0 0 20) 17 89 0 0 20) 18 90 0 0 20) 19 91 0 0 20) 20 20) <|
  some (eI (eCpy (eCpy (eCpy (eCpy (eCpy (eCpy (eCpy (eCpy (eCpy (eCpy M 13 85 0 0 20) 14 86 0 0 20) 15 87 0 0 20) 16 88 0 0 20) 17 89 0 0 20) 18 90 0 0 20) 19 91 0 0 20) 20 92 0 0 20) 21 93 0 0 20) 22 94 0 0 20) 84 10 (M.1 12 10))
set_option maxRecDepth 100000 in
set_option maxHeartbeats 4000000 in
theorem ev_X5_become  (M : eMem) (q : eMem) (h : F_X5_become  M = some q) : Ev layC 1 m_X5_become 0 [some (.ref 84), some (.ref 12)] [] M (none, q) := by
  rw [F_X5_become] at h
  refine Ev.aload_n (pc := 0) dX5_become_0 rfl ?_
  refine Ev.getR (pc := 1) dX5_become_1 fl_RX5_9 lC_12 rfl ?_
  refine Ev.iconst (pc := 4) dX5_become_4 (v := 0) (by decide) ?_
  refine Ev.aload_n (pc := 5) dX5_become_5 rfl ?_
  refine Ev.getR (pc := 6) dX5_become_6 fl_RX5_9 lC_84 rfl ?_
  refine Ev.iconst (pc := 9) dX5_become_9 (v := 0) (by decide) ?_
  refine Ev.bipush (pc := 10) dX5_become_10 (v := 20) (by decide) ?_
  refine Ev.copyIk (pc := 12) (sp2 := 0) (dp2 := 0) (n2 := 20) dX5_become_12 sy_RX5_67 lC_13 lC_85 (by decide) (by decide) (by decide) (by decide) (by decide) (by decide) (by decide) (by decide) (by decide) (Nat.le_of_ble_eq_true rfl) ?_
  refine Ev.aload_n (pc := 15) dX5_become_15 rfl ?_
  refine Ev.getR (pc := 16) dX5_become_16 fl_RX5_15 lC_12 rfl ?_
  refine Ev.iconst (pc := 19) dX5_become_19 (v := 0) (by decide) ?_
  refine Ev.aload_n (pc := 20) dX5_become_20 rfl ?_
  refine Ev.getR (pc := 21) dX5_become_21 fl_RX5_15 lC_84 rfl ?_
  refine Ev.iconst (pc := 24) dX5_become_24 (v := 0) (by decide) ?_
  refine Ev.bipush (pc := 25) dX5_become_25 (v := 20) (by decide) ?_
  refine Ev.copyIk (pc := 27) (sp2 := 0) (dp2 := 0) (n2 := 20) dX5_become_27 sy_RX5_67 lC_14 lC_86 (by decide) (by decide) (by decide) (by decide) (by decide) (by decide) (by decide) (by decide) (by decide) (Nat.le_of_ble_eq_true rfl) ?_
  refine Ev.aload_n (pc := 30) dX5_become_30 rfl ?_
  refine Ev.getR (pc := 31) dX5_become_31 fl_RX5_18 lC_12 rfl ?_
  refine Ev.iconst (pc := 34) dX5_become_34 (v := 0) (by decide) ?_
  refine Ev.aload_n (pc := 35) dX5_become_35 rfl ?_
  refine Ev.getR (pc := 36) dX5_become_36 fl_RX5_18 lC_84 rfl ?_
  refine Ev.iconst (pc := 39) dX5_become_39 (v := 0) (by decide) ?_
  refine Ev.bipush (pc := 40) dX5_become_40 (v := 20) (by decide) ?_
  refine Ev.copyIk (pc := 42) (sp2 := 0) (dp2 := 0) (n2 := 20) dX5_become_42 sy_RX5_67 lC_15 lC_87 (by decide) (by decide) (by decide) (by decide) (by decide) (by decide) (by decide) (by decide) (by decide) (Nat.le_of_ble_eq_true rfl) ?_
  refine Ev.aload_n (pc := 45) dX5_become_45 rfl ?_
  refine Ev.getR (pc := 46) dX5_become_46 fl_RX5_21 lC_12 rfl ?_
  refine Ev.iconst (pc := 49) dX5_become_49 (v := 0) (by decide) ?_
  refine Ev.aload_n (pc := 50) dX5_become_50 rfl ?_
  refine Ev.getR (pc := 51) dX5_become_51 fl_RX5_21 lC_84 rfl ?_
  refine Ev.iconst (pc := 54) dX5_become_54 (v := 0) (by decide) ?_
  refine Ev.bipush (pc := 55) dX5_become_55 (v := 20) (by decide) ?_
  refine Ev.copyIk (pc := 57) (sp2 := 0) (dp2 := 0) (n2 := 20) dX5_become_57 sy_RX5_67 lC_16 lC_88 (by decide) (by decide) (by decide) (by decide) (by decide) (by decide) (by decide) (by decide) (by decide) (Nat.le_of_ble_eq_true rfl) ?_
  refine Ev.aload_n (pc := 60) dX5_become_60 rfl ?_
  refine Ev.getR (pc := 61) dX5_become_61 fl_RX5_24 lC_12 rfl ?_
  refine Ev.iconst (pc := 64) dX5_become_64 (v := 0) (by decide) ?_
  refine Ev.aload_n (pc := 65) dX5_become_65 rfl ?_
  refine Ev.getR (pc := 66) dX5_become_66 fl_RX5_24 lC_84 rfl ?_
  refine Ev.iconst (pc := 69) dX5_become_69 (v := 0) (by decide) ?_
  refine Ev.bipush (pc := 70) dX5_become_70 (v := 20) (by decide) ?_
  refine Ev.copyIk (pc := 72) (sp2 := 0) (dp2 := 0) (n2 := 20) dX5_become_72 sy_RX5_67 lC_17 lC_89 (by decide) (by decide) (by decide) (by decide) (by decide) (by decide) (by decide) (by decide) (by decide) (Nat.le_of_ble_eq_true rfl) ?_
  refine Ev.aload_n (pc := 75) dX5_become_75 rfl ?_
  refine Ev.getR (pc := 76) dX5_become_76 fl_RX5_27 lC_12 rfl ?_
  refine Ev.iconst (pc := 79) dX5_become_79 (v := 0) (by decide) ?_
  refine Ev.aload_n (pc := 80) dX5_become_80 rfl ?_
  refine Ev.getR (pc := 81) dX5_become_81 fl_RX5_27 lC_84 rfl ?_
  refine Ev.iconst (pc := 84) dX5_become_84 (v := 0) (by decide) ?_
  refine Ev.bipush (pc := 85) dX5_become_85 (v := 20) (by decide) ?_
  obtain ⟨g6, h⟩ := eGdB h
  have g6 := eZ_of g6
  refine Ev.copyZk (pc := 87) (sp2 := 0) (dp2 := 0) (n2 := 20) dX5_become_87 sy_RX5_67 lC_18 lC_90 (by decide) (by decide) (by decide) (by decide) (by decide) (by decide) (by decide) (by decide) (fun i hi => by have h5 := g6 i hi; rw [Nat.zero_add]; exact h5) (by decide) (Nat.le_of_ble_eq_true rfl) ?_
  refine Ev.aload_n (pc := 90) dX5_become_90 rfl ?_
  refine Ev.getR (pc := 91) dX5_become_91 fl_RX5_31 lC_12 rfl ?_
  refine Ev.iconst (pc := 94) dX5_become_94 (v := 0) (by decide) ?_
  refine Ev.aload_n (pc := 95) dX5_become_95 rfl ?_
  refine Ev.getR (pc := 96) dX5_become_96 fl_RX5_31 lC_84 rfl ?_
  refine Ev.iconst (pc := 99) dX5_become_99 (v := 0) (by decide) ?_
  refine Ev.bipush (pc := 100) dX5_become_100 (v := 20) (by decide) ?_
  refine Ev.copyIk (pc := 102) (sp2 := 0) (dp2 := 0) (n2 := 20) dX5_become_102 sy_RX5_67 lC_19 lC_91 (by decide) (by decide) (by decide) (by decide) (by decide) (by decide) (by decide) (by decide) (by decide) (Nat.le_of_ble_eq_true rfl) ?_
  refine Ev.aload_n (pc := 105) dX5_become_105 rfl ?_
  refine Ev.getR (pc := 106) dX5_become_106 fl_RX5_34 lC_12 rfl ?_
  refine Ev.iconst (pc := 109) dX5_become_109 (v := 0) (by decide) ?_
  refine Ev.aload_n (pc := 110) dX5_become_110 rfl ?_
  refine Ev.getR (pc := 111) dX5_become_111 fl_RX5_34 lC_84 rfl ?_
  refine Ev.iconst (pc := 114) dX5_become_114 (v := 0) (by decide) ?_
  refine Ev.bipush (pc := 115) dX5_become_115 (v := 20) (by decide) ?_
  obtain ⟨g6, h⟩ := eGdB h
  have g6 := eZ_of g6
  refine Ev.copyZk (pc := 117) (sp2 := 0) (dp2 := 0) (n2 := 20) dX5_become_117 sy_RX5_67 lC_20 lC_92 (by decide) (by decide) (by decide) (by decide) (by decide) (by decide) (by decide) (by decide) (fun i hi => by have h5 := g6 i hi; rw [Nat.zero_add]; exact h5) (by decide) (Nat.le_of_ble_eq_true rfl) ?_
  refine Ev.aload_n (pc := 120) dX5_become_120 rfl ?_
  refine Ev.getR (pc := 121) dX5_become_121 fl_RX5_37 lC_12 rfl ?_
  refine Ev.iconst (pc := 124) dX5_become_124 (v := 0) (by decide) ?_
  refine Ev.aload_n (pc := 125) dX5_become_125 rfl ?_
  refine Ev.getR (pc := 126) dX5_become_126 fl_RX5_37 lC_84 rfl ?_
  refine Ev.iconst (pc := 129) dX5_become_129 (v := 0) (by decide) ?_
  refine Ev.bipush (pc := 130) dX5_become_130 (v := 20) (by decide) ?_
  refine Ev.copyIk (pc := 132) (sp2 := 0) (dp2 := 0) (n2 := 20) dX5_become_132 sy_RX5_67 lC_21 lC_93 (by decide) (by decide) (by decide) (by decide) (by decide) (by decide) (by decide) (by decide) (by decide) (Nat.le_of_ble_eq_true rfl) ?_
  refine Ev.aload_n (pc := 135) dX5_become_135 rfl ?_
  refine Ev.getR (pc := 136) dX5_become_136 fl_RX5_40 lC_12 rfl ?_
  refine Ev.iconst (pc := 139) dX5_become_139 (v := 0) (by decide) ?_
  refine Ev.aload_n (pc := 140) dX5_become_140 rfl ?_
  refine Ev.getR (pc := 141) dX5_become_141 fl_RX5_40 lC_84 rfl ?_
  refine Ev.iconst (pc := 144) dX5_become_144 (v := 0) (by decide) ?_
  refine Ev.bipush (pc := 145) dX5_become_145 (v := 20) (by decide) ?_
  refine Ev.copyIk (pc := 147) (sp2 := 0) (dp2 := 0) (n2 := 20) dX5_become_147 sy_RX5_67 lC_22 lC_94 (by decide) (by decide) (by decide) (by decide) (by decide) (by decide) (by decide) (by decide) (by decide) (Nat.le_of_ble_eq_true rfl) ?_
  refine Ev.aload_n (pc := 150) dX5_become_150 rfl ?_
  refine Ev.aload_n (pc := 151) dX5_become_151 rfl ?_
  refine Ev.getIv (pc := 152) dX5_become_152 (v := (M.1 12 10)) fl_RX5_43 lC_12 rfl ((eCpy_n (by decide)).trans ((eCpy_n (by decide)).trans ((eCpy_n (by decide)).trans ((eCpy_n (by decide)).trans ((eCpy_n (by decide)).trans ((eCpy_n (by decide)).trans ((eCpy_n (by decide)).trans ((eCpy_n (by decide)).trans ((eCpy_n (by decide)).trans (eCpy_n (by decide))))))))))) ?_
  refine Ev.putI (pc := 155) dX5_become_155 fp_RX5_43 lC_84 rfl rfl rfl ?_
  obtain rfl := Option.some.inj h
  exact Ev.vret (pc := 158) dX5_become_158 rfl
theorem dX2_become_0 : decode cX2_become 0 = .ok (.aload_n 1, 1) := by decide +kernel
theorem dX2_become_1 : decode cX2_become 1 = .ok (.getfield 9, 3) := by decide +kernel
theorem dX2_become_4 : decode cX2_become 4 = .ok (.iconst 0, 1) := by decide +kernel
theorem dX2_become_5 : decode cX2_become 5 = .ok (.aload_n 0, 1) := by decide +kernel
theorem dX2_become_6 : decode cX2_become 6 = .ok (.getfield 9, 3) := by decide +kernel
theorem dX2_become_9 : decode cX2_become 9 = .ok (.iconst 0, 1) := by decide +kernel
theorem dX2_become_10 : decode cX2_become 10 = .ok (.bipush 30, 2) := by decide +kernel
theorem dX2_become_12 : decode cX2_become 12 = .ok (.invokestatic 38, 3) := by decide +kernel
theorem dX2_become_15 : decode cX2_become 15 = .ok (.aload_n 1, 1) := by decide +kernel
theorem dX2_become_16 : decode cX2_become 16 = .ok (.getfield 15, 3) := by decide +kernel
theorem dX2_become_19 : decode cX2_become 19 = .ok (.iconst 0, 1) := by decide +kernel
theorem dX2_become_20 : decode cX2_become 20 = .ok (.aload_n 0, 1) := by decide +kernel
theorem dX2_become_21 : decode cX2_become 21 = .ok (.getfield 15, 3) := by decide +kernel
theorem dX2_become_24 : decode cX2_become 24 = .ok (.iconst 0, 1) := by decide +kernel
theorem dX2_become_25 : decode cX2_become 25 = .ok (.bipush 30, 2) := by decide +kernel
theorem dX2_become_27 : decode cX2_become 27 = .ok (.invokestatic 38, 3) := by decide +kernel
theorem dX2_become_30 : decode cX2_become 30 = .ok (.aload_n 1, 1) := by decide +kernel
theorem dX2_become_31 : decode cX2_become 31 = .ok (.getfield 18, 3) := by decide +kernel
theorem dX2_become_34 : decode cX2_become 34 = .ok (.iconst 0, 1) := by decide +kernel
theorem dX2_become_35 : decode cX2_become 35 = .ok (.aload_n 0, 1) := by decide +kernel
theorem dX2_become_36 : decode cX2_become 36 = .ok (.getfield 18, 3) := by decide +kernel
theorem dX2_become_39 : decode cX2_become 39 = .ok (.iconst 0, 1) := by decide +kernel
theorem dX2_become_40 : decode cX2_become 40 = .ok (.bipush 30, 2) := by decide +kernel
theorem dX2_become_42 : decode cX2_become 42 = .ok (.invokestatic 38, 3) := by decide +kernel
theorem dX2_become_45 : decode cX2_become 45 = .ok (.aload_n 1, 1) := by decide +kernel
theorem dX2_become_46 : decode cX2_become 46 = .ok (.getfield 21, 3) := by decide +kernel
theorem dX2_become_49 : decode cX2_become 49 = .ok (.iconst 0, 1) := by decide +kernel
theorem dX2_become_50 : decode cX2_become 50 = .ok (.aload_n 0, 1) := by decide +kernel
theorem dX2_become_51 : decode cX2_become 51 = .ok (.getfield 21, 3) := by decide +kernel
theorem dX2_become_54 : decode cX2_become 54 = .ok (.iconst 0, 1) := by decide +kernel
theorem dX2_become_55 : decode cX2_become 55 = .ok (.bipush 30, 2) := by decide +kernel
theorem dX2_become_57 : decode cX2_become 57 = .ok (.invokestatic 38, 3) := by decide +kernel
theorem dX2_become_60 : decode cX2_become 60 = .ok (.aload_n 0, 1) := by decide +kernel
theorem dX2_become_61 : decode cX2_become 61 = .ok (.aload_n 1, 1) := by decide +kernel
theorem dX2_become_62 : decode cX2_become 62 = .ok (.getfield 27, 3) := by decide +kernel
theorem dX2_become_65 : decode cX2_become 65 = .ok (.putfield 27, 3) := by decide +kernel
theorem dX2_become_68 : decode cX2_become 68 = .ok (.aload_n 1, 1) := by decide +kernel
theorem dX2_become_69 : decode cX2_become 69 = .ok (.getfield 24, 3) := by decide +kernel
theorem dX2_become_72 : decode cX2_become 72 = .ok (.iconst 0, 1) := by decide +kernel
theorem dX2_become_73 : decode cX2_become 73 = .ok (.aload_n 0, 1) := by decide +kernel
theorem dX2_become_74 : decode cX2_become 74 = .ok (.getfield 24, 3) := by decide +kernel
theorem dX2_become_77 : decode cX2_become 77 = .ok (.iconst 0, 1) := by decide +kernel
theorem dX2_become_78 : decode cX2_become 78 = .ok (.bipush 30, 2) := by decide +kernel
theorem dX2_become_80 : decode cX2_become 80 = .ok (.invokestatic 38, 3) := by decide +kernel
theorem dX2_become_83 : decode cX2_become 83 = .ok (.aload_n 0, 1) := by decide +kernel
theorem dX2_become_84 : decode cX2_become 84 = .ok (.aload_n 1, 1) := by decide +kernel
theorem dX2_become_85 : decode cX2_become 85 = .ok (.getfield 35, 3) := by decide +kernel
theorem dX2_become_88 : decode cX2_become 88 = .ok (.putfield 35, 3) := by decide +kernel
theorem dX2_become_91 : decode cX2_become 91 = .ok (.return_, 1) := by decide +kernel
def F_X2_become  (M : eMem) : Option eMem :=
  some (eI (eCpy (eI (eCpy (eCpy (eCpy (eCpy M 24 96 0 0 30) 25 97 0 0 30) 26 98 0 0 30) 27 99 0 0 30) 95 4 (M.1 23 4)) 28 100 0 0 30) 95 6 (M.1 23 6))
set_option maxRecDepth 100000 in
set_option maxHeartbeats 4000000 in
theorem ev_X2_become  (M : eMem) (q : eMem) (h : F_X2_become  M = some q) : Ev layC 1 m_X2_become 0 [some (.ref 95), some (.ref 23)] [] M (none, q) := by
  rw [F_X2_become] at h
  refine Ev.aload_n (pc := 0) dX2_become_0 rfl ?_
  refine Ev.getR (pc := 1) dX2_become_1 fl_RX2_9 lC_23 rfl ?_
  refine Ev.iconst (pc := 4) dX2_become_4 (v := 0) (by decide) ?_
  refine Ev.aload_n (pc := 5) dX2_become_5 rfl ?_
  refine Ev.getR (pc := 6) dX2_become_6 fl_RX2_9 lC_95 rfl ?_
  refine Ev.iconst (pc := 9) dX2_become_9 (v := 0) (by decide) ?_
  refine Ev.bipush (pc := 10) dX2_become_10 (v := 30) (by decide) ?_
  refine Ev.copyIk (pc := 12) (sp2 := 0) (dp2 := 0) (n2 := 30) dX2_become_12 sy_RX2_38 lC_24 lC_96 (by decide) (by decide) (by decide) (by decide) (by decide) (by decide) (by decide) (by decide) (by decide) (Nat.le_of_ble_eq_true rfl) ?_
  refine Ev.aload_n (pc := 15) dX2_become_15 rfl ?_
  refine Ev.getR (pc := 16) dX2_become_16 fl_RX2_15 lC_23 rfl ?_
  refine Ev.iconst (pc := 19) dX2_become_19 (v := 0) (by decide) ?_
  refine Ev.aload_n (pc := 20) dX2_become_20 rfl ?_
  refine Ev.getR (pc := 21) dX2_become_21 fl_RX2_15 lC_95 rfl ?_
  refine Ev.iconst (pc := 24) dX2_become_24 (v := 0) (by decide) ?_
  refine Ev.bipush (pc := 25) dX2_become_25 (v := 30) (by decide) ?_
  refine Ev.copyIk (pc := 27) (sp2 := 0) (dp2 := 0) (n2 := 30) dX2_become_27 sy_RX2_38 lC_25 lC_97 (by decide) (by decide) (by decide) (by decide) (by decide) (by decide) (by decide) (by decide) (by decide) (Nat.le_of_ble_eq_true rfl) ?_
  refine Ev.aload_n (pc := 30) dX2_become_30 rfl ?_
  refine Ev.getR (pc := 31) dX2_become_31 fl_RX2_18 lC_23 rfl ?_
  refine Ev.iconst (pc := 34) dX2_become_34 (v := 0) (by decide) ?_
  refine Ev.aload_n (pc := 35) dX2_become_35 rfl ?_
  refine Ev.getR (pc := 36) dX2_become_36 fl_RX2_18 lC_95 rfl ?_
  refine Ev.iconst (pc := 39) dX2_become_39 (v := 0) (by decide) ?_
  refine Ev.bipush (pc := 40) dX2_become_40 (v := 30) (by decide) ?_
  refine Ev.copyIk (pc := 42) (sp2 := 0) (dp2 := 0) (n2 := 30) dX2_become_42 sy_RX2_38 lC_26 lC_98 (by decide) (by decide) (by decide) (by decide) (by decide) (by decide) (by decide) (by decide) (by decide) (Nat.le_of_ble_eq_true rfl) ?_
  refine Ev.aload_n (pc := 45) dX2_become_45 rfl ?_
  refine Ev.getR (pc := 46) dX2_become_46 fl_RX2_21 lC_23 rfl ?_
  refine Ev.iconst (pc := 49) dX2_become_49 (v := 0) (by decide) ?_
  refine Ev.aload_n (pc := 50) dX2_become_50 rfl ?_
  refine Ev.getR (pc := 51) dX2_become_51 fl_RX2_21 lC_95 rfl ?_
  refine Ev.iconst (pc := 54) dX2_become_54 (v := 0) (by decide) ?_
  refine Ev.bipush (pc := 55) dX2_become_55 (v := 30) (by decide) ?_
  refine Ev.copyIk (pc := 57) (sp2 := 0) (dp2 := 0) (n2 := 30) dX2_become_57 sy_RX2_38 lC_27 lC_99 (by decide) (by decide) (by decide) (by decide) (by decide) (by decide) (by decide) (by decide) (by decide) (Nat.le_of_ble_eq_true rfl) ?_
  refine Ev.aload_n (pc := 60) dX2_become_60 rfl ?_
  refine Ev.aload_n (pc := 61) dX2_become_61 rfl ?_
  refine Ev.getIv (pc := 62) dX2_become_62 (v := (M.1 23 4)) fl_RX2_27 lC_23 rfl ((eCpy_n (by decide)).trans ((eCpy_n (by decide)).trans ((eCpy_n (by decide)).trans (eCpy_n (by decide))))) ?_
  refine Ev.putI (pc := 65) dX2_become_65 fp_RX2_27 lC_95 rfl rfl rfl ?_
  refine Ev.aload_n (pc := 68) dX2_become_68 rfl ?_
  refine Ev.getR (pc := 69) dX2_become_69 fl_RX2_24 lC_23 rfl ?_
  refine Ev.iconst (pc := 72) dX2_become_72 (v := 0) (by decide) ?_
  refine Ev.aload_n (pc := 73) dX2_become_73 rfl ?_
  refine Ev.getR (pc := 74) dX2_become_74 fl_RX2_24 lC_95 rfl ?_
  refine Ev.iconst (pc := 77) dX2_become_77 (v := 0) (by decide) ?_
  refine Ev.bipush (pc := 78) dX2_become_78 (v := 30) (by decide) ?_
  refine Ev.copyIk (pc := 80) (sp2 := 0) (dp2 := 0) (n2 := 30) dX2_become_80 sy_RX2_38 lC_28 lC_100 (by decide) (by decide) (by decide) (by decide) (by decide) (by decide) (by decide) (by decide) (by decide) (Nat.le_of_ble_eq_true rfl) ?_
  refine Ev.aload_n (pc := 83) dX2_become_83 rfl ?_
  refine Ev.aload_n (pc := 84) dX2_become_84 rfl ?_
  refine Ev.getIv (pc := 85) dX2_become_85 (v := (M.1 23 6)) fl_RX2_35 lC_23 rfl ((eCpy_n (by decide)).trans ((eI_n (by decide)).trans ((eCpy_n (by decide)).trans ((eCpy_n (by decide)).trans ((eCpy_n (by decide)).trans (eCpy_n (by decide))))))) ?_
  refine Ev.putI (pc := 88) dX2_become_88 fp_RX2_35 lC_95 rfl rfl rfl ?_
  obtain rfl := Option.some.inj h
  exact Ev.vret (pc := 91) dX2_become_91 rfl
theorem dX1_become_0 : decode cX1_become 0 = .ok (.aload_n 1, 1) := by decide +kernel
theorem dX1_become_1 : decode cX1_become 1 = .ok (.getfield 9, 3) := by decide +kernel
theorem dX1_become_4 : decode cX1_become 4 = .ok (.iconst 0, 1) := by decide +kernel
theorem dX1_become_5 : decode cX1_become 5 = .ok (.aload_n 0, 1) := by decide +kernel
theorem dX1_become_6 : decode cX1_become 6 = .ok (.getfield 9, 3) := by decide +kernel
theorem dX1_become_9 : decode cX1_become 9 = .ok (.iconst 0, 1) := by decide +kernel
theorem dX1_become_10 : decode cX1_become 10 = .ok (.bipush 90, 2) := by decide +kernel
theorem dX1_become_12 : decode cX1_become 12 = .ok (.invokestatic 88, 3) := by decide +kernel
theorem dX1_become_15 : decode cX1_become 15 = .ok (.aload_n 1, 1) := by decide +kernel
theorem dX1_become_16 : decode cX1_become 16 = .ok (.getfield 15, 3) := by decide +kernel
theorem dX1_become_19 : decode cX1_become 19 = .ok (.iconst 0, 1) := by decide +kernel
theorem dX1_become_20 : decode cX1_become 20 = .ok (.aload_n 0, 1) := by decide +kernel
theorem dX1_become_21 : decode cX1_become 21 = .ok (.getfield 15, 3) := by decide +kernel
theorem dX1_become_24 : decode cX1_become 24 = .ok (.iconst 0, 1) := by decide +kernel
theorem dX1_become_25 : decode cX1_become 25 = .ok (.bipush 90, 2) := by decide +kernel
theorem dX1_become_27 : decode cX1_become 27 = .ok (.invokestatic 88, 3) := by decide +kernel
theorem dX1_become_30 : decode cX1_become 30 = .ok (.aload_n 1, 1) := by decide +kernel
theorem dX1_become_31 : decode cX1_become 31 = .ok (.getfield 18, 3) := by decide +kernel
theorem dX1_become_34 : decode cX1_become 34 = .ok (.iconst 0, 1) := by decide +kernel
theorem dX1_become_35 : decode cX1_become 35 = .ok (.aload_n 0, 1) := by decide +kernel
theorem dX1_become_36 : decode cX1_become 36 = .ok (.getfield 18, 3) := by decide +kernel
theorem dX1_become_39 : decode cX1_become 39 = .ok (.iconst 0, 1) := by decide +kernel
theorem dX1_become_40 : decode cX1_become 40 = .ok (.bipush 90, 2) := by decide +kernel
theorem dX1_become_42 : decode cX1_become 42 = .ok (.invokestatic 88, 3) := by decide +kernel
theorem dX1_become_45 : decode cX1_become 45 = .ok (.aload_n 1, 1) := by decide +kernel
theorem dX1_become_46 : decode cX1_become 46 = .ok (.getfield 22, 3) := by decide +kernel
theorem dX1_become_49 : decode cX1_become 49 = .ok (.iconst 0, 1) := by decide +kernel
theorem dX1_become_50 : decode cX1_become 50 = .ok (.aload_n 0, 1) := by decide +kernel
theorem dX1_become_51 : decode cX1_become 51 = .ok (.getfield 22, 3) := by decide +kernel
theorem dX1_become_54 : decode cX1_become 54 = .ok (.iconst 0, 1) := by decide +kernel
theorem dX1_become_55 : decode cX1_become 55 = .ok (.bipush 90, 2) := by decide +kernel
theorem dX1_become_57 : decode cX1_become 57 = .ok (.invokestatic 88, 3) := by decide +kernel
theorem dX1_become_60 : decode cX1_become 60 = .ok (.aload_n 1, 1) := by decide +kernel
theorem dX1_become_61 : decode cX1_become 61 = .ok (.getfield 25, 3) := by decide +kernel
theorem dX1_become_64 : decode cX1_become 64 = .ok (.iconst 0, 1) := by decide +kernel
theorem dX1_become_65 : decode cX1_become 65 = .ok (.aload_n 0, 1) := by decide +kernel
theorem dX1_become_66 : decode cX1_become 66 = .ok (.getfield 25, 3) := by decide +kernel
theorem dX1_become_69 : decode cX1_become 69 = .ok (.iconst 0, 1) := by decide +kernel
theorem dX1_become_70 : decode cX1_become 70 = .ok (.bipush 90, 2) := by decide +kernel
theorem dX1_become_72 : decode cX1_become 72 = .ok (.invokestatic 88, 3) := by decide +kernel
theorem dX1_become_75 : decode cX1_become 75 = .ok (.aload_n 1, 1) := by decide +kernel
theorem dX1_become_76 : decode cX1_become 76 = .ok (.getfield 28, 3) := by decide +kernel
theorem dX1_become_79 : decode cX1_become 79 = .ok (.iconst 0, 1) := by decide +kernel
theorem dX1_become_80 : decode cX1_become 80 = .ok (.aload_n 0, 1) := by decide +kernel
theorem dX1_become_81 : decode cX1_become 81 = .ok (.getfield 28, 3) := by decide +kernel
theorem dX1_become_84 : decode cX1_become 84 = .ok (.iconst 0, 1) := by decide +kernel
theorem dX1_become_85 : decode cX1_become 85 = .ok (.bipush 90, 2) := by decide +kernel
theorem dX1_become_87 : decode cX1_become 87 = .ok (.invokestatic 88, 3) := by decide +kernel
theorem dX1_become_90 : decode cX1_become 90 = .ok (.aload_n 1, 1) := by decide +kernel
theorem dX1_become_91 : decode cX1_become 91 = .ok (.getfield 31, 3) := by decide +kernel
theorem dX1_become_94 : decode cX1_become 94 = .ok (.iconst 0, 1) := by decide +kernel
theorem dX1_become_95 : decode cX1_become 95 = .ok (.aload_n 0, 1) := by decide +kernel
theorem dX1_become_96 : decode cX1_become 96 = .ok (.getfield 31, 3) := by decide +kernel
theorem dX1_become_99 : decode cX1_become 99 = .ok (.iconst 0, 1) := by decide +kernel
theorem dX1_become_100 : decode cX1_become 100 = .ok (.bipush 90, 2) := by decide +kernel
theorem dX1_become_102 : decode cX1_become 102 = .ok (.invokestatic 88, 3) := by decide +kernel
theorem dX1_become_105 : decode cX1_become 105 = .ok (.aload_n 0, 1) := by decide +kernel
theorem dX1_become_106 : decode cX1_become 106 = .ok (.aload_n 1, 1) := by decide +kernel
theorem dX1_become_107 : decode cX1_become 107 = .ok (.getfield 48, 3) := by decide +kernel
theorem dX1_become_110 : decode cX1_become 110 = .ok (.putfield 48, 3) := by decide +kernel
theorem dX1_become_113 : decode cX1_become 113 = .ok (.aload_n 0, 1) := by decide +kernel
theorem dX1_become_114 : decode cX1_become 114 = .ok (.aload_n 1, 1) := by decide +kernel
theorem dX1_become_115 : decode cX1_become 115 = .ok (.getfield 34, 3) := by decide +kernel
theorem dX1_become_118 : decode cX1_become 118 = .ok (.putfield 34, 3) := by decide +kernel
theorem dX1_become_121 : decode cX1_become 121 = .ok (.aload_n 0, 1) := by decide +kernel
theorem dX1_become_122 : decode cX1_become 122 = .ok (.aload_n 1, 1) := by decide +kernel
theorem dX1_become_123 : decode cX1_become 123 = .ok (.getfield 76, 3) := by decide +kernel
theorem dX1_become_126 : decode cX1_become 126 = .ok (.putfield 76, 3) := by decide +kernel
theorem dX1_become_129 : decode cX1_become 129 = .ok (.aload_n 1, 1) := by decide +kernel
theorem dX1_become_130 : decode cX1_become 130 = .ok (.getfield 38, 3) := by decide +kernel
theorem dX1_become_133 : decode cX1_become 133 = .ok (.iconst 0, 1) := by decide +kernel
theorem dX1_become_134 : decode cX1_become 134 = .ok (.aload_n 0, 1) := by decide +kernel
theorem dX1_become_135 : decode cX1_become 135 = .ok (.getfield 38, 3) := by decide +kernel
theorem dX1_become_138 : decode cX1_become 138 = .ok (.iconst 0, 1) := by decide +kernel
theorem dX1_become_139 : decode cX1_become 139 = .ok (.iconst 4, 1) := by decide +kernel
theorem dX1_become_140 : decode cX1_become 140 = .ok (.invokestatic 88, 3) := by decide +kernel
theorem dX1_become_143 : decode cX1_become 143 = .ok (.return_, 1) := by decide +kernel
def F_X1_become  (M : eMem) : Option eMem :=
  eG (eZ (eCpy (eCpy M 30 102 0 0 90) 31 103 0 0 90) 32 90) <|
  eG (eZ (eCpy (eCpy (eCpy (eCpy (eCpy (eCpy M 30 102 0 0 90) 31 103 0 0 90) 32 104 0 0 90) 33 105 0 0 90) 34 106 0 0 90) 35 107 0 0 90) 36 90) <|
  some (eCpy (eI (eI (eI (eCpy (eCpy (eCpy (eCpy (eCpy (eCpy (eCpy M 30 102 0 0 90) 31 103 0 0 90) 32 104 0 0 90) 33 105 0 0 90) 34 106 0 0 90) 35 107 0 0 90) 36 108 0 0 90) 101 7 (M.1 29 7)) 101 8 (M.1 29 8)) 101 9 (M.1 29 9)) 37 109 0 0 4)
set_option maxRecDepth 100000 in
set_option maxHeartbeats 4000000 in
theorem ev_X1_become  (M : eMem) (q : eMem) (h : F_X1_become  M = some q) : Ev layC 1 m_X1_become 0 [some (.ref 101), some (.ref 29)] [] M (none, q) := by
  rw [F_X1_become] at h
  refine Ev.aload_n (pc := 0) dX1_become_0 rfl ?_
  refine Ev.getR (pc := 1) dX1_become_1 fl_RX1_9 lC_29 rfl ?_
  refine Ev.iconst (pc := 4) dX1_become_4 (v := 0) (by decide) ?_
  refine Ev.aload_n (pc := 5) dX1_become_5 rfl ?_
  refine Ev.getR (pc := 6) dX1_become_6 fl_RX1_9 lC_101 rfl ?_
  refine Ev.iconst (pc := 9) dX1_become_9 (v := 0) (by decide) ?_
  refine Ev.bipush (pc := 10) dX1_become_10 (v := 90) (by decide) ?_
  refine Ev.copyIk (pc := 12) (sp2 := 0) (dp2 := 0) (n2 := 90) dX1_become_12 sy_RX1_88 lC_30 lC_102 (by decide) (by decide) (by decide) (by decide) (by decide) (by decide) (by decide) (by decide) (by decide) (Nat.le_of_ble_eq_true rfl) ?_
  refine Ev.aload_n (pc := 15) dX1_become_15 rfl ?_
  refine Ev.getR (pc := 16) dX1_become_16 fl_RX1_15 lC_29 rfl ?_
  refine Ev.iconst (pc := 19) dX1_become_19 (v := 0) (by decide) ?_
  refine Ev.aload_n (pc := 20) dX1_become_20 rfl ?_
  refine Ev.getR (pc := 21) dX1_become_21 fl_RX1_15 lC_101 rfl ?_
  refine Ev.iconst (pc := 24) dX1_become_24 (v := 0) (by decide) ?_
  refine Ev.bipush (pc := 25) dX1_become_25 (v := 90) (by decide) ?_
  refine Ev.copyIk (pc := 27) (sp2 := 0) (dp2 := 0) (n2 := 90) dX1_become_27 sy_RX1_88 lC_31 lC_103 (by decide) (by decide) (by decide) (by decide) (by decide) (by decide) (by decide) (by decide) (by decide) (Nat.le_of_ble_eq_true rfl) ?_
  refine Ev.aload_n (pc := 30) dX1_become_30 rfl ?_
  refine Ev.getR (pc := 31) dX1_become_31 fl_RX1_18 lC_29 rfl ?_
  refine Ev.iconst (pc := 34) dX1_become_34 (v := 0) (by decide) ?_
  refine Ev.aload_n (pc := 35) dX1_become_35 rfl ?_
  refine Ev.getR (pc := 36) dX1_become_36 fl_RX1_18 lC_101 rfl ?_
  refine Ev.iconst (pc := 39) dX1_become_39 (v := 0) (by decide) ?_
  refine Ev.bipush (pc := 40) dX1_become_40 (v := 90) (by decide) ?_
  obtain ⟨g6, h⟩ := eGdB h
  have g6 := eZ_of g6
  refine Ev.copyZk (pc := 42) (sp2 := 0) (dp2 := 0) (n2 := 90) dX1_become_42 sy_RX1_88 lC_32 lC_104 (by decide) (by decide) (by decide) (by decide) (by decide) (by decide) (by decide) (by decide) (fun i hi => by have h5 := g6 i hi; rw [Nat.zero_add]; exact h5) (by decide) (Nat.le_of_ble_eq_true rfl) ?_
  refine Ev.aload_n (pc := 45) dX1_become_45 rfl ?_
  refine Ev.getR (pc := 46) dX1_become_46 fl_RX1_22 lC_29 rfl ?_
  refine Ev.iconst (pc := 49) dX1_become_49 (v := 0) (by decide) ?_
  refine Ev.aload_n (pc := 50) dX1_become_50 rfl ?_
  refine Ev.getR (pc := 51) dX1_become_51 fl_RX1_22 lC_101 rfl ?_
  refine Ev.iconst (pc := 54) dX1_become_54 (v := 0) (by decide) ?_
  refine Ev.bipush (pc := 55) dX1_become_55 (v := 90) (by decide) ?_
  refine Ev.copyIk (pc := 57) (sp2 := 0) (dp2 := 0) (n2 := 90) dX1_become_57 sy_RX1_88 lC_33 lC_105 (by decide) (by decide) (by decide) (by decide) (by decide) (by decide) (by decide) (by decide) (by decide) (Nat.le_of_ble_eq_true rfl) ?_
  refine Ev.aload_n (pc := 60) dX1_become_60 rfl ?_
  refine Ev.getR (pc := 61) dX1_become_61 fl_RX1_25 lC_29 rfl ?_
  refine Ev.iconst (pc := 64) dX1_become_64 (v := 0) (by decide) ?_
  refine Ev.aload_n (pc := 65) dX1_become_65 rfl ?_
  refine Ev.getR (pc := 66) dX1_become_66 fl_RX1_25 lC_101 rfl ?_
  refine Ev.iconst (pc := 69) dX1_become_69 (v := 0) (by decide) ?_
  refine Ev.bipush (pc := 70) dX1_become_70 (v := 90) (by decide) ?_
  refine Ev.copyIk (pc := 72) (sp2 := 0) (dp2 := 0) (n2 := 90) dX1_become_72 sy_RX1_88 lC_34 lC_106 (by decide) (by decide) (by decide) (by decide) (by decide) (by decide) (by decide) (by decide) (by decide) (Nat.le_of_ble_eq_true rfl) ?_
  refine Ev.aload_n (pc := 75) dX1_become_75 rfl ?_
  refine Ev.getR (pc := 76) dX1_become_76 fl_RX1_28 lC_29 rfl ?_
  refine Ev.iconst (pc := 79) dX1_become_79 (v := 0) (by decide) ?_
  refine Ev.aload_n (pc := 80) dX1_become_80 rfl ?_
  refine Ev.getR (pc := 81) dX1_become_81 fl_RX1_28 lC_101 rfl ?_
  refine Ev.iconst (pc := 84) dX1_become_84 (v := 0) (by decide) ?_
  refine Ev.bipush (pc := 85) dX1_become_85 (v := 90) (by decide) ?_
  refine Ev.copyIk (pc := 87) (sp2 := 0) (dp2 := 0) (n2 := 90) dX1_become_87 sy_RX1_88 lC_35 lC_107 (by decide) (by decide) (by decide) (by decide) (by decide) (by decide) (by decide) (by decide) (by decide) (Nat.le_of_ble_eq_true rfl) ?_
  refine Ev.aload_n (pc := 90) dX1_become_90 rfl ?_
  refine Ev.getR (pc := 91) dX1_become_91 fl_RX1_31 lC_29 rfl ?_
  refine Ev.iconst (pc := 94) dX1_become_94 (v := 0) (by decide) ?_
  refine Ev.aload_n (pc := 95) dX1_become_95 rfl ?_
  refine Ev.getR (pc := 96) dX1_become_96 fl_RX1_31 lC_101 rfl ?_
  refine Ev.iconst (pc := 99) dX1_become_99 (v := 0) (by decide) ?_
  refine Ev.bipush (pc := 100) dX1_become_100 (v := 90) (by decide) ?_
  obtain ⟨g6, h⟩ := eGdB h
  have g6 := eZ_of g6
  refine Ev.copyZk (pc := 102) (sp2 := 0) (dp2 := 0) (n2 := 90) dX1_become_102 sy_RX1_88 lC_36 lC_108 (by decide) (by decide) (by decide) (by decide) (by decide) (by decide) (by decide) (by decide) (fun i hi => by have h5 := g6 i hi; rw [Nat.zero_add]; exact h5) (by decide) (Nat.le_of_ble_eq_true rfl) ?_
  refine Ev.aload_n (pc := 105) dX1_become_105 rfl ?_
  refine Ev.aload_n (pc := 106) dX1_become_106 rfl ?_
  refine Ev.getIv (pc := 107) dX1_become_107 (v := (M.1 29 7)) fl_RX1_48 lC_29 rfl ((eCpy_n (by decide)).trans ((eCpy_n (by decide)).trans ((eCpy_n (by decide)).trans ((eCpy_n (by decide)).trans ((eCpy_n (by decide)).trans ((eCpy_n (by decide)).trans (eCpy_n (by decide)))))))) ?_
  refine Ev.putI (pc := 110) dX1_become_110 fp_RX1_48 lC_101 rfl rfl rfl ?_
  refine Ev.aload_n (pc := 113) dX1_become_113 rfl ?_
  refine Ev.aload_n (pc := 114) dX1_become_114 rfl ?_
  refine Ev.getIv (pc := 115) dX1_become_115 (v := (M.1 29 8)) fl_RX1_34 lC_29 rfl ((eI_n (by decide)).trans ((eCpy_n (by decide)).trans ((eCpy_n (by decide)).trans ((eCpy_n (by decide)).trans ((eCpy_n (by decide)).trans ((eCpy_n (by decide)).trans ((eCpy_n (by decide)).trans (eCpy_n (by decide))))))))) ?_
  refine Ev.putI (pc := 118) dX1_become_118 fp_RX1_34 lC_101 rfl rfl rfl ?_
  refine Ev.aload_n (pc := 121) dX1_become_121 rfl ?_
  refine Ev.aload_n (pc := 122) dX1_become_122 rfl ?_
  refine Ev.getIv (pc := 123) dX1_become_123 (v := (M.1 29 9)) fl_RX1_76 lC_29 rfl ((eI_n (by decide)).trans ((eI_n (by decide)).trans ((eCpy_n (by decide)).trans ((eCpy_n (by decide)).trans ((eCpy_n (by decide)).trans ((eCpy_n (by decide)).trans ((eCpy_n (by decide)).trans ((eCpy_n (by decide)).trans (eCpy_n (by decide)))))))))) ?_
  refine Ev.putI (pc := 126) dX1_become_126 fp_RX1_76 lC_101 rfl rfl rfl ?_
  refine Ev.aload_n (pc := 129) dX1_become_129 rfl ?_
  refine Ev.getR (pc := 130) dX1_become_130 fl_RX1_38 lC_29 rfl ?_
  refine Ev.iconst (pc := 133) dX1_become_133 (v := 0) (by decide) ?_
  refine Ev.aload_n (pc := 134) dX1_become_134 rfl ?_
  refine Ev.getR (pc := 135) dX1_become_135 fl_RX1_38 lC_101 rfl ?_
  refine Ev.iconst (pc := 138) dX1_become_138 (v := 0) (by decide) ?_
  refine Ev.iconst (pc := 139) dX1_become_139 (v := 4) (by decide) ?_
  refine Ev.copyIk (pc := 140) (sp2 := 0) (dp2 := 0) (n2 := 4) dX1_become_140 sy_RX1_88 lC_37 lC_109 (by decide) (by decide) (by decide) (by decide) (by decide) (by decide) (by decide) (by decide) (by decide) (Nat.le_of_ble_eq_true rfl) ?_
  obtain rfl := Option.some.inj h
  exact Ev.vret (pc := 143) dX1_become_143 rfl
theorem dX7_become_0 : decode cX7_become 0 = .ok (.aload_n 1, 1) := by decide +kernel
theorem dX7_become_1 : decode cX7_become 1 = .ok (.getfield 9, 3) := by decide +kernel
theorem dX7_become_4 : decode cX7_become 4 = .ok (.iconst 0, 1) := by decide +kernel
theorem dX7_become_5 : decode cX7_become 5 = .ok (.aload_n 0, 1) := by decide +kernel
theorem dX7_become_6 : decode cX7_become 6 = .ok (.getfield 9, 3) := by decide +kernel
theorem dX7_become_9 : decode cX7_become 9 = .ok (.iconst 0, 1) := by decide +kernel
theorem dX7_become_10 : decode cX7_become 10 = .ok (.bipush 8, 2) := by decide +kernel
theorem dX7_become_12 : decode cX7_become 12 = .ok (.invokestatic 68, 3) := by decide +kernel
theorem dX7_become_15 : decode cX7_become 15 = .ok (.aload_n 1, 1) := by decide +kernel
theorem dX7_become_16 : decode cX7_become 16 = .ok (.getfield 15, 3) := by decide +kernel
theorem dX7_become_19 : decode cX7_become 19 = .ok (.iconst 0, 1) := by decide +kernel
theorem dX7_become_20 : decode cX7_become 20 = .ok (.aload_n 0, 1) := by decide +kernel
theorem dX7_become_21 : decode cX7_become 21 = .ok (.getfield 15, 3) := by decide +kernel
theorem dX7_become_24 : decode cX7_become 24 = .ok (.iconst 0, 1) := by decide +kernel
theorem dX7_become_25 : decode cX7_become 25 = .ok (.bipush 8, 2) := by decide +kernel
theorem dX7_become_27 : decode cX7_become 27 = .ok (.invokestatic 68, 3) := by decide +kernel
theorem dX7_become_30 : decode cX7_become 30 = .ok (.aload_n 1, 1) := by decide +kernel
theorem dX7_become_31 : decode cX7_become 31 = .ok (.getfield 18, 3) := by decide +kernel
theorem dX7_become_34 : decode cX7_become 34 = .ok (.iconst 0, 1) := by decide +kernel
theorem dX7_become_35 : decode cX7_become 35 = .ok (.aload_n 0, 1) := by decide +kernel
theorem dX7_become_36 : decode cX7_become 36 = .ok (.getfield 18, 3) := by decide +kernel
theorem dX7_become_39 : decode cX7_become 39 = .ok (.iconst 0, 1) := by decide +kernel
theorem dX7_become_40 : decode cX7_become 40 = .ok (.bipush 8, 2) := by decide +kernel
theorem dX7_become_42 : decode cX7_become 42 = .ok (.invokestatic 68, 3) := by decide +kernel
theorem dX7_become_45 : decode cX7_become 45 = .ok (.aload_n 1, 1) := by decide +kernel
theorem dX7_become_46 : decode cX7_become 46 = .ok (.getfield 22, 3) := by decide +kernel
theorem dX7_become_49 : decode cX7_become 49 = .ok (.iconst 0, 1) := by decide +kernel
theorem dX7_become_50 : decode cX7_become 50 = .ok (.aload_n 0, 1) := by decide +kernel
theorem dX7_become_51 : decode cX7_become 51 = .ok (.getfield 22, 3) := by decide +kernel
theorem dX7_become_54 : decode cX7_become 54 = .ok (.iconst 0, 1) := by decide +kernel
theorem dX7_become_55 : decode cX7_become 55 = .ok (.bipush 8, 2) := by decide +kernel
theorem dX7_become_57 : decode cX7_become 57 = .ok (.invokestatic 68, 3) := by decide +kernel
theorem dX7_become_60 : decode cX7_become 60 = .ok (.aload_n 0, 1) := by decide +kernel
theorem dX7_become_61 : decode cX7_become 61 = .ok (.aload_n 1, 1) := by decide +kernel
theorem dX7_become_62 : decode cX7_become 62 = .ok (.getfield 49, 3) := by decide +kernel
theorem dX7_become_65 : decode cX7_become 65 = .ok (.putfield 49, 3) := by decide +kernel
theorem dX7_become_68 : decode cX7_become 68 = .ok (.aload_n 1, 1) := by decide +kernel
theorem dX7_become_69 : decode cX7_become 69 = .ok (.getfield 25, 3) := by decide +kernel
theorem dX7_become_72 : decode cX7_become 72 = .ok (.iconst 0, 1) := by decide +kernel
theorem dX7_become_73 : decode cX7_become 73 = .ok (.aload_n 0, 1) := by decide +kernel
theorem dX7_become_74 : decode cX7_become 74 = .ok (.getfield 25, 3) := by decide +kernel
theorem dX7_become_77 : decode cX7_become 77 = .ok (.iconst 0, 1) := by decide +kernel
theorem dX7_become_78 : decode cX7_become 78 = .ok (.bipush 80, 2) := by decide +kernel
theorem dX7_become_80 : decode cX7_become 80 = .ok (.invokestatic 68, 3) := by decide +kernel
theorem dX7_become_83 : decode cX7_become 83 = .ok (.aload_n 1, 1) := by decide +kernel
theorem dX7_become_84 : decode cX7_become 84 = .ok (.getfield 28, 3) := by decide +kernel
theorem dX7_become_87 : decode cX7_become 87 = .ok (.iconst 0, 1) := by decide +kernel
theorem dX7_become_88 : decode cX7_become 88 = .ok (.aload_n 0, 1) := by decide +kernel
theorem dX7_become_89 : decode cX7_become 89 = .ok (.getfield 28, 3) := by decide +kernel
theorem dX7_become_92 : decode cX7_become 92 = .ok (.iconst 0, 1) := by decide +kernel
theorem dX7_become_93 : decode cX7_become 93 = .ok (.bipush 80, 2) := by decide +kernel
theorem dX7_become_95 : decode cX7_become 95 = .ok (.invokestatic 68, 3) := by decide +kernel
theorem dX7_become_98 : decode cX7_become 98 = .ok (.aload_n 1, 1) := by decide +kernel
theorem dX7_become_99 : decode cX7_become 99 = .ok (.getfield 31, 3) := by decide +kernel
theorem dX7_become_102 : decode cX7_become 102 = .ok (.iconst 0, 1) := by decide +kernel
theorem dX7_become_103 : decode cX7_become 103 = .ok (.aload_n 0, 1) := by decide +kernel
theorem dX7_become_104 : decode cX7_become 104 = .ok (.getfield 31, 3) := by decide +kernel
theorem dX7_become_107 : decode cX7_become 107 = .ok (.iconst 0, 1) := by decide +kernel
theorem dX7_become_108 : decode cX7_become 108 = .ok (.bipush 80, 2) := by decide +kernel
theorem dX7_become_110 : decode cX7_become 110 = .ok (.invokestatic 68, 3) := by decide +kernel
theorem dX7_become_113 : decode cX7_become 113 = .ok (.aload_n 1, 1) := by decide +kernel
theorem dX7_become_114 : decode cX7_become 114 = .ok (.getfield 34, 3) := by decide +kernel
theorem dX7_become_117 : decode cX7_become 117 = .ok (.iconst 0, 1) := by decide +kernel
theorem dX7_become_118 : decode cX7_become 118 = .ok (.aload_n 0, 1) := by decide +kernel
theorem dX7_become_119 : decode cX7_become 119 = .ok (.getfield 34, 3) := by decide +kernel
theorem dX7_become_122 : decode cX7_become 122 = .ok (.iconst 0, 1) := by decide +kernel
theorem dX7_become_123 : decode cX7_become 123 = .ok (.sipush 320, 3) := by decide +kernel
theorem dX7_become_126 : decode cX7_become 126 = .ok (.invokestatic 68, 3) := by decide +kernel
theorem dX7_become_129 : decode cX7_become 129 = .ok (.aload_n 1, 1) := by decide +kernel
theorem dX7_become_130 : decode cX7_become 130 = .ok (.getfield 37, 3) := by decide +kernel
theorem dX7_become_133 : decode cX7_become 133 = .ok (.iconst 0, 1) := by decide +kernel
theorem dX7_become_134 : decode cX7_become 134 = .ok (.aload_n 0, 1) := by decide +kernel
theorem dX7_become_135 : decode cX7_become 135 = .ok (.getfield 37, 3) := by decide +kernel
theorem dX7_become_138 : decode cX7_become 138 = .ok (.iconst 0, 1) := by decide +kernel
theorem dX7_become_139 : decode cX7_become 139 = .ok (.sipush 320, 3) := by decide +kernel
theorem dX7_become_142 : decode cX7_become 142 = .ok (.invokestatic 68, 3) := by decide +kernel
theorem dX7_become_145 : decode cX7_become 145 = .ok (.aload_n 1, 1) := by decide +kernel
theorem dX7_become_146 : decode cX7_become 146 = .ok (.getfield 40, 3) := by decide +kernel
theorem dX7_become_149 : decode cX7_become 149 = .ok (.iconst 0, 1) := by decide +kernel
theorem dX7_become_150 : decode cX7_become 150 = .ok (.aload_n 0, 1) := by decide +kernel
theorem dX7_become_151 : decode cX7_become 151 = .ok (.getfield 40, 3) := by decide +kernel
theorem dX7_become_154 : decode cX7_become 154 = .ok (.iconst 0, 1) := by decide +kernel
theorem dX7_become_155 : decode cX7_become 155 = .ok (.sipush 320, 3) := by decide +kernel
theorem dX7_become_158 : decode cX7_become 158 = .ok (.invokestatic 68, 3) := by decide +kernel
theorem dX7_become_161 : decode cX7_become 161 = .ok (.aload_n 1, 1) := by decide +kernel
theorem dX7_become_162 : decode cX7_become 162 = .ok (.getfield 43, 3) := by decide +kernel
theorem dX7_become_165 : decode cX7_become 165 = .ok (.iconst 0, 1) := by decide +kernel
theorem dX7_become_166 : decode cX7_become 166 = .ok (.aload_n 0, 1) := by decide +kernel
theorem dX7_become_167 : decode cX7_become 167 = .ok (.getfield 43, 3) := by decide +kernel
theorem dX7_become_170 : decode cX7_become 170 = .ok (.iconst 0, 1) := by decide +kernel
theorem dX7_become_171 : decode cX7_become 171 = .ok (.sipush 320, 3) := by decide +kernel
theorem dX7_become_174 : decode cX7_become 174 = .ok (.invokestatic 68, 3) := by decide +kernel
theorem dX7_become_177 : decode cX7_become 177 = .ok (.aload_n 1, 1) := by decide +kernel
theorem dX7_become_178 : decode cX7_become 178 = .ok (.getfield 46, 3) := by decide +kernel
theorem dX7_become_181 : decode cX7_become 181 = .ok (.iconst 0, 1) := by decide +kernel
theorem dX7_become_182 : decode cX7_become 182 = .ok (.aload_n 0, 1) := by decide +kernel
theorem dX7_become_183 : decode cX7_become 183 = .ok (.getfield 46, 3) := by decide +kernel
theorem dX7_become_186 : decode cX7_become 186 = .ok (.iconst 0, 1) := by decide +kernel
theorem dX7_become_187 : decode cX7_become 187 = .ok (.sipush 320, 3) := by decide +kernel
theorem dX7_become_190 : decode cX7_become 190 = .ok (.invokestatic 68, 3) := by decide +kernel
theorem dX7_become_193 : decode cX7_become 193 = .ok (.return_, 1) := by decide +kernel
def F_X7_become  (M : eMem) : Option eMem :=
  eG (eZ (eCpy (eCpy M 41 113 0 0 8) 42 114 0 0 8) 43 8) <|
  eG (eZ (eCpy (eCpy (eCpy (eI (eCpy (eCpy (eCpy (eCpy M 41 113 0 0 8) 42 114 0 0 8) 43 115 0 0 8) 44 116 0 0 8) 112 4 (M.1 40 4)) 45 117 0 0 80) 46 118 0 0 80) 47 119 0 0 80) 48 320) <|
  eG (eZ (eCpy (eCpy (eCpy (eCpy (eI (eCpy (eCpy (eCpy (eCpy M 41 113 0 0 8) 42 114 0 0 8) 43 115 0 0 8) 44 116 0 0 8) 112 4 (M.1 40 4)) 45 117 0 0 80) 46 118 0 0 80) 47 119 0 0 80) 48 120 0 0 320) 49 320) <|
  some (eCpy (eCpy (eCpy (eCpy (eCpy (eCpy (eCpy (eCpy (eI (eCpy (eCpy (eCpy (eCpy M 41 113 0 0 8) 42 114 0 0 8) 43 115 0 0 8) 44 116 0 0 8) 112 4 (M.1 40 4)) 45 117 0 0 80) 46 118 0 0 80) 47 119 0 0 80) 48 120 0 0 320) 49 121 0 0 320) 50 122 0 0 320) 51 123 0 0 320) 52 124 0 0 320)
set_option maxRecDepth 100000 in
set_option maxHeartbeats 4000000 in
theorem ev_X7_become  (M : eMem) (q : eMem) (h : F_X7_become  M = some q) : Ev layC 1 m_X7_become 0 [some (.ref 112), some (.ref 40)] [] M (none, q) := by
  rw [F_X7_become] at h
  refine Ev.aload_n (pc := 0) dX7_become_0 rfl ?_
  refine Ev.getR (pc := 1) dX7_become_1 fl_RX7_9 lC_40 rfl ?_
  refine Ev.iconst (pc := 4) dX7_become_4 (v := 0) (by decide) ?_
  refine Ev.aload_n (pc := 5) dX7_become_5 rfl ?_
  refine Ev.getR (pc := 6) dX7_become_6 fl_RX7_9 lC_112 rfl ?_
  refine Ev.iconst (pc := 9) dX7_become_9 (v := 0) (by decide) ?_
  refine Ev.bipush (pc := 10) dX7_become_10 (v := 8) (by decide) ?_
  refine Ev.copyIk (pc := 12) (sp2 := 0) (dp2 := 0) (n2 := 8) dX7_become_12 sy_RX7_68 lC_41 lC_113 (by decide) (by decide) (by decide) (by decide) (by decide) (by decide) (by decide) (by decide) (by decide) (Nat.le_of_ble_eq_true rfl) ?_
  refine Ev.aload_n (pc := 15) dX7_become_15 rfl ?_
  refine Ev.getR (pc := 16) dX7_become_16 fl_RX7_15 lC_40 rfl ?_
  refine Ev.iconst (pc := 19) dX7_become_19 (v := 0) (by decide) ?_
  refine Ev.aload_n (pc := 20) dX7_become_20 rfl ?_
  refine Ev.getR (pc := 21) dX7_become_21 fl_RX7_15 lC_112 rfl ?_
  refine Ev.iconst (pc := 24) dX7_become_24 (v := 0) (by decide) ?_
  refine Ev.bipush (pc := 25) dX7_become_25 (v := 8) (by decide) ?_
  refine Ev.copyIk (pc := 27) (sp2 := 0) (dp2 := 0) (n2 := 8) dX7_become_27 sy_RX7_68 lC_42 lC_114 (by decide) (by decide) (by decide) (by decide) (by decide) (by decide) (by decide) (by decide) (by decide) (Nat.le_of_ble_eq_true rfl) ?_
  refine Ev.aload_n (pc := 30) dX7_become_30 rfl ?_
  refine Ev.getR (pc := 31) dX7_become_31 fl_RX7_18 lC_40 rfl ?_
  refine Ev.iconst (pc := 34) dX7_become_34 (v := 0) (by decide) ?_
  refine Ev.aload_n (pc := 35) dX7_become_35 rfl ?_
  refine Ev.getR (pc := 36) dX7_become_36 fl_RX7_18 lC_112 rfl ?_
  refine Ev.iconst (pc := 39) dX7_become_39 (v := 0) (by decide) ?_
  refine Ev.bipush (pc := 40) dX7_become_40 (v := 8) (by decide) ?_
  obtain ⟨g6, h⟩ := eGdB h
  have g6 := eZ_of g6
  refine Ev.copyZk (pc := 42) (sp2 := 0) (dp2 := 0) (n2 := 8) dX7_become_42 sy_RX7_68 lC_43 lC_115 (by decide) (by decide) (by decide) (by decide) (by decide) (by decide) (by decide) (by decide) (fun i hi => by have h5 := g6 i hi; rw [Nat.zero_add]; exact h5) (by decide) (Nat.le_of_ble_eq_true rfl) ?_
  refine Ev.aload_n (pc := 45) dX7_become_45 rfl ?_
  refine Ev.getR (pc := 46) dX7_become_46 fl_RX7_22 lC_40 rfl ?_
  refine Ev.iconst (pc := 49) dX7_become_49 (v := 0) (by decide) ?_
  refine Ev.aload_n (pc := 50) dX7_become_50 rfl ?_
  refine Ev.getR (pc := 51) dX7_become_51 fl_RX7_22 lC_112 rfl ?_
  refine Ev.iconst (pc := 54) dX7_become_54 (v := 0) (by decide) ?_
  refine Ev.bipush (pc := 55) dX7_become_55 (v := 8) (by decide) ?_
  refine Ev.copyIk (pc := 57) (sp2 := 0) (dp2 := 0) (n2 := 8) dX7_become_57 sy_RX7_68 lC_44 lC_116 (by decide) (by decide) (by decide) (by decide) (by decide) (by decide) (by decide) (by decide) (by decide) (Nat.le_of_ble_eq_true rfl) ?_
  refine Ev.aload_n (pc := 60) dX7_become_60 rfl ?_
  refine Ev.aload_n (pc := 61) dX7_become_61 rfl ?_
  refine Ev.getIv (pc := 62) dX7_become_62 (v := (M.1 40 4)) fl_RX7_49 lC_40 rfl ((eCpy_n (by decide)).trans ((eCpy_n (by decide)).trans ((eCpy_n (by decide)).trans (eCpy_n (by decide))))) ?_
  refine Ev.putI (pc := 65) dX7_become_65 fp_RX7_49 lC_112 rfl rfl rfl ?_
  refine Ev.aload_n (pc := 68) dX7_become_68 rfl ?_
  refine Ev.getR (pc := 69) dX7_become_69 fl_RX7_25 lC_40 rfl ?_
  refine Ev.iconst (pc := 72) dX7_become_72 (v := 0) (by decide) ?_
  refine Ev.aload_n (pc := 73) dX7_become_73 rfl ?_
  refine Ev.getR (pc := 74) dX7_become_74 fl_RX7_25 lC_112 rfl ?_
  refine Ev.iconst (pc := 77) dX7_become_77 (v := 0) (by decide) ?_
  refine Ev.bipush (pc := 78) dX7_become_78 (v := 80) (by decide) ?_
  refine Ev.copyIk (pc := 80) (sp2 := 0) (dp2 := 0) (n2 := 80) dX7_become_80 sy_RX7_68 lC_45 lC_117 (by decide) (by decide) (by decide) (by decide) (by decide) (by decide) (by decide) (by decide) (by decide) (Nat.le_of_ble_eq_true rfl) ?_
  refine Ev.aload_n (pc := 83) dX7_become_83 rfl ?_
  refine Ev.getR (pc := 84) dX7_become_84 fl_RX7_28 lC_40 rfl ?_
  refine Ev.iconst (pc := 87) dX7_become_87 (v := 0) (by decide) ?_
  refine Ev.aload_n (pc := 88) dX7_become_88 rfl ?_
  refine Ev.getR (pc := 89) dX7_become_89 fl_RX7_28 lC_112 rfl ?_
  refine Ev.iconst (pc := 92) dX7_become_92 (v := 0) (by decide) ?_
  refine Ev.bipush (pc := 93) dX7_become_93 (v := 80) (by decide) ?_
  refine Ev.copyIk (pc := 95) (sp2 := 0) (dp2 := 0) (n2 := 80) dX7_become_95 sy_RX7_68 lC_46 lC_118 (by decide) (by decide) (by decide) (by decide) (by decide) (by decide) (by decide) (by decide) (by decide) (Nat.le_of_ble_eq_true rfl) ?_
  refine Ev.aload_n (pc := 98) dX7_become_98 rfl ?_
  refine Ev.getR (pc := 99) dX7_become_99 fl_RX7_31 lC_40 rfl ?_
  refine Ev.iconst (pc := 102) dX7_become_102 (v := 0) (by decide) ?_
  refine Ev.aload_n (pc := 103) dX7_become_103 rfl ?_
  refine Ev.getR (pc := 104) dX7_become_104 fl_RX7_31 lC_112 rfl ?_
  refine Ev.iconst (pc := 107) dX7_become_107 (v := 0) (by decide) ?_
  refine Ev.bipush (pc := 108) dX7_become_108 (v := 80) (by decide) ?_
  refine Ev.copyIk (pc := 110) (sp2 := 0) (dp2 := 0) (n2 := 80) dX7_become_110 sy_RX7_68 lC_47 lC_119 (by decide) (by decide) (by decide) (by decide) (by decide) (by decide) (by decide) (by decide) (by decide) (Nat.le_of_ble_eq_true rfl) ?_
  refine Ev.aload_n (pc := 113) dX7_become_113 rfl ?_
  refine Ev.getR (pc := 114) dX7_become_114 fl_RX7_34 lC_40 rfl ?_
  refine Ev.iconst (pc := 117) dX7_become_117 (v := 0) (by decide) ?_
  refine Ev.aload_n (pc := 118) dX7_become_118 rfl ?_
  refine Ev.getR (pc := 119) dX7_become_119 fl_RX7_34 lC_112 rfl ?_
  refine Ev.iconst (pc := 122) dX7_become_122 (v := 0) (by decide) ?_
  refine Ev.sipush (pc := 123) dX7_become_123 (v := 320) (by decide) ?_
  obtain ⟨g6, h⟩ := eGdB h
  have g6 := eZ_of g6
  refine Ev.copyZk (pc := 126) (sp2 := 0) (dp2 := 0) (n2 := 320) dX7_become_126 sy_RX7_68 lC_48 lC_120 (by decide) (by decide) (by decide) (by decide) (by decide) (by decide) (by decide) (by decide) (fun i hi => by have h5 := g6 i hi; rw [Nat.zero_add]; exact h5) (by decide) (Nat.le_of_ble_eq_true rfl) ?_
  refine Ev.aload_n (pc := 129) dX7_become_129 rfl ?_
  refine Ev.getR (pc := 130) dX7_become_130 fl_RX7_37 lC_40 rfl ?_
  refine Ev.iconst (pc := 133) dX7_become_133 (v := 0) (by decide) ?_
  refine Ev.aload_n (pc := 134) dX7_become_134 rfl ?_
  refine Ev.getR (pc := 135) dX7_become_135 fl_RX7_37 lC_112 rfl ?_
  refine Ev.iconst (pc := 138) dX7_become_138 (v := 0) (by decide) ?_
  refine Ev.sipush (pc := 139) dX7_become_139 (v := 320) (by decide) ?_
  obtain ⟨g6, h⟩ := eGdB h
  have g6 := eZ_of g6
  refine Ev.copyZk (pc := 142) (sp2 := 0) (dp2 := 0) (n2 := 320) dX7_become_142 sy_RX7_68 lC_49 lC_121 (by decide) (by decide) (by decide) (by decide) (by decide) (by decide) (by decide) (by decide) (fun i hi => by have h5 := g6 i hi; rw [Nat.zero_add]; exact h5) (by decide) (Nat.le_of_ble_eq_true rfl) ?_
  refine Ev.aload_n (pc := 145) dX7_become_145 rfl ?_
  refine Ev.getR (pc := 146) dX7_become_146 fl_RX7_40 lC_40 rfl ?_
  refine Ev.iconst (pc := 149) dX7_become_149 (v := 0) (by decide) ?_
  refine Ev.aload_n (pc := 150) dX7_become_150 rfl ?_
  refine Ev.getR (pc := 151) dX7_become_151 fl_RX7_40 lC_112 rfl ?_
  refine Ev.iconst (pc := 154) dX7_become_154 (v := 0) (by decide) ?_
  refine Ev.sipush (pc := 155) dX7_become_155 (v := 320) (by decide) ?_
  refine Ev.copyIk (pc := 158) (sp2 := 0) (dp2 := 0) (n2 := 320) dX7_become_158 sy_RX7_68 lC_50 lC_122 (by decide) (by decide) (by decide) (by decide) (by decide) (by decide) (by decide) (by decide) (by decide) (Nat.le_of_ble_eq_true rfl) ?_
  refine Ev.aload_n (pc := 161) dX7_become_161 rfl ?_
  refine Ev.getR (pc := 162) dX7_become_162 fl_RX7_43 lC_40 rfl ?_
  refine Ev.iconst (pc := 165) dX7_become_165 (v := 0) (by decide) ?_
  refine Ev.aload_n (pc := 166) dX7_become_166 rfl ?_
  refine Ev.getR (pc := 167) dX7_become_167 fl_RX7_43 lC_112 rfl ?_
  refine Ev.iconst (pc := 170) dX7_become_170 (v := 0) (by decide) ?_
  refine Ev.sipush (pc := 171) dX7_become_171 (v := 320) (by decide) ?_
  refine Ev.copyIk (pc := 174) (sp2 := 0) (dp2 := 0) (n2 := 320) dX7_become_174 sy_RX7_68 lC_51 lC_123 (by decide) (by decide) (by decide) (by decide) (by decide) (by decide) (by decide) (by decide) (by decide) (Nat.le_of_ble_eq_true rfl) ?_
  refine Ev.aload_n (pc := 177) dX7_become_177 rfl ?_
  refine Ev.getR (pc := 178) dX7_become_178 fl_RX7_46 lC_40 rfl ?_
  refine Ev.iconst (pc := 181) dX7_become_181 (v := 0) (by decide) ?_
  refine Ev.aload_n (pc := 182) dX7_become_182 rfl ?_
  refine Ev.getR (pc := 183) dX7_become_183 fl_RX7_46 lC_112 rfl ?_
  refine Ev.iconst (pc := 186) dX7_become_186 (v := 0) (by decide) ?_
  refine Ev.sipush (pc := 187) dX7_become_187 (v := 320) (by decide) ?_
  refine Ev.copyIk (pc := 190) (sp2 := 0) (dp2 := 0) (n2 := 320) dX7_become_190 sy_RX7_68 lC_52 lC_124 (by decide) (by decide) (by decide) (by decide) (by decide) (by decide) (by decide) (by decide) (by decide) (Nat.le_of_ble_eq_true rfl) ?_
  obtain rfl := Option.some.inj h
  exact Ev.vret (pc := 193) dX7_become_193 rfl
theorem dX8_become_0 : decode cX8_become 0 = .ok (.aload_n 0, 1) := by decide +kernel
theorem dX8_become_1 : decode cX8_become 1 = .ok (.getfield 12, 3) := by decide +kernel
theorem dX8_become_4 : decode cX8_become 4 = .ok (.aload_n 1, 1) := by decide +kernel
theorem dX8_become_5 : decode cX8_become 5 = .ok (.getfield 12, 3) := by decide +kernel
theorem dX8_become_8 : decode cX8_become 8 = .ok (.invokevirtual 63, 3) := by decide +kernel
theorem dX8_become_11 : decode cX8_become 11 = .ok (.aload_n 0, 1) := by decide +kernel
theorem dX8_become_12 : decode cX8_become 12 = .ok (.getfield 21, 3) := by decide +kernel
theorem dX8_become_15 : decode cX8_become 15 = .ok (.aload_n 1, 1) := by decide +kernel
theorem dX8_become_16 : decode cX8_become 16 = .ok (.getfield 21, 3) := by decide +kernel
theorem dX8_become_19 : decode cX8_become 19 = .ok (.invokevirtual 67, 3) := by decide +kernel
theorem dX8_become_22 : decode cX8_become 22 = .ok (.aload_n 0, 1) := by decide +kernel
theorem dX8_become_23 : decode cX8_become 23 = .ok (.getfield 28, 3) := by decide +kernel
theorem dX8_become_26 : decode cX8_become 26 = .ok (.aload_n 1, 1) := by decide +kernel
theorem dX8_become_27 : decode cX8_become 27 = .ok (.getfield 28, 3) := by decide +kernel
theorem dX8_become_30 : decode cX8_become 30 = .ok (.invokevirtual 70, 3) := by decide +kernel
theorem dX8_become_33 : decode cX8_become 33 = .ok (.aload_n 0, 1) := by decide +kernel
theorem dX8_become_34 : decode cX8_become 34 = .ok (.getfield 35, 3) := by decide +kernel
theorem dX8_become_37 : decode cX8_become 37 = .ok (.aload_n 1, 1) := by decide +kernel
theorem dX8_become_38 : decode cX8_become 38 = .ok (.getfield 35, 3) := by decide +kernel
theorem dX8_become_41 : decode cX8_become 41 = .ok (.invokevirtual 73, 3) := by decide +kernel
theorem dX8_become_44 : decode cX8_become 44 = .ok (.aload_n 0, 1) := by decide +kernel
theorem dX8_become_45 : decode cX8_become 45 = .ok (.getfield 42, 3) := by decide +kernel
theorem dX8_become_48 : decode cX8_become 48 = .ok (.aload_n 1, 1) := by decide +kernel
theorem dX8_become_49 : decode cX8_become 49 = .ok (.getfield 42, 3) := by decide +kernel
theorem dX8_become_52 : decode cX8_become 52 = .ok (.invokevirtual 76, 3) := by decide +kernel
theorem dX8_become_55 : decode cX8_become 55 = .ok (.aload_n 1, 1) := by decide +kernel
theorem dX8_become_56 : decode cX8_become 56 = .ok (.getfield 46, 3) := by decide +kernel
theorem dX8_become_59 : decode cX8_become 59 = .ok (.iconst 0, 1) := by decide +kernel
theorem dX8_become_60 : decode cX8_become 60 = .ok (.aload_n 0, 1) := by decide +kernel
theorem dX8_become_61 : decode cX8_become 61 = .ok (.getfield 46, 3) := by decide +kernel
theorem dX8_become_64 : decode cX8_become 64 = .ok (.iconst 0, 1) := by decide +kernel
theorem dX8_become_65 : decode cX8_become 65 = .ok (.sipush 486, 3) := by decide +kernel
theorem dX8_become_68 : decode cX8_become 68 = .ok (.invokestatic 79, 3) := by decide +kernel
theorem dX8_become_71 : decode cX8_become 71 = .ok (.return_, 1) := by decide +kernel
def F_X8_become  (M : eMem) : Option eMem :=
  (F_X0_become M).bind fun q1 =>
  (F_X5_become q1).bind fun q2 =>
  (F_X2_become q2).bind fun q3 =>
  (F_X1_become q3).bind fun q4 =>
  (F_X7_become q4).bind fun q5 =>
  some (eCpy q5 53 125 0 0 486)
set_option maxRecDepth 100000 in
set_option maxHeartbeats 4000000 in
theorem ev_X8_become  (M : eMem) (q : eMem) (h : F_X8_become  M = some q) : Ev layC 2 m_X8_become 0 [some (.ref 73), some (.ref 1)] [] M (none, q) := by
  rw [F_X8_become] at h
  refine Ev.aload_n (pc := 0) dX8_become_0 rfl ?_
  refine Ev.getR (pc := 1) dX8_become_1 fl_RX8_12 lC_73 rfl ?_
  refine Ev.aload_n (pc := 4) dX8_become_4 rfl ?_
  refine Ev.getR (pc := 5) dX8_become_5 fl_RX8_12 lC_1 rfl ?_
  refine eBk h (fun q1 hq1 h => ?_)
  refine Ev.callV (pc := 8) (as := [.ref 2]) (st := []) (z := 0) dX8_become_8 wc_X0_become ml_RX8_63 im_X0_become se_X0_become lC_74 rfl rfl (ev_X0_become  M _ hq1) rfl rfl (by decide) rfl rfl (Nat.le_of_ble_eq_true rfl) ?_
  refine Ev.aload_n (pc := 11) dX8_become_11 rfl ?_
  refine Ev.getR (pc := 12) dX8_become_12 fl_RX8_21 lC_73 rfl ?_
  refine Ev.aload_n (pc := 15) dX8_become_15 rfl ?_
  refine Ev.getR (pc := 16) dX8_become_16 fl_RX8_21 lC_1 rfl ?_
  refine eBk h (fun q2 hq2 h => ?_)
  refine Ev.callV (pc := 19) (as := [.ref 12]) (st := []) (z := 0) dX8_become_19 wc_X5_become ml_RX8_67 im_X5_become se_X5_become lC_84 rfl rfl (ev_X5_become  q1 _ hq2) rfl rfl (by decide) rfl rfl (Nat.le_of_ble_eq_true rfl) ?_
  refine Ev.aload_n (pc := 22) dX8_become_22 rfl ?_
  refine Ev.getR (pc := 23) dX8_become_23 fl_RX8_28 lC_73 rfl ?_
  refine Ev.aload_n (pc := 26) dX8_become_26 rfl ?_
  refine Ev.getR (pc := 27) dX8_become_27 fl_RX8_28 lC_1 rfl ?_
  refine eBk h (fun q3 hq3 h => ?_)
  refine Ev.callV (pc := 30) (as := [.ref 23]) (st := []) (z := 0) dX8_become_30 wc_X2_become ml_RX8_70 im_X2_become se_X2_become lC_95 rfl rfl (ev_X2_become  q2 _ hq3) rfl rfl (by decide) rfl rfl (Nat.le_of_ble_eq_true rfl) ?_
  refine Ev.aload_n (pc := 33) dX8_become_33 rfl ?_
  refine Ev.getR (pc := 34) dX8_become_34 fl_RX8_35 lC_73 rfl ?_
  refine Ev.aload_n (pc := 37) dX8_become_37 rfl ?_
  refine Ev.getR (pc := 38) dX8_become_38 fl_RX8_35 lC_1 rfl ?_
  refine eBk h (fun q4 hq4 h => ?_)
  refine Ev.callV (pc := 41) (as := [.ref 29]) (st := []) (z := 0) dX8_become_41 wc_X1_become ml_RX8_73 im_X1_become se_X1_become lC_101 rfl rfl (ev_X1_become  q3 _ hq4) rfl rfl (by decide) rfl rfl (Nat.le_of_ble_eq_true rfl) ?_
  refine Ev.aload_n (pc := 44) dX8_become_44 rfl ?_
  refine Ev.getR (pc := 45) dX8_become_45 fl_RX8_42 lC_73 rfl ?_
  refine Ev.aload_n (pc := 48) dX8_become_48 rfl ?_
  refine Ev.getR (pc := 49) dX8_become_49 fl_RX8_42 lC_1 rfl ?_
  refine eBk h (fun q5 hq5 h => ?_)
  refine Ev.callV (pc := 52) (as := [.ref 40]) (st := []) (z := 0) dX8_become_52 wc_X7_become ml_RX8_76 im_X7_become se_X7_become lC_112 rfl rfl (ev_X7_become  q4 _ hq5) rfl rfl (by decide) rfl rfl (Nat.le_of_ble_eq_true rfl) ?_
  refine Ev.aload_n (pc := 55) dX8_become_55 rfl ?_
  refine Ev.getR (pc := 56) dX8_become_56 fl_RX8_46 lC_1 rfl ?_
  refine Ev.iconst (pc := 59) dX8_become_59 (v := 0) (by decide) ?_
  refine Ev.aload_n (pc := 60) dX8_become_60 rfl ?_
  refine Ev.getR (pc := 61) dX8_become_61 fl_RX8_46 lC_73 rfl ?_
  refine Ev.iconst (pc := 64) dX8_become_64 (v := 0) (by decide) ?_
  refine Ev.sipush (pc := 65) dX8_become_65 (v := 486) (by decide) ?_
  refine Ev.copyIk (pc := 68) (sp2 := 0) (dp2 := 0) (n2 := 486) dX8_become_68 sy_RX8_79 lC_53 lC_125 (by decide) (by decide) (by decide) (by decide) (by decide) (by decide) (by decide) (by decide) (by decide) (Nat.le_of_ble_eq_true rfl) ?_
  obtain rfl := Option.some.inj h
  exact Ev.vret (pc := 71) dX8_become_71 rfl
theorem dX9_image_0 : decode cX9_image 0 = .ok (.aload_n 0, 1) := by decide +kernel
theorem dX9_image_1 : decode cX9_image 1 = .ok (.getfield 16, 3) := by decide +kernel
theorem dX9_image_4 : decode cX9_image 4 = .ok (.aload_n 0, 1) := by decide +kernel
theorem dX9_image_5 : decode cX9_image 5 = .ok (.getfield 12, 3) := by decide +kernel
theorem dX9_image_8 : decode cX9_image 8 = .ok (.invokevirtual 401, 3) := by decide +kernel
theorem dX9_image_11 : decode cX9_image 11 = .ok (.aload_n 0, 1) := by decide +kernel
theorem dX9_image_12 : decode cX9_image 12 = .ok (.iconst 1, 1) := by decide +kernel
theorem dX9_image_13 : decode cX9_image 13 = .ok (.putfield 405, 3) := by decide +kernel
theorem dX9_image_16 : decode cX9_image 16 = .ok (.iconst 1, 1) := by decide +kernel
theorem dX9_image_17 : decode cX9_image 17 = .ok (.ireturn, 1) := by decide +kernel
def F_X9_image  (M : eMem) : Option (Int32 × eMem) :=
  (F_X8_become M).bind fun q1 =>
  some (1, (eI q1 0 2 1))
set_option maxRecDepth 100000 in
set_option maxHeartbeats 4000000 in
theorem ev_X9_image  (M : eMem) (q : (Int32 × eMem)) (h : F_X9_image  M = some q) : Ev layC 3 m_X9_image 0 [some (.ref 0)] [] M (some (.int q.1), q.2) := by
  rw [F_X9_image] at h
  refine Ev.aload_n (pc := 0) dX9_image_0 rfl ?_
  refine Ev.getR (pc := 1) dX9_image_1 fl_RX9_16 lC_0 rfl ?_
  refine Ev.aload_n (pc := 4) dX9_image_4 rfl ?_
  refine Ev.getR (pc := 5) dX9_image_5 fl_RX9_12 lC_0 rfl ?_
  refine eBk h (fun q1 hq1 h => ?_)
  refine Ev.callV (pc := 8) (as := [.ref 1]) (st := []) (z := 0) dX9_image_8 wc_X8_become ml_RX9_401 im_X8_become se_X8_become lC_73 rfl rfl (ev_X8_become  M _ hq1) rfl rfl (by decide) rfl rfl (Nat.le_of_ble_eq_true rfl) ?_
  refine Ev.aload_n (pc := 11) dX9_image_11 rfl ?_
  refine Ev.iconst (pc := 12) dX9_image_12 (v := 1) (by decide) ?_
  refine Ev.putI (pc := 13) dX9_image_13 fp_RX9_405 lC_0 rfl rfl rfl ?_
  refine Ev.iconst (pc := 16) dX9_image_16 (v := 1) (by decide) ?_
  obtain rfl := Option.some.inj h
  exact Ev.iret (pc := 17) dX9_image_17 rfl rfl
theorem dX10_image_0 : decode cX10_image 0 = .ok (.iconst 0, 1) := by decide +kernel
theorem dX10_image_1 : decode cX10_image 1 = .ok (.istore_n 1, 1) := by decide +kernel
theorem dX10_image_2 : decode cX10_image 2 = .ok (.iload_n 1, 1) := by decide +kernel
theorem dX10_image_3 : decode cX10_image 3 = .ok (.sipush 2900, 3) := by decide +kernel
theorem dX10_image_6 : decode cX10_image 6 = .ok (.if_icmp .ge 21, 3) := by decide +kernel
theorem dX10_image_9 : decode cX10_image 9 = .ok (.aload_n 0, 1) := by decide +kernel
theorem dX10_image_10 : decode cX10_image 10 = .ok (.getfield 13, 3) := by decide +kernel
theorem dX10_image_13 : decode cX10_image 13 = .ok (.iload_n 1, 1) := by decide +kernel
theorem dX10_image_14 : decode cX10_image 14 = .ok (.aload_n 0, 1) := by decide +kernel
theorem dX10_image_15 : decode cX10_image 15 = .ok (.getfield 7, 3) := by decide +kernel
theorem dX10_image_18 : decode cX10_image 18 = .ok (.iload_n 1, 1) := by decide +kernel
theorem dX10_image_19 : decode cX10_image 19 = .ok (.iaload, 1) := by decide +kernel
theorem dX10_image_20 : decode cX10_image 20 = .ok (.iastore, 1) := by decide +kernel
theorem dX10_image_21 : decode cX10_image 21 = .ok (.iinc 1 1, 3) := by decide +kernel
theorem dX10_image_24 : decode cX10_image 24 = .ok (.goto (-22), 3) := by decide +kernel
theorem dX10_image_27 : decode cX10_image 27 = .ok (.aload_n 0, 1) := by decide +kernel
theorem dX10_image_28 : decode cX10_image 28 = .ok (.iconst 1, 1) := by decide +kernel
theorem dX10_image_29 : decode cX10_image 29 = .ok (.putfield 298, 3) := by decide +kernel
theorem dX10_image_32 : decode cX10_image 32 = .ok (.iconst 1, 1) := by decide +kernel
theorem dX10_image_33 : decode cX10_image 33 = .ok (.ireturn, 1) := by decide +kernel
def F_X10_image_2  : Nat → Int32 → eMem → Option (Int32 × eMem)
  | 0, _, _ => none
  | n + 1, v1, M =>
    if v1 < 2900 then
      eG (eIn v1 2900) <|
      eG (eIn v1 2900) <|
      F_X10_image_2 n (v1 + 1) (eI M 2 v1.toNatClampNeg (M.1 1 v1.toNatClampNeg))
    else
      some (1, (eI M 0 2 1))
set_option maxRecDepth 100000 in
set_option maxHeartbeats 4000000 in
theorem ev_X10_image_2  (q : (Int32 × eMem))  : ∀ (fuel : Nat) (v1 : Int32) (M : eMem), F_X10_image_2 fuel v1 M = some q → Ev layR 0 m_X10_image 2 [some (.ref 0), some (.int v1)] [] M (some (.int q.1), q.2) := by
  intro fuel
  induction fuel with
  | zero => intro v1 M h; rw [F_X10_image_2] at h; cases h
  | succ n ih =>
    intro v1 M h
    rw [F_X10_image_2] at h
    refine Ev.iload_n (pc := 2) dX10_image_2 rfl ?_
    refine Ev.sipush (pc := 3) dX10_image_3 (v := 2900) (by decide) ?_
    refine Ev.icmp_ge (pc := 6) (tgt := 27) dX10_image_6 (by decide) (fun c9 => ?_) (fun c9 => ?_)
    · have h := eF h c9
      refine Ev.aload_n (pc := 27) dX10_image_27 rfl ?_
      refine Ev.iconst (pc := 28) dX10_image_28 (v := 1) (by decide) ?_
      refine Ev.putI (pc := 29) dX10_image_29 fp_RX10_298 lR_0 rfl rfl rfl ?_
      refine Ev.iconst (pc := 32) dX10_image_32 (v := 1) (by decide) ?_
      obtain rfl := Option.some.inj h
      exact Ev.iret (pc := 33) dX10_image_33 rfl rfl
    · have h := eT h c9
      refine Ev.aload_n (pc := 9) dX10_image_9 rfl ?_
      refine Ev.getR (pc := 10) dX10_image_10 fl_RX10_13 lR_0 rfl ?_
      refine Ev.iload_n (pc := 13) dX10_image_13 rfl ?_
      refine Ev.aload_n (pc := 14) dX10_image_14 rfl ?_
      refine Ev.getR (pc := 15) dX10_image_15 fl_RX10_7 lR_0 rfl ?_
      refine Ev.iload_n (pc := 18) dX10_image_18 rfl ?_
      obtain ⟨g9, h⟩ := eGdB h
      refine Ev.ialdj (pc := 19) dX10_image_19 (j := v1.toNatClampNeg) lR_1 g9 rfl ?_
      obtain ⟨g9, h⟩ := eGdB h
      refine Ev.iastj (pc := 20) dX10_image_20 (j := v1.toNatClampNeg) lR_2 g9 rfl ?_
      refine Ev.iincv (pc := 21) dX10_image_21 (v := 1) (by decide) rfl (by decide) rfl rfl ?_
      refine Ev.goto (pc := 24) (tgt := 2) dX10_image_24 (by decide) ?_
      exact Ev.fg (ih _ _ h) (And.intro rfl (And.intro rfl trivial))
def F_X10_image  (M : eMem) : Option (Int32 × eMem) :=
  F_X10_image_2 eFuel 0 M
set_option maxRecDepth 100000 in
set_option maxHeartbeats 4000000 in
theorem ev_X10_image  (M : eMem) (q : (Int32 × eMem)) (h : F_X10_image  M = some q) : Ev layR 0 m_X10_image 0 [some (.ref 0), none] [] M (some (.int q.1), q.2) := by
  rw [F_X10_image] at h
  refine Ev.iconst (pc := 0) dX10_image_0 (v := 0) (by decide) ?_
  refine Ev.istore_n (pc := 1) dX10_image_1 (by decide) rfl rfl ?_
  exact Ev.fg (ev_X10_image_2 _ _ _ _ h) (And.intro rfl (And.intro rfl trivial))
def F_X0_become_v2  (M : eMem) : Option eMem :=
  some (eI (eI (eI (eI (eI (eCpy (eI (eCpy (eCpy (eCpy (eCpy (eI (eCpy (eCpy (eCpy (eCpy M 75 3 0 0 96) 76 4 0 0 40) 77 5 0 0 40) 78 6 0 0 40) 2 4 (M.1 74 4)) 79 7 0 0 12) 80 8 0 0 12) 81 9 0 0 12) 82 10 0 0 12) 2 9 (M.1 74 9)) 83 11 0 0 4) 2 11 (M.1 74 11)) 2 12 (M.1 74 12)) 2 13 (M.1 74 13)) 2 14 (M.1 74 14)) 2 15 (M.1 74 15))
set_option maxRecDepth 100000 in
set_option maxHeartbeats 4000000 in
theorem ev_X0_become_v2  (M : eMem) (q : eMem) (h : F_X0_become_v2  M = some q) : Ev layC 1 m_X0_become 0 [some (.ref 2), some (.ref 74)] [] M (none, q) := by
  rw [F_X0_become_v2] at h
  refine Ev.aload_n (pc := 0) dX0_become_0 rfl ?_
  refine Ev.getR (pc := 1) dX0_become_1 fl_RX0_9 lC_74 rfl ?_
  refine Ev.iconst (pc := 4) dX0_become_4 (v := 0) (by decide) ?_
  refine Ev.aload_n (pc := 5) dX0_become_5 rfl ?_
  refine Ev.getR (pc := 6) dX0_become_6 fl_RX0_9 lC_2 rfl ?_
  refine Ev.iconst (pc := 9) dX0_become_9 (v := 0) (by decide) ?_
  refine Ev.bipush (pc := 10) dX0_become_10 (v := 96) (by decide) ?_
  refine Ev.copyIk (pc := 12) (sp2 := 0) (dp2 := 0) (n2 := 96) dX0_become_12 sy_RX0_50 lC_75 lC_3 (by decide) (by decide) (by decide) (by decide) (by decide) (by decide) (by decide) (by decide) (by decide) (Nat.le_of_ble_eq_true rfl) ?_
  refine Ev.aload_n (pc := 15) dX0_become_15 rfl ?_
  refine Ev.getR (pc := 16) dX0_become_16 fl_RX0_15 lC_74 rfl ?_
  refine Ev.iconst (pc := 19) dX0_become_19 (v := 0) (by decide) ?_
  refine Ev.aload_n (pc := 20) dX0_become_20 rfl ?_
  refine Ev.getR (pc := 21) dX0_become_21 fl_RX0_15 lC_2 rfl ?_
  refine Ev.iconst (pc := 24) dX0_become_24 (v := 0) (by decide) ?_
  refine Ev.bipush (pc := 25) dX0_become_25 (v := 40) (by decide) ?_
  refine Ev.copyIk (pc := 27) (sp2 := 0) (dp2 := 0) (n2 := 40) dX0_become_27 sy_RX0_50 lC_76 lC_4 (by decide) (by decide) (by decide) (by decide) (by decide) (by decide) (by decide) (by decide) (by decide) (Nat.le_of_ble_eq_true rfl) ?_
  refine Ev.aload_n (pc := 30) dX0_become_30 rfl ?_
  refine Ev.getR (pc := 31) dX0_become_31 fl_RX0_18 lC_74 rfl ?_
  refine Ev.iconst (pc := 34) dX0_become_34 (v := 0) (by decide) ?_
  refine Ev.aload_n (pc := 35) dX0_become_35 rfl ?_
  refine Ev.getR (pc := 36) dX0_become_36 fl_RX0_18 lC_2 rfl ?_
  refine Ev.iconst (pc := 39) dX0_become_39 (v := 0) (by decide) ?_
  refine Ev.bipush (pc := 40) dX0_become_40 (v := 40) (by decide) ?_
  refine Ev.copyIk (pc := 42) (sp2 := 0) (dp2 := 0) (n2 := 40) dX0_become_42 sy_RX0_50 lC_77 lC_5 (by decide) (by decide) (by decide) (by decide) (by decide) (by decide) (by decide) (by decide) (by decide) (Nat.le_of_ble_eq_true rfl) ?_
  refine Ev.aload_n (pc := 45) dX0_become_45 rfl ?_
  refine Ev.getR (pc := 46) dX0_become_46 fl_RX0_21 lC_74 rfl ?_
  refine Ev.iconst (pc := 49) dX0_become_49 (v := 0) (by decide) ?_
  refine Ev.aload_n (pc := 50) dX0_become_50 rfl ?_
  refine Ev.getR (pc := 51) dX0_become_51 fl_RX0_21 lC_2 rfl ?_
  refine Ev.iconst (pc := 54) dX0_become_54 (v := 0) (by decide) ?_
  refine Ev.bipush (pc := 55) dX0_become_55 (v := 40) (by decide) ?_
  refine Ev.copyIk (pc := 57) (sp2 := 0) (dp2 := 0) (n2 := 40) dX0_become_57 sy_RX0_50 lC_78 lC_6 (by decide) (by decide) (by decide) (by decide) (by decide) (by decide) (by decide) (by decide) (by decide) (Nat.le_of_ble_eq_true rfl) ?_
  refine Ev.aload_n (pc := 60) dX0_become_60 rfl ?_
  refine Ev.aload_n (pc := 61) dX0_become_61 rfl ?_
  refine Ev.getIv (pc := 62) dX0_become_62 (v := (M.1 74 4)) fl_RX0_39 lC_74 rfl ((eCpy_n (by decide)).trans ((eCpy_n (by decide)).trans ((eCpy_n (by decide)).trans (eCpy_n (by decide))))) ?_
  refine Ev.putI (pc := 65) dX0_become_65 fp_RX0_39 lC_2 rfl rfl rfl ?_
  refine Ev.aload_n (pc := 68) dX0_become_68 rfl ?_
  refine Ev.getR (pc := 69) dX0_become_69 fl_RX0_24 lC_74 rfl ?_
  refine Ev.iconst (pc := 72) dX0_become_72 (v := 0) (by decide) ?_
  refine Ev.aload_n (pc := 73) dX0_become_73 rfl ?_
  refine Ev.getR (pc := 74) dX0_become_74 fl_RX0_24 lC_2 rfl ?_
  refine Ev.iconst (pc := 77) dX0_become_77 (v := 0) (by decide) ?_
  refine Ev.bipush (pc := 78) dX0_become_78 (v := 12) (by decide) ?_
  refine Ev.copyIk (pc := 80) (sp2 := 0) (dp2 := 0) (n2 := 12) dX0_become_80 sy_RX0_50 lC_79 lC_7 (by decide) (by decide) (by decide) (by decide) (by decide) (by decide) (by decide) (by decide) (by decide) (Nat.le_of_ble_eq_true rfl) ?_
  refine Ev.aload_n (pc := 83) dX0_become_83 rfl ?_
  refine Ev.getR (pc := 84) dX0_become_84 fl_RX0_27 lC_74 rfl ?_
  refine Ev.iconst (pc := 87) dX0_become_87 (v := 0) (by decide) ?_
  refine Ev.aload_n (pc := 88) dX0_become_88 rfl ?_
  refine Ev.getR (pc := 89) dX0_become_89 fl_RX0_27 lC_2 rfl ?_
  refine Ev.iconst (pc := 92) dX0_become_92 (v := 0) (by decide) ?_
  refine Ev.bipush (pc := 93) dX0_become_93 (v := 12) (by decide) ?_
  refine Ev.copyIk (pc := 95) (sp2 := 0) (dp2 := 0) (n2 := 12) dX0_become_95 sy_RX0_50 lC_80 lC_8 (by decide) (by decide) (by decide) (by decide) (by decide) (by decide) (by decide) (by decide) (by decide) (Nat.le_of_ble_eq_true rfl) ?_
  refine Ev.aload_n (pc := 98) dX0_become_98 rfl ?_
  refine Ev.getR (pc := 99) dX0_become_99 fl_RX0_30 lC_74 rfl ?_
  refine Ev.iconst (pc := 102) dX0_become_102 (v := 0) (by decide) ?_
  refine Ev.aload_n (pc := 103) dX0_become_103 rfl ?_
  refine Ev.getR (pc := 104) dX0_become_104 fl_RX0_30 lC_2 rfl ?_
  refine Ev.iconst (pc := 107) dX0_become_107 (v := 0) (by decide) ?_
  refine Ev.bipush (pc := 108) dX0_become_108 (v := 12) (by decide) ?_
  refine Ev.copyIk (pc := 110) (sp2 := 0) (dp2 := 0) (n2 := 12) dX0_become_110 sy_RX0_50 lC_81 lC_9 (by decide) (by decide) (by decide) (by decide) (by decide) (by decide) (by decide) (by decide) (by decide) (Nat.le_of_ble_eq_true rfl) ?_
  refine Ev.aload_n (pc := 113) dX0_become_113 rfl ?_
  refine Ev.getR (pc := 114) dX0_become_114 fl_RX0_33 lC_74 rfl ?_
  refine Ev.iconst (pc := 117) dX0_become_117 (v := 0) (by decide) ?_
  refine Ev.aload_n (pc := 118) dX0_become_118 rfl ?_
  refine Ev.getR (pc := 119) dX0_become_119 fl_RX0_33 lC_2 rfl ?_
  refine Ev.iconst (pc := 122) dX0_become_122 (v := 0) (by decide) ?_
  refine Ev.bipush (pc := 123) dX0_become_123 (v := 12) (by decide) ?_
  refine Ev.copyIk (pc := 125) (sp2 := 0) (dp2 := 0) (n2 := 12) dX0_become_125 sy_RX0_50 lC_82 lC_10 (by decide) (by decide) (by decide) (by decide) (by decide) (by decide) (by decide) (by decide) (by decide) (Nat.le_of_ble_eq_true rfl) ?_
  refine Ev.aload_n (pc := 128) dX0_become_128 rfl ?_
  refine Ev.aload_n (pc := 129) dX0_become_129 rfl ?_
  refine Ev.getIv (pc := 130) dX0_become_130 (v := (M.1 74 9)) fl_RX0_47 lC_74 rfl ((eCpy_n (by decide)).trans ((eCpy_n (by decide)).trans ((eCpy_n (by decide)).trans ((eCpy_n (by decide)).trans ((eI_n (by decide)).trans ((eCpy_n (by decide)).trans ((eCpy_n (by decide)).trans ((eCpy_n (by decide)).trans (eCpy_n (by decide)))))))))) ?_
  refine Ev.putI (pc := 133) dX0_become_133 fp_RX0_47 lC_2 rfl rfl rfl ?_
  refine Ev.aload_n (pc := 136) dX0_become_136 rfl ?_
  refine Ev.getR (pc := 137) dX0_become_137 fl_RX0_36 lC_74 rfl ?_
  refine Ev.iconst (pc := 140) dX0_become_140 (v := 0) (by decide) ?_
  refine Ev.aload_n (pc := 141) dX0_become_141 rfl ?_
  refine Ev.getR (pc := 142) dX0_become_142 fl_RX0_36 lC_2 rfl ?_
  refine Ev.iconst (pc := 145) dX0_become_145 (v := 0) (by decide) ?_
  refine Ev.iconst (pc := 146) dX0_become_146 (v := 4) (by decide) ?_
  refine Ev.copyIk (pc := 147) (sp2 := 0) (dp2 := 0) (n2 := 4) dX0_become_147 sy_RX0_50 lC_83 lC_11 (by decide) (by decide) (by decide) (by decide) (by decide) (by decide) (by decide) (by decide) (by decide) (Nat.le_of_ble_eq_true rfl) ?_
  refine Ev.aload_n (pc := 150) dX0_become_150 rfl ?_
  refine Ev.aload_n (pc := 151) dX0_become_151 rfl ?_
  refine Ev.getIv (pc := 152) dX0_become_152 (v := (M.1 74 11)) fl_RX0_56 lC_74 rfl ((eCpy_n (by decide)).trans ((eI_n (by decide)).trans ((eCpy_n (by decide)).trans ((eCpy_n (by decide)).trans ((eCpy_n (by decide)).trans ((eCpy_n (by decide)).trans ((eI_n (by decide)).trans ((eCpy_n (by decide)).trans ((eCpy_n (by decide)).trans ((eCpy_n (by decide)).trans (eCpy_n (by decide)))))))))))) ?_
  refine Ev.putI (pc := 155) dX0_become_155 fp_RX0_56 lC_2 rfl rfl rfl ?_
  refine Ev.aload_n (pc := 158) dX0_become_158 rfl ?_
  refine Ev.aload_n (pc := 159) dX0_become_159 rfl ?_
  refine Ev.getIv (pc := 160) dX0_become_160 (v := (M.1 74 12)) fl_RX0_59 lC_74 rfl ((eI_n (by decide)).trans ((eCpy_n (by decide)).trans ((eI_n (by decide)).trans ((eCpy_n (by decide)).trans ((eCpy_n (by decide)).trans ((eCpy_n (by decide)).trans ((eCpy_n (by decide)).trans ((eI_n (by decide)).trans ((eCpy_n (by decide)).trans ((eCpy_n (by decide)).trans ((eCpy_n (by decide)).trans (eCpy_n (by decide))))))))))))) ?_
  refine Ev.putI (pc := 163) dX0_become_163 fp_RX0_59 lC_2 rfl rfl rfl ?_
  refine Ev.aload_n (pc := 166) dX0_become_166 rfl ?_
  refine Ev.aload_n (pc := 167) dX0_become_167 rfl ?_
  refine Ev.getIv (pc := 168) dX0_become_168 (v := (M.1 74 13)) fl_RX0_62 lC_74 rfl ((eI_n (by decide)).trans ((eI_n (by decide)).trans ((eCpy_n (by decide)).trans ((eI_n (by decide)).trans ((eCpy_n (by decide)).trans ((eCpy_n (by decide)).trans ((eCpy_n (by decide)).trans ((eCpy_n (by decide)).trans ((eI_n (by decide)).trans ((eCpy_n (by decide)).trans ((eCpy_n (by decide)).trans ((eCpy_n (by decide)).trans (eCpy_n (by decide)))))))))))))) ?_
  refine Ev.putI (pc := 171) dX0_become_171 fp_RX0_62 lC_2 rfl rfl rfl ?_
  refine Ev.aload_n (pc := 174) dX0_become_174 rfl ?_
  refine Ev.aload_n (pc := 175) dX0_become_175 rfl ?_
  refine Ev.getIv (pc := 176) dX0_become_176 (v := (M.1 74 14)) fl_RX0_65 lC_74 rfl ((eI_n (by decide)).trans ((eI_n (by decide)).trans ((eI_n (by decide)).trans ((eCpy_n (by decide)).trans ((eI_n (by decide)).trans ((eCpy_n (by decide)).trans ((eCpy_n (by decide)).trans ((eCpy_n (by decide)).trans ((eCpy_n (by decide)).trans ((eI_n (by decide)).trans ((eCpy_n (by decide)).trans ((eCpy_n (by decide)).trans ((eCpy_n (by decide)).trans (eCpy_n (by decide))))))))))))))) ?_
  refine Ev.putI (pc := 179) dX0_become_179 fp_RX0_65 lC_2 rfl rfl rfl ?_
  refine Ev.aload_n (pc := 182) dX0_become_182 rfl ?_
  refine Ev.aload_n (pc := 183) dX0_become_183 rfl ?_
  refine Ev.getIv (pc := 184) dX0_become_184 (v := (M.1 74 15)) fl_RX0_68 lC_74 rfl ((eI_n (by decide)).trans ((eI_n (by decide)).trans ((eI_n (by decide)).trans ((eI_n (by decide)).trans ((eCpy_n (by decide)).trans ((eI_n (by decide)).trans ((eCpy_n (by decide)).trans ((eCpy_n (by decide)).trans ((eCpy_n (by decide)).trans ((eCpy_n (by decide)).trans ((eI_n (by decide)).trans ((eCpy_n (by decide)).trans ((eCpy_n (by decide)).trans ((eCpy_n (by decide)).trans (eCpy_n (by decide)))))))))))))))) ?_
  refine Ev.putI (pc := 187) dX0_become_187 fp_RX0_68 lC_2 rfl rfl rfl ?_
  obtain rfl := Option.some.inj h
  exact Ev.vret (pc := 190) dX0_become_190 rfl
def F_X5_become_v2  (M : eMem) : Option eMem :=
  eG (eZ (eCpy (eCpy (eCpy (eCpy (eCpy M 85 13 0 0 20) 86 14 0 0 20) 87 15 0 0 20) 88 16 0 0 20) 89 17 0 0 20) 90 20) <|
  eG (eZ (eCpy (eCpy (eCpy (eCpy (eCpy (eCpy (eCpy M 85 13 0 0 20) 86 14 0 0 20) 87 15 0 0 20) 88 16 0 0 20) 89 17 0 0 20) 90 18 0 0 20) 91 19 0 0 20) 92 20) <|
  some (eI (eCpy (eCpy (eCpy (eCpy (eCpy (eCpy (eCpy (eCpy (eCpy (eCpy M 85 13 0 0 20) 86 14 0 0 20) 87 15 0 0 20) 88 16 0 0 20) 89 17 0 0 20) 90 18 0 0 20) 91 19 0 0 20) 92 20 0 0 20) 93 21 0 0 20) 94 22 0 0 20) 12 10 (M.1 84 10))
set_option maxRecDepth 100000 in
set_option maxHeartbeats 4000000 in
theorem ev_X5_become_v2  (M : eMem) (q : eMem) (h : F_X5_become_v2  M = some q) : Ev layC 1 m_X5_become 0 [some (.ref 12), some (.ref 84)] [] M (none, q) := by
  rw [F_X5_become_v2] at h
  refine Ev.aload_n (pc := 0) dX5_become_0 rfl ?_
  refine Ev.getR (pc := 1) dX5_become_1 fl_RX5_9 lC_84 rfl ?_
  refine Ev.iconst (pc := 4) dX5_become_4 (v := 0) (by decide) ?_
  refine Ev.aload_n (pc := 5) dX5_become_5 rfl ?_
  refine Ev.getR (pc := 6) dX5_become_6 fl_RX5_9 lC_12 rfl ?_
  refine Ev.iconst (pc := 9) dX5_become_9 (v := 0) (by decide) ?_
  refine Ev.bipush (pc := 10) dX5_become_10 (v := 20) (by decide) ?_
  refine Ev.copyIk (pc := 12) (sp2 := 0) (dp2 := 0) (n2 := 20) dX5_become_12 sy_RX5_67 lC_85 lC_13 (by decide) (by decide) (by decide) (by decide) (by decide) (by decide) (by decide) (by decide) (by decide) (Nat.le_of_ble_eq_true rfl) ?_
  refine Ev.aload_n (pc := 15) dX5_become_15 rfl ?_
  refine Ev.getR (pc := 16) dX5_become_16 fl_RX5_15 lC_84 rfl ?_
  refine Ev.iconst (pc := 19) dX5_become_19 (v := 0) (by decide) ?_
  refine Ev.aload_n (pc := 20) dX5_become_20 rfl ?_
  refine Ev.getR (pc := 21) dX5_become_21 fl_RX5_15 lC_12 rfl ?_
  refine Ev.iconst (pc := 24) dX5_become_24 (v := 0) (by decide) ?_
  refine Ev.bipush (pc := 25) dX5_become_25 (v := 20) (by decide) ?_
  refine Ev.copyIk (pc := 27) (sp2 := 0) (dp2 := 0) (n2 := 20) dX5_become_27 sy_RX5_67 lC_86 lC_14 (by decide) (by decide) (by decide) (by decide) (by decide) (by decide) (by decide) (by decide) (by decide) (Nat.le_of_ble_eq_true rfl) ?_
  refine Ev.aload_n (pc := 30) dX5_become_30 rfl ?_
  refine Ev.getR (pc := 31) dX5_become_31 fl_RX5_18 lC_84 rfl ?_
  refine Ev.iconst (pc := 34) dX5_become_34 (v := 0) (by decide) ?_
  refine Ev.aload_n (pc := 35) dX5_become_35 rfl ?_
  refine Ev.getR (pc := 36) dX5_become_36 fl_RX5_18 lC_12 rfl ?_
  refine Ev.iconst (pc := 39) dX5_become_39 (v := 0) (by decide) ?_
  refine Ev.bipush (pc := 40) dX5_become_40 (v := 20) (by decide) ?_
  refine Ev.copyIk (pc := 42) (sp2 := 0) (dp2 := 0) (n2 := 20) dX5_become_42 sy_RX5_67 lC_87 lC_15 (by decide) (by decide) (by decide) (by decide) (by decide) (by decide) (by decide) (by decide) (by decide) (Nat.le_of_ble_eq_true rfl) ?_
  refine Ev.aload_n (pc := 45) dX5_become_45 rfl ?_
  refine Ev.getR (pc := 46) dX5_become_46 fl_RX5_21 lC_84 rfl ?_
  refine Ev.iconst (pc := 49) dX5_become_49 (v := 0) (by decide) ?_
  refine Ev.aload_n (pc := 50) dX5_become_50 rfl ?_
  refine Ev.getR (pc := 51) dX5_become_51 fl_RX5_21 lC_12 rfl ?_
  refine Ev.iconst (pc := 54) dX5_become_54 (v := 0) (by decide) ?_
  refine Ev.bipush (pc := 55) dX5_become_55 (v := 20) (by decide) ?_
  refine Ev.copyIk (pc := 57) (sp2 := 0) (dp2 := 0) (n2 := 20) dX5_become_57 sy_RX5_67 lC_88 lC_16 (by decide) (by decide) (by decide) (by decide) (by decide) (by decide) (by decide) (by decide) (by decide) (Nat.le_of_ble_eq_true rfl) ?_
  refine Ev.aload_n (pc := 60) dX5_become_60 rfl ?_
  refine Ev.getR (pc := 61) dX5_become_61 fl_RX5_24 lC_84 rfl ?_
  refine Ev.iconst (pc := 64) dX5_become_64 (v := 0) (by decide) ?_
  refine Ev.aload_n (pc := 65) dX5_become_65 rfl ?_
  refine Ev.getR (pc := 66) dX5_become_66 fl_RX5_24 lC_12 rfl ?_
  refine Ev.iconst (pc := 69) dX5_become_69 (v := 0) (by decide) ?_
  refine Ev.bipush (pc := 70) dX5_become_70 (v := 20) (by decide) ?_
  refine Ev.copyIk (pc := 72) (sp2 := 0) (dp2 := 0) (n2 := 20) dX5_become_72 sy_RX5_67 lC_89 lC_17 (by decide) (by decide) (by decide) (by decide) (by decide) (by decide) (by decide) (by decide) (by decide) (Nat.le_of_ble_eq_true rfl) ?_
  refine Ev.aload_n (pc := 75) dX5_become_75 rfl ?_
  refine Ev.getR (pc := 76) dX5_become_76 fl_RX5_27 lC_84 rfl ?_
  refine Ev.iconst (pc := 79) dX5_become_79 (v := 0) (by decide) ?_
  refine Ev.aload_n (pc := 80) dX5_become_80 rfl ?_
  refine Ev.getR (pc := 81) dX5_become_81 fl_RX5_27 lC_12 rfl ?_
  refine Ev.iconst (pc := 84) dX5_become_84 (v := 0) (by decide) ?_
  refine Ev.bipush (pc := 85) dX5_become_85 (v := 20) (by decide) ?_
  obtain ⟨g6, h⟩ := eGdB h
  have g6 := eZ_of g6
  refine Ev.copyZk (pc := 87) (sp2 := 0) (dp2 := 0) (n2 := 20) dX5_become_87 sy_RX5_67 lC_90 lC_18 (by decide) (by decide) (by decide) (by decide) (by decide) (by decide) (by decide) (by decide) (fun i hi => by have h5 := g6 i hi; rw [Nat.zero_add]; exact h5) (by decide) (Nat.le_of_ble_eq_true rfl) ?_
  refine Ev.aload_n (pc := 90) dX5_become_90 rfl ?_
  refine Ev.getR (pc := 91) dX5_become_91 fl_RX5_31 lC_84 rfl ?_
  refine Ev.iconst (pc := 94) dX5_become_94 (v := 0) (by decide) ?_
  refine Ev.aload_n (pc := 95) dX5_become_95 rfl ?_
  refine Ev.getR (pc := 96) dX5_become_96 fl_RX5_31 lC_12 rfl ?_
  refine Ev.iconst (pc := 99) dX5_become_99 (v := 0) (by decide) ?_
  refine Ev.bipush (pc := 100) dX5_become_100 (v := 20) (by decide) ?_
  refine Ev.copyIk (pc := 102) (sp2 := 0) (dp2 := 0) (n2 := 20) dX5_become_102 sy_RX5_67 lC_91 lC_19 (by decide) (by decide) (by decide) (by decide) (by decide) (by decide) (by decide) (by decide) (by decide) (Nat.le_of_ble_eq_true rfl) ?_
  refine Ev.aload_n (pc := 105) dX5_become_105 rfl ?_
  refine Ev.getR (pc := 106) dX5_become_106 fl_RX5_34 lC_84 rfl ?_
  refine Ev.iconst (pc := 109) dX5_become_109 (v := 0) (by decide) ?_
  refine Ev.aload_n (pc := 110) dX5_become_110 rfl ?_
  refine Ev.getR (pc := 111) dX5_become_111 fl_RX5_34 lC_12 rfl ?_
  refine Ev.iconst (pc := 114) dX5_become_114 (v := 0) (by decide) ?_
  refine Ev.bipush (pc := 115) dX5_become_115 (v := 20) (by decide) ?_
  obtain ⟨g6, h⟩ := eGdB h
  have g6 := eZ_of g6
  refine Ev.copyZk (pc := 117) (sp2 := 0) (dp2 := 0) (n2 := 20) dX5_become_117 sy_RX5_67 lC_92 lC_20 (by decide) (by decide) (by decide) (by decide) (by decide) (by decide) (by decide) (by decide) (fun i hi => by have h5 := g6 i hi; rw [Nat.zero_add]; exact h5) (by decide) (Nat.le_of_ble_eq_true rfl) ?_
  refine Ev.aload_n (pc := 120) dX5_become_120 rfl ?_
  refine Ev.getR (pc := 121) dX5_become_121 fl_RX5_37 lC_84 rfl ?_
  refine Ev.iconst (pc := 124) dX5_become_124 (v := 0) (by decide) ?_
  refine Ev.aload_n (pc := 125) dX5_become_125 rfl ?_
  refine Ev.getR (pc := 126) dX5_become_126 fl_RX5_37 lC_12 rfl ?_
  refine Ev.iconst (pc := 129) dX5_become_129 (v := 0) (by decide) ?_
  refine Ev.bipush (pc := 130) dX5_become_130 (v := 20) (by decide) ?_
  refine Ev.copyIk (pc := 132) (sp2 := 0) (dp2 := 0) (n2 := 20) dX5_become_132 sy_RX5_67 lC_93 lC_21 (by decide) (by decide) (by decide) (by decide) (by decide) (by decide) (by decide) (by decide) (by decide) (Nat.le_of_ble_eq_true rfl) ?_
  refine Ev.aload_n (pc := 135) dX5_become_135 rfl ?_
  refine Ev.getR (pc := 136) dX5_become_136 fl_RX5_40 lC_84 rfl ?_
  refine Ev.iconst (pc := 139) dX5_become_139 (v := 0) (by decide) ?_
  refine Ev.aload_n (pc := 140) dX5_become_140 rfl ?_
  refine Ev.getR (pc := 141) dX5_become_141 fl_RX5_40 lC_12 rfl ?_
  refine Ev.iconst (pc := 144) dX5_become_144 (v := 0) (by decide) ?_
  refine Ev.bipush (pc := 145) dX5_become_145 (v := 20) (by decide) ?_
  refine Ev.copyIk (pc := 147) (sp2 := 0) (dp2 := 0) (n2 := 20) dX5_become_147 sy_RX5_67 lC_94 lC_22 (by decide) (by decide) (by decide) (by decide) (by decide) (by decide) (by decide) (by decide) (by decide) (Nat.le_of_ble_eq_true rfl) ?_
  refine Ev.aload_n (pc := 150) dX5_become_150 rfl ?_
  refine Ev.aload_n (pc := 151) dX5_become_151 rfl ?_
  refine Ev.getIv (pc := 152) dX5_become_152 (v := (M.1 84 10)) fl_RX5_43 lC_84 rfl ((eCpy_n (by decide)).trans ((eCpy_n (by decide)).trans ((eCpy_n (by decide)).trans ((eCpy_n (by decide)).trans ((eCpy_n (by decide)).trans ((eCpy_n (by decide)).trans ((eCpy_n (by decide)).trans ((eCpy_n (by decide)).trans ((eCpy_n (by decide)).trans (eCpy_n (by decide))))))))))) ?_
  refine Ev.putI (pc := 155) dX5_become_155 fp_RX5_43 lC_12 rfl rfl rfl ?_
  obtain rfl := Option.some.inj h
  exact Ev.vret (pc := 158) dX5_become_158 rfl
def F_X2_become_v2  (M : eMem) : Option eMem :=
  some (eI (eCpy (eI (eCpy (eCpy (eCpy (eCpy M 96 24 0 0 30) 97 25 0 0 30) 98 26 0 0 30) 99 27 0 0 30) 23 4 (M.1 95 4)) 100 28 0 0 30) 23 6 (M.1 95 6))
set_option maxRecDepth 100000 in
set_option maxHeartbeats 4000000 in
theorem ev_X2_become_v2  (M : eMem) (q : eMem) (h : F_X2_become_v2  M = some q) : Ev layC 1 m_X2_become 0 [some (.ref 23), some (.ref 95)] [] M (none, q) := by
  rw [F_X2_become_v2] at h
  refine Ev.aload_n (pc := 0) dX2_become_0 rfl ?_
  refine Ev.getR (pc := 1) dX2_become_1 fl_RX2_9 lC_95 rfl ?_
  refine Ev.iconst (pc := 4) dX2_become_4 (v := 0) (by decide) ?_
  refine Ev.aload_n (pc := 5) dX2_become_5 rfl ?_
  refine Ev.getR (pc := 6) dX2_become_6 fl_RX2_9 lC_23 rfl ?_
  refine Ev.iconst (pc := 9) dX2_become_9 (v := 0) (by decide) ?_
  refine Ev.bipush (pc := 10) dX2_become_10 (v := 30) (by decide) ?_
  refine Ev.copyIk (pc := 12) (sp2 := 0) (dp2 := 0) (n2 := 30) dX2_become_12 sy_RX2_38 lC_96 lC_24 (by decide) (by decide) (by decide) (by decide) (by decide) (by decide) (by decide) (by decide) (by decide) (Nat.le_of_ble_eq_true rfl) ?_
  refine Ev.aload_n (pc := 15) dX2_become_15 rfl ?_
  refine Ev.getR (pc := 16) dX2_become_16 fl_RX2_15 lC_95 rfl ?_
  refine Ev.iconst (pc := 19) dX2_become_19 (v := 0) (by decide) ?_
  refine Ev.aload_n (pc := 20) dX2_become_20 rfl ?_
  refine Ev.getR (pc := 21) dX2_become_21 fl_RX2_15 lC_23 rfl ?_
  refine Ev.iconst (pc := 24) dX2_become_24 (v := 0) (by decide) ?_
  refine Ev.bipush (pc := 25) dX2_become_25 (v := 30) (by decide) ?_
  refine Ev.copyIk (pc := 27) (sp2 := 0) (dp2 := 0) (n2 := 30) dX2_become_27 sy_RX2_38 lC_97 lC_25 (by decide) (by decide) (by decide) (by decide) (by decide) (by decide) (by decide) (by decide) (by decide) (Nat.le_of_ble_eq_true rfl) ?_
  refine Ev.aload_n (pc := 30) dX2_become_30 rfl ?_
  refine Ev.getR (pc := 31) dX2_become_31 fl_RX2_18 lC_95 rfl ?_
  refine Ev.iconst (pc := 34) dX2_become_34 (v := 0) (by decide) ?_
  refine Ev.aload_n (pc := 35) dX2_become_35 rfl ?_
  refine Ev.getR (pc := 36) dX2_become_36 fl_RX2_18 lC_23 rfl ?_
  refine Ev.iconst (pc := 39) dX2_become_39 (v := 0) (by decide) ?_
  refine Ev.bipush (pc := 40) dX2_become_40 (v := 30) (by decide) ?_
  refine Ev.copyIk (pc := 42) (sp2 := 0) (dp2 := 0) (n2 := 30) dX2_become_42 sy_RX2_38 lC_98 lC_26 (by decide) (by decide) (by decide) (by decide) (by decide) (by decide) (by decide) (by decide) (by decide) (Nat.le_of_ble_eq_true rfl) ?_
  refine Ev.aload_n (pc := 45) dX2_become_45 rfl ?_
  refine Ev.getR (pc := 46) dX2_become_46 fl_RX2_21 lC_95 rfl ?_
  refine Ev.iconst (pc := 49) dX2_become_49 (v := 0) (by decide) ?_
  refine Ev.aload_n (pc := 50) dX2_become_50 rfl ?_
  refine Ev.getR (pc := 51) dX2_become_51 fl_RX2_21 lC_23 rfl ?_
  refine Ev.iconst (pc := 54) dX2_become_54 (v := 0) (by decide) ?_
  refine Ev.bipush (pc := 55) dX2_become_55 (v := 30) (by decide) ?_
  refine Ev.copyIk (pc := 57) (sp2 := 0) (dp2 := 0) (n2 := 30) dX2_become_57 sy_RX2_38 lC_99 lC_27 (by decide) (by decide) (by decide) (by decide) (by decide) (by decide) (by decide) (by decide) (by decide) (Nat.le_of_ble_eq_true rfl) ?_
  refine Ev.aload_n (pc := 60) dX2_become_60 rfl ?_
  refine Ev.aload_n (pc := 61) dX2_become_61 rfl ?_
  refine Ev.getIv (pc := 62) dX2_become_62 (v := (M.1 95 4)) fl_RX2_27 lC_95 rfl ((eCpy_n (by decide)).trans ((eCpy_n (by decide)).trans ((eCpy_n (by decide)).trans (eCpy_n (by decide))))) ?_
  refine Ev.putI (pc := 65) dX2_become_65 fp_RX2_27 lC_23 rfl rfl rfl ?_
  refine Ev.aload_n (pc := 68) dX2_become_68 rfl ?_
  refine Ev.getR (pc := 69) dX2_become_69 fl_RX2_24 lC_95 rfl ?_
  refine Ev.iconst (pc := 72) dX2_become_72 (v := 0) (by decide) ?_
  refine Ev.aload_n (pc := 73) dX2_become_73 rfl ?_
  refine Ev.getR (pc := 74) dX2_become_74 fl_RX2_24 lC_23 rfl ?_
  refine Ev.iconst (pc := 77) dX2_become_77 (v := 0) (by decide) ?_
  refine Ev.bipush (pc := 78) dX2_become_78 (v := 30) (by decide) ?_
  refine Ev.copyIk (pc := 80) (sp2 := 0) (dp2 := 0) (n2 := 30) dX2_become_80 sy_RX2_38 lC_100 lC_28 (by decide) (by decide) (by decide) (by decide) (by decide) (by decide) (by decide) (by decide) (by decide) (Nat.le_of_ble_eq_true rfl) ?_
  refine Ev.aload_n (pc := 83) dX2_become_83 rfl ?_
  refine Ev.aload_n (pc := 84) dX2_become_84 rfl ?_
  refine Ev.getIv (pc := 85) dX2_become_85 (v := (M.1 95 6)) fl_RX2_35 lC_95 rfl ((eCpy_n (by decide)).trans ((eI_n (by decide)).trans ((eCpy_n (by decide)).trans ((eCpy_n (by decide)).trans ((eCpy_n (by decide)).trans (eCpy_n (by decide))))))) ?_
  refine Ev.putI (pc := 88) dX2_become_88 fp_RX2_35 lC_23 rfl rfl rfl ?_
  obtain rfl := Option.some.inj h
  exact Ev.vret (pc := 91) dX2_become_91 rfl
def F_X1_become_v2  (M : eMem) : Option eMem :=
  eG (eZ (eCpy (eCpy M 102 30 0 0 90) 103 31 0 0 90) 104 90) <|
  eG (eZ (eCpy (eCpy (eCpy (eCpy (eCpy (eCpy M 102 30 0 0 90) 103 31 0 0 90) 104 32 0 0 90) 105 33 0 0 90) 106 34 0 0 90) 107 35 0 0 90) 108 90) <|
  some (eCpy (eI (eI (eI (eCpy (eCpy (eCpy (eCpy (eCpy (eCpy (eCpy M 102 30 0 0 90) 103 31 0 0 90) 104 32 0 0 90) 105 33 0 0 90) 106 34 0 0 90) 107 35 0 0 90) 108 36 0 0 90) 29 7 (M.1 101 7)) 29 8 (M.1 101 8)) 29 9 (M.1 101 9)) 109 37 0 0 4)
set_option maxRecDepth 100000 in
set_option maxHeartbeats 4000000 in
theorem ev_X1_become_v2  (M : eMem) (q : eMem) (h : F_X1_become_v2  M = some q) : Ev layC 1 m_X1_become 0 [some (.ref 29), some (.ref 101)] [] M (none, q) := by
  rw [F_X1_become_v2] at h
  refine Ev.aload_n (pc := 0) dX1_become_0 rfl ?_
  refine Ev.getR (pc := 1) dX1_become_1 fl_RX1_9 lC_101 rfl ?_
  refine Ev.iconst (pc := 4) dX1_become_4 (v := 0) (by decide) ?_
  refine Ev.aload_n (pc := 5) dX1_become_5 rfl ?_
  refine Ev.getR (pc := 6) dX1_become_6 fl_RX1_9 lC_29 rfl ?_
  refine Ev.iconst (pc := 9) dX1_become_9 (v := 0) (by decide) ?_
  refine Ev.bipush (pc := 10) dX1_become_10 (v := 90) (by decide) ?_
  refine Ev.copyIk (pc := 12) (sp2 := 0) (dp2 := 0) (n2 := 90) dX1_become_12 sy_RX1_88 lC_102 lC_30 (by decide) (by decide) (by decide) (by decide) (by decide) (by decide) (by decide) (by decide) (by decide) (Nat.le_of_ble_eq_true rfl) ?_
  refine Ev.aload_n (pc := 15) dX1_become_15 rfl ?_
  refine Ev.getR (pc := 16) dX1_become_16 fl_RX1_15 lC_101 rfl ?_
  refine Ev.iconst (pc := 19) dX1_become_19 (v := 0) (by decide) ?_
  refine Ev.aload_n (pc := 20) dX1_become_20 rfl ?_
  refine Ev.getR (pc := 21) dX1_become_21 fl_RX1_15 lC_29 rfl ?_
  refine Ev.iconst (pc := 24) dX1_become_24 (v := 0) (by decide) ?_
  refine Ev.bipush (pc := 25) dX1_become_25 (v := 90) (by decide) ?_
  refine Ev.copyIk (pc := 27) (sp2 := 0) (dp2 := 0) (n2 := 90) dX1_become_27 sy_RX1_88 lC_103 lC_31 (by decide) (by decide) (by decide) (by decide) (by decide) (by decide) (by decide) (by decide) (by decide) (Nat.le_of_ble_eq_true rfl) ?_
  refine Ev.aload_n (pc := 30) dX1_become_30 rfl ?_
  refine Ev.getR (pc := 31) dX1_become_31 fl_RX1_18 lC_101 rfl ?_
  refine Ev.iconst (pc := 34) dX1_become_34 (v := 0) (by decide) ?_
  refine Ev.aload_n (pc := 35) dX1_become_35 rfl ?_
  refine Ev.getR (pc := 36) dX1_become_36 fl_RX1_18 lC_29 rfl ?_
  refine Ev.iconst (pc := 39) dX1_become_39 (v := 0) (by decide) ?_
  refine Ev.bipush (pc := 40) dX1_become_40 (v := 90) (by decide) ?_
  obtain ⟨g6, h⟩ := eGdB h
  have g6 := eZ_of g6
  refine Ev.copyZk (pc := 42) (sp2 := 0) (dp2 := 0) (n2 := 90) dX1_become_42 sy_RX1_88 lC_104 lC_32 (by decide) (by decide) (by decide) (by decide) (by decide) (by decide) (by decide) (by decide) (fun i hi => by have h5 := g6 i hi; rw [Nat.zero_add]; exact h5) (by decide) (Nat.le_of_ble_eq_true rfl) ?_
  refine Ev.aload_n (pc := 45) dX1_become_45 rfl ?_
  refine Ev.getR (pc := 46) dX1_become_46 fl_RX1_22 lC_101 rfl ?_
  refine Ev.iconst (pc := 49) dX1_become_49 (v := 0) (by decide) ?_
  refine Ev.aload_n (pc := 50) dX1_become_50 rfl ?_
  refine Ev.getR (pc := 51) dX1_become_51 fl_RX1_22 lC_29 rfl ?_
  refine Ev.iconst (pc := 54) dX1_become_54 (v := 0) (by decide) ?_
  refine Ev.bipush (pc := 55) dX1_become_55 (v := 90) (by decide) ?_
  refine Ev.copyIk (pc := 57) (sp2 := 0) (dp2 := 0) (n2 := 90) dX1_become_57 sy_RX1_88 lC_105 lC_33 (by decide) (by decide) (by decide) (by decide) (by decide) (by decide) (by decide) (by decide) (by decide) (Nat.le_of_ble_eq_true rfl) ?_
  refine Ev.aload_n (pc := 60) dX1_become_60 rfl ?_
  refine Ev.getR (pc := 61) dX1_become_61 fl_RX1_25 lC_101 rfl ?_
  refine Ev.iconst (pc := 64) dX1_become_64 (v := 0) (by decide) ?_
  refine Ev.aload_n (pc := 65) dX1_become_65 rfl ?_
  refine Ev.getR (pc := 66) dX1_become_66 fl_RX1_25 lC_29 rfl ?_
  refine Ev.iconst (pc := 69) dX1_become_69 (v := 0) (by decide) ?_
  refine Ev.bipush (pc := 70) dX1_become_70 (v := 90) (by decide) ?_
  refine Ev.copyIk (pc := 72) (sp2 := 0) (dp2 := 0) (n2 := 90) dX1_become_72 sy_RX1_88 lC_106 lC_34 (by decide) (by decide) (by decide) (by decide) (by decide) (by decide) (by decide) (by decide) (by decide) (Nat.le_of_ble_eq_true rfl) ?_
  refine Ev.aload_n (pc := 75) dX1_become_75 rfl ?_
  refine Ev.getR (pc := 76) dX1_become_76 fl_RX1_28 lC_101 rfl ?_
  refine Ev.iconst (pc := 79) dX1_become_79 (v := 0) (by decide) ?_
  refine Ev.aload_n (pc := 80) dX1_become_80 rfl ?_
  refine Ev.getR (pc := 81) dX1_become_81 fl_RX1_28 lC_29 rfl ?_
  refine Ev.iconst (pc := 84) dX1_become_84 (v := 0) (by decide) ?_
  refine Ev.bipush (pc := 85) dX1_become_85 (v := 90) (by decide) ?_
  refine Ev.copyIk (pc := 87) (sp2 := 0) (dp2 := 0) (n2 := 90) dX1_become_87 sy_RX1_88 lC_107 lC_35 (by decide) (by decide) (by decide) (by decide) (by decide) (by decide) (by decide) (by decide) (by decide) (Nat.le_of_ble_eq_true rfl) ?_
  refine Ev.aload_n (pc := 90) dX1_become_90 rfl ?_
  refine Ev.getR (pc := 91) dX1_become_91 fl_RX1_31 lC_101 rfl ?_
  refine Ev.iconst (pc := 94) dX1_become_94 (v := 0) (by decide) ?_
  refine Ev.aload_n (pc := 95) dX1_become_95 rfl ?_
  refine Ev.getR (pc := 96) dX1_become_96 fl_RX1_31 lC_29 rfl ?_
  refine Ev.iconst (pc := 99) dX1_become_99 (v := 0) (by decide) ?_
  refine Ev.bipush (pc := 100) dX1_become_100 (v := 90) (by decide) ?_
  obtain ⟨g6, h⟩ := eGdB h
  have g6 := eZ_of g6
  refine Ev.copyZk (pc := 102) (sp2 := 0) (dp2 := 0) (n2 := 90) dX1_become_102 sy_RX1_88 lC_108 lC_36 (by decide) (by decide) (by decide) (by decide) (by decide) (by decide) (by decide) (by decide) (fun i hi => by have h5 := g6 i hi; rw [Nat.zero_add]; exact h5) (by decide) (Nat.le_of_ble_eq_true rfl) ?_
  refine Ev.aload_n (pc := 105) dX1_become_105 rfl ?_
  refine Ev.aload_n (pc := 106) dX1_become_106 rfl ?_
  refine Ev.getIv (pc := 107) dX1_become_107 (v := (M.1 101 7)) fl_RX1_48 lC_101 rfl ((eCpy_n (by decide)).trans ((eCpy_n (by decide)).trans ((eCpy_n (by decide)).trans ((eCpy_n (by decide)).trans ((eCpy_n (by decide)).trans ((eCpy_n (by decide)).trans (eCpy_n (by decide)))))))) ?_
  refine Ev.putI (pc := 110) dX1_become_110 fp_RX1_48 lC_29 rfl rfl rfl ?_
  refine Ev.aload_n (pc := 113) dX1_become_113 rfl ?_
  refine Ev.aload_n (pc := 114) dX1_become_114 rfl ?_
  refine Ev.getIv (pc := 115) dX1_become_115 (v := (M.1 101 8)) fl_RX1_34 lC_101 rfl ((eI_n (by decide)).trans ((eCpy_n (by decide)).trans ((eCpy_n (by decide)).trans ((eCpy_n (by decide)).trans ((eCpy_n (by decide)).trans ((eCpy_n (by decide)).trans ((eCpy_n (by decide)).trans (eCpy_n (by decide))))))))) ?_
  refine Ev.putI (pc := 118) dX1_become_118 fp_RX1_34 lC_29 rfl rfl rfl ?_
  refine Ev.aload_n (pc := 121) dX1_become_121 rfl ?_
  refine Ev.aload_n (pc := 122) dX1_become_122 rfl ?_
  refine Ev.getIv (pc := 123) dX1_become_123 (v := (M.1 101 9)) fl_RX1_76 lC_101 rfl ((eI_n (by decide)).trans ((eI_n (by decide)).trans ((eCpy_n (by decide)).trans ((eCpy_n (by decide)).trans ((eCpy_n (by decide)).trans ((eCpy_n (by decide)).trans ((eCpy_n (by decide)).trans ((eCpy_n (by decide)).trans (eCpy_n (by decide)))))))))) ?_
  refine Ev.putI (pc := 126) dX1_become_126 fp_RX1_76 lC_29 rfl rfl rfl ?_
  refine Ev.aload_n (pc := 129) dX1_become_129 rfl ?_
  refine Ev.getR (pc := 130) dX1_become_130 fl_RX1_38 lC_101 rfl ?_
  refine Ev.iconst (pc := 133) dX1_become_133 (v := 0) (by decide) ?_
  refine Ev.aload_n (pc := 134) dX1_become_134 rfl ?_
  refine Ev.getR (pc := 135) dX1_become_135 fl_RX1_38 lC_29 rfl ?_
  refine Ev.iconst (pc := 138) dX1_become_138 (v := 0) (by decide) ?_
  refine Ev.iconst (pc := 139) dX1_become_139 (v := 4) (by decide) ?_
  refine Ev.copyIk (pc := 140) (sp2 := 0) (dp2 := 0) (n2 := 4) dX1_become_140 sy_RX1_88 lC_109 lC_37 (by decide) (by decide) (by decide) (by decide) (by decide) (by decide) (by decide) (by decide) (by decide) (Nat.le_of_ble_eq_true rfl) ?_
  obtain rfl := Option.some.inj h
  exact Ev.vret (pc := 143) dX1_become_143 rfl
def F_X7_become_v2  (M : eMem) : Option eMem :=
  eG (eZ (eCpy (eCpy M 113 41 0 0 8) 114 42 0 0 8) 115 8) <|
  eG (eZ (eCpy (eCpy (eCpy (eI (eCpy (eCpy (eCpy (eCpy M 113 41 0 0 8) 114 42 0 0 8) 115 43 0 0 8) 116 44 0 0 8) 40 4 (M.1 112 4)) 117 45 0 0 80) 118 46 0 0 80) 119 47 0 0 80) 120 320) <|
  eG (eZ (eCpy (eCpy (eCpy (eCpy (eI (eCpy (eCpy (eCpy (eCpy M 113 41 0 0 8) 114 42 0 0 8) 115 43 0 0 8) 116 44 0 0 8) 40 4 (M.1 112 4)) 117 45 0 0 80) 118 46 0 0 80) 119 47 0 0 80) 120 48 0 0 320) 121 320) <|
  some (eCpy (eCpy (eCpy (eCpy (eCpy (eCpy (eCpy (eCpy (eI (eCpy (eCpy (eCpy (eCpy M 113 41 0 0 8) 114 42 0 0 8) 115 43 0 0 8) 116 44 0 0 8) 40 4 (M.1 112 4)) 117 45 0 0 80) 118 46 0 0 80) 119 47 0 0 80) 120 48 0 0 320) 121 49 0 0 320) 122 50 0 0 320) 123 51 0 0 320) 124 52 0 0 320)
set_option maxRecDepth 100000 in
set_option maxHeartbeats 4000000 in
theorem ev_X7_become_v2  (M : eMem) (q : eMem) (h : F_X7_become_v2  M = some q) : Ev layC 1 m_X7_become 0 [some (.ref 40), some (.ref 112)] [] M (none, q) := by
  rw [F_X7_become_v2] at h
  refine Ev.aload_n (pc := 0) dX7_become_0 rfl ?_
  refine Ev.getR (pc := 1) dX7_become_1 fl_RX7_9 lC_112 rfl ?_
  refine Ev.iconst (pc := 4) dX7_become_4 (v := 0) (by decide) ?_
  refine Ev.aload_n (pc := 5) dX7_become_5 rfl ?_
  refine Ev.getR (pc := 6) dX7_become_6 fl_RX7_9 lC_40 rfl ?_
  refine Ev.iconst (pc := 9) dX7_become_9 (v := 0) (by decide) ?_
  refine Ev.bipush (pc := 10) dX7_become_10 (v := 8) (by decide) ?_
  refine Ev.copyIk (pc := 12) (sp2 := 0) (dp2 := 0) (n2 := 8) dX7_become_12 sy_RX7_68 lC_113 lC_41 (by decide) (by decide) (by decide) (by decide) (by decide) (by decide) (by decide) (by decide) (by decide) (Nat.le_of_ble_eq_true rfl) ?_
  refine Ev.aload_n (pc := 15) dX7_become_15 rfl ?_
  refine Ev.getR (pc := 16) dX7_become_16 fl_RX7_15 lC_112 rfl ?_
  refine Ev.iconst (pc := 19) dX7_become_19 (v := 0) (by decide) ?_
  refine Ev.aload_n (pc := 20) dX7_become_20 rfl ?_
  refine Ev.getR (pc := 21) dX7_become_21 fl_RX7_15 lC_40 rfl ?_
  refine Ev.iconst (pc := 24) dX7_become_24 (v := 0) (by decide) ?_
  refine Ev.bipush (pc := 25) dX7_become_25 (v := 8) (by decide) ?_
  refine Ev.copyIk (pc := 27) (sp2 := 0) (dp2 := 0) (n2 := 8) dX7_become_27 sy_RX7_68 lC_114 lC_42 (by decide) (by decide) (by decide) (by decide) (by decide) (by decide) (by decide) (by decide) (by decide) (Nat.le_of_ble_eq_true rfl) ?_
  refine Ev.aload_n (pc := 30) dX7_become_30 rfl ?_
  refine Ev.getR (pc := 31) dX7_become_31 fl_RX7_18 lC_112 rfl ?_
  refine Ev.iconst (pc := 34) dX7_become_34 (v := 0) (by decide) ?_
  refine Ev.aload_n (pc := 35) dX7_become_35 rfl ?_
  refine Ev.getR (pc := 36) dX7_become_36 fl_RX7_18 lC_40 rfl ?_
  refine Ev.iconst (pc := 39) dX7_become_39 (v := 0) (by decide) ?_
  refine Ev.bipush (pc := 40) dX7_become_40 (v := 8) (by decide) ?_
  obtain ⟨g6, h⟩ := eGdB h
  have g6 := eZ_of g6
  refine Ev.copyZk (pc := 42) (sp2 := 0) (dp2 := 0) (n2 := 8) dX7_become_42 sy_RX7_68 lC_115 lC_43 (by decide) (by decide) (by decide) (by decide) (by decide) (by decide) (by decide) (by decide) (fun i hi => by have h5 := g6 i hi; rw [Nat.zero_add]; exact h5) (by decide) (Nat.le_of_ble_eq_true rfl) ?_
  refine Ev.aload_n (pc := 45) dX7_become_45 rfl ?_
  refine Ev.getR (pc := 46) dX7_become_46 fl_RX7_22 lC_112 rfl ?_
  refine Ev.iconst (pc := 49) dX7_become_49 (v := 0) (by decide) ?_
  refine Ev.aload_n (pc := 50) dX7_become_50 rfl ?_
  refine Ev.getR (pc := 51) dX7_become_51 fl_RX7_22 lC_40 rfl ?_
  refine Ev.iconst (pc := 54) dX7_become_54 (v := 0) (by decide) ?_
  refine Ev.bipush (pc := 55) dX7_become_55 (v := 8) (by decide) ?_
  refine Ev.copyIk (pc := 57) (sp2 := 0) (dp2 := 0) (n2 := 8) dX7_become_57 sy_RX7_68 lC_116 lC_44 (by decide) (by decide) (by decide) (by decide) (by decide) (by decide) (by decide) (by decide) (by decide) (Nat.le_of_ble_eq_true rfl) ?_
  refine Ev.aload_n (pc := 60) dX7_become_60 rfl ?_
  refine Ev.aload_n (pc := 61) dX7_become_61 rfl ?_
  refine Ev.getIv (pc := 62) dX7_become_62 (v := (M.1 112 4)) fl_RX7_49 lC_112 rfl ((eCpy_n (by decide)).trans ((eCpy_n (by decide)).trans ((eCpy_n (by decide)).trans (eCpy_n (by decide))))) ?_
  refine Ev.putI (pc := 65) dX7_become_65 fp_RX7_49 lC_40 rfl rfl rfl ?_
  refine Ev.aload_n (pc := 68) dX7_become_68 rfl ?_
  refine Ev.getR (pc := 69) dX7_become_69 fl_RX7_25 lC_112 rfl ?_
  refine Ev.iconst (pc := 72) dX7_become_72 (v := 0) (by decide) ?_
  refine Ev.aload_n (pc := 73) dX7_become_73 rfl ?_
  refine Ev.getR (pc := 74) dX7_become_74 fl_RX7_25 lC_40 rfl ?_
  refine Ev.iconst (pc := 77) dX7_become_77 (v := 0) (by decide) ?_
  refine Ev.bipush (pc := 78) dX7_become_78 (v := 80) (by decide) ?_
  refine Ev.copyIk (pc := 80) (sp2 := 0) (dp2 := 0) (n2 := 80) dX7_become_80 sy_RX7_68 lC_117 lC_45 (by decide) (by decide) (by decide) (by decide) (by decide) (by decide) (by decide) (by decide) (by decide) (Nat.le_of_ble_eq_true rfl) ?_
  refine Ev.aload_n (pc := 83) dX7_become_83 rfl ?_
  refine Ev.getR (pc := 84) dX7_become_84 fl_RX7_28 lC_112 rfl ?_
  refine Ev.iconst (pc := 87) dX7_become_87 (v := 0) (by decide) ?_
  refine Ev.aload_n (pc := 88) dX7_become_88 rfl ?_
  refine Ev.getR (pc := 89) dX7_become_89 fl_RX7_28 lC_40 rfl ?_
  refine Ev.iconst (pc := 92) dX7_become_92 (v := 0) (by decide) ?_
  refine Ev.bipush (pc := 93) dX7_become_93 (v := 80) (by decide) ?_
  refine Ev.copyIk (pc := 95) (sp2 := 0) (dp2 := 0) (n2 := 80) dX7_become_95 sy_RX7_68 lC_118 lC_46 (by decide) (by decide) (by decide) (by decide) (by decide) (by decide) (by decide) (by decide) (by decide) (Nat.le_of_ble_eq_true rfl) ?_
  refine Ev.aload_n (pc := 98) dX7_become_98 rfl ?_
  refine Ev.getR (pc := 99) dX7_become_99 fl_RX7_31 lC_112 rfl ?_
  refine Ev.iconst (pc := 102) dX7_become_102 (v := 0) (by decide) ?_
  refine Ev.aload_n (pc := 103) dX7_become_103 rfl ?_
  refine Ev.getR (pc := 104) dX7_become_104 fl_RX7_31 lC_40 rfl ?_
  refine Ev.iconst (pc := 107) dX7_become_107 (v := 0) (by decide) ?_
  refine Ev.bipush (pc := 108) dX7_become_108 (v := 80) (by decide) ?_
  refine Ev.copyIk (pc := 110) (sp2 := 0) (dp2 := 0) (n2 := 80) dX7_become_110 sy_RX7_68 lC_119 lC_47 (by decide) (by decide) (by decide) (by decide) (by decide) (by decide) (by decide) (by decide) (by decide) (Nat.le_of_ble_eq_true rfl) ?_
  refine Ev.aload_n (pc := 113) dX7_become_113 rfl ?_
  refine Ev.getR (pc := 114) dX7_become_114 fl_RX7_34 lC_112 rfl ?_
  refine Ev.iconst (pc := 117) dX7_become_117 (v := 0) (by decide) ?_
  refine Ev.aload_n (pc := 118) dX7_become_118 rfl ?_
  refine Ev.getR (pc := 119) dX7_become_119 fl_RX7_34 lC_40 rfl ?_
  refine Ev.iconst (pc := 122) dX7_become_122 (v := 0) (by decide) ?_
  refine Ev.sipush (pc := 123) dX7_become_123 (v := 320) (by decide) ?_
  obtain ⟨g6, h⟩ := eGdB h
  have g6 := eZ_of g6
  refine Ev.copyZk (pc := 126) (sp2 := 0) (dp2 := 0) (n2 := 320) dX7_become_126 sy_RX7_68 lC_120 lC_48 (by decide) (by decide) (by decide) (by decide) (by decide) (by decide) (by decide) (by decide) (fun i hi => by have h5 := g6 i hi; rw [Nat.zero_add]; exact h5) (by decide) (Nat.le_of_ble_eq_true rfl) ?_
  refine Ev.aload_n (pc := 129) dX7_become_129 rfl ?_
  refine Ev.getR (pc := 130) dX7_become_130 fl_RX7_37 lC_112 rfl ?_
  refine Ev.iconst (pc := 133) dX7_become_133 (v := 0) (by decide) ?_
  refine Ev.aload_n (pc := 134) dX7_become_134 rfl ?_
  refine Ev.getR (pc := 135) dX7_become_135 fl_RX7_37 lC_40 rfl ?_
  refine Ev.iconst (pc := 138) dX7_become_138 (v := 0) (by decide) ?_
  refine Ev.sipush (pc := 139) dX7_become_139 (v := 320) (by decide) ?_
  obtain ⟨g6, h⟩ := eGdB h
  have g6 := eZ_of g6
  refine Ev.copyZk (pc := 142) (sp2 := 0) (dp2 := 0) (n2 := 320) dX7_become_142 sy_RX7_68 lC_121 lC_49 (by decide) (by decide) (by decide) (by decide) (by decide) (by decide) (by decide) (by decide) (fun i hi => by have h5 := g6 i hi; rw [Nat.zero_add]; exact h5) (by decide) (Nat.le_of_ble_eq_true rfl) ?_
  refine Ev.aload_n (pc := 145) dX7_become_145 rfl ?_
  refine Ev.getR (pc := 146) dX7_become_146 fl_RX7_40 lC_112 rfl ?_
  refine Ev.iconst (pc := 149) dX7_become_149 (v := 0) (by decide) ?_
  refine Ev.aload_n (pc := 150) dX7_become_150 rfl ?_
  refine Ev.getR (pc := 151) dX7_become_151 fl_RX7_40 lC_40 rfl ?_
  refine Ev.iconst (pc := 154) dX7_become_154 (v := 0) (by decide) ?_
  refine Ev.sipush (pc := 155) dX7_become_155 (v := 320) (by decide) ?_
  refine Ev.copyIk (pc := 158) (sp2 := 0) (dp2 := 0) (n2 := 320) dX7_become_158 sy_RX7_68 lC_122 lC_50 (by decide) (by decide) (by decide) (by decide) (by decide) (by decide) (by decide) (by decide) (by decide) (Nat.le_of_ble_eq_true rfl) ?_
  refine Ev.aload_n (pc := 161) dX7_become_161 rfl ?_
  refine Ev.getR (pc := 162) dX7_become_162 fl_RX7_43 lC_112 rfl ?_
  refine Ev.iconst (pc := 165) dX7_become_165 (v := 0) (by decide) ?_
  refine Ev.aload_n (pc := 166) dX7_become_166 rfl ?_
  refine Ev.getR (pc := 167) dX7_become_167 fl_RX7_43 lC_40 rfl ?_
  refine Ev.iconst (pc := 170) dX7_become_170 (v := 0) (by decide) ?_
  refine Ev.sipush (pc := 171) dX7_become_171 (v := 320) (by decide) ?_
  refine Ev.copyIk (pc := 174) (sp2 := 0) (dp2 := 0) (n2 := 320) dX7_become_174 sy_RX7_68 lC_123 lC_51 (by decide) (by decide) (by decide) (by decide) (by decide) (by decide) (by decide) (by decide) (by decide) (Nat.le_of_ble_eq_true rfl) ?_
  refine Ev.aload_n (pc := 177) dX7_become_177 rfl ?_
  refine Ev.getR (pc := 178) dX7_become_178 fl_RX7_46 lC_112 rfl ?_
  refine Ev.iconst (pc := 181) dX7_become_181 (v := 0) (by decide) ?_
  refine Ev.aload_n (pc := 182) dX7_become_182 rfl ?_
  refine Ev.getR (pc := 183) dX7_become_183 fl_RX7_46 lC_40 rfl ?_
  refine Ev.iconst (pc := 186) dX7_become_186 (v := 0) (by decide) ?_
  refine Ev.sipush (pc := 187) dX7_become_187 (v := 320) (by decide) ?_
  refine Ev.copyIk (pc := 190) (sp2 := 0) (dp2 := 0) (n2 := 320) dX7_become_190 sy_RX7_68 lC_124 lC_52 (by decide) (by decide) (by decide) (by decide) (by decide) (by decide) (by decide) (by decide) (by decide) (Nat.le_of_ble_eq_true rfl) ?_
  obtain rfl := Option.some.inj h
  exact Ev.vret (pc := 193) dX7_become_193 rfl
def F_X8_become_v2  (M : eMem) : Option eMem :=
  (F_X0_become_v2 M).bind fun q1 =>
  (F_X5_become_v2 q1).bind fun q2 =>
  (F_X2_become_v2 q2).bind fun q3 =>
  (F_X1_become_v2 q3).bind fun q4 =>
  (F_X7_become_v2 q4).bind fun q5 =>
  some (eCpy q5 125 53 0 0 486)
set_option maxRecDepth 100000 in
set_option maxHeartbeats 4000000 in
theorem ev_X8_become_v2  (M : eMem) (q : eMem) (h : F_X8_become_v2  M = some q) : Ev layC 2 m_X8_become 0 [some (.ref 1), some (.ref 73)] [] M (none, q) := by
  rw [F_X8_become_v2] at h
  refine Ev.aload_n (pc := 0) dX8_become_0 rfl ?_
  refine Ev.getR (pc := 1) dX8_become_1 fl_RX8_12 lC_1 rfl ?_
  refine Ev.aload_n (pc := 4) dX8_become_4 rfl ?_
  refine Ev.getR (pc := 5) dX8_become_5 fl_RX8_12 lC_73 rfl ?_
  refine eBk h (fun q1 hq1 h => ?_)
  refine Ev.callV (pc := 8) (as := [.ref 74]) (st := []) (z := 0) dX8_become_8 wc_X0_become ml_RX8_63 im_X0_become se_X0_become lC_2 rfl rfl (ev_X0_become_v2  M _ hq1) rfl rfl (by decide) rfl rfl (Nat.le_of_ble_eq_true rfl) ?_
  refine Ev.aload_n (pc := 11) dX8_become_11 rfl ?_
  refine Ev.getR (pc := 12) dX8_become_12 fl_RX8_21 lC_1 rfl ?_
  refine Ev.aload_n (pc := 15) dX8_become_15 rfl ?_
  refine Ev.getR (pc := 16) dX8_become_16 fl_RX8_21 lC_73 rfl ?_
  refine eBk h (fun q2 hq2 h => ?_)
  refine Ev.callV (pc := 19) (as := [.ref 84]) (st := []) (z := 0) dX8_become_19 wc_X5_become ml_RX8_67 im_X5_become se_X5_become lC_12 rfl rfl (ev_X5_become_v2  q1 _ hq2) rfl rfl (by decide) rfl rfl (Nat.le_of_ble_eq_true rfl) ?_
  refine Ev.aload_n (pc := 22) dX8_become_22 rfl ?_
  refine Ev.getR (pc := 23) dX8_become_23 fl_RX8_28 lC_1 rfl ?_
  refine Ev.aload_n (pc := 26) dX8_become_26 rfl ?_
  refine Ev.getR (pc := 27) dX8_become_27 fl_RX8_28 lC_73 rfl ?_
  refine eBk h (fun q3 hq3 h => ?_)
  refine Ev.callV (pc := 30) (as := [.ref 95]) (st := []) (z := 0) dX8_become_30 wc_X2_become ml_RX8_70 im_X2_become se_X2_become lC_23 rfl rfl (ev_X2_become_v2  q2 _ hq3) rfl rfl (by decide) rfl rfl (Nat.le_of_ble_eq_true rfl) ?_
  refine Ev.aload_n (pc := 33) dX8_become_33 rfl ?_
  refine Ev.getR (pc := 34) dX8_become_34 fl_RX8_35 lC_1 rfl ?_
  refine Ev.aload_n (pc := 37) dX8_become_37 rfl ?_
  refine Ev.getR (pc := 38) dX8_become_38 fl_RX8_35 lC_73 rfl ?_
  refine eBk h (fun q4 hq4 h => ?_)
  refine Ev.callV (pc := 41) (as := [.ref 101]) (st := []) (z := 0) dX8_become_41 wc_X1_become ml_RX8_73 im_X1_become se_X1_become lC_29 rfl rfl (ev_X1_become_v2  q3 _ hq4) rfl rfl (by decide) rfl rfl (Nat.le_of_ble_eq_true rfl) ?_
  refine Ev.aload_n (pc := 44) dX8_become_44 rfl ?_
  refine Ev.getR (pc := 45) dX8_become_45 fl_RX8_42 lC_1 rfl ?_
  refine Ev.aload_n (pc := 48) dX8_become_48 rfl ?_
  refine Ev.getR (pc := 49) dX8_become_49 fl_RX8_42 lC_73 rfl ?_
  refine eBk h (fun q5 hq5 h => ?_)
  refine Ev.callV (pc := 52) (as := [.ref 112]) (st := []) (z := 0) dX8_become_52 wc_X7_become ml_RX8_76 im_X7_become se_X7_become lC_40 rfl rfl (ev_X7_become_v2  q4 _ hq5) rfl rfl (by decide) rfl rfl (Nat.le_of_ble_eq_true rfl) ?_
  refine Ev.aload_n (pc := 55) dX8_become_55 rfl ?_
  refine Ev.getR (pc := 56) dX8_become_56 fl_RX8_46 lC_73 rfl ?_
  refine Ev.iconst (pc := 59) dX8_become_59 (v := 0) (by decide) ?_
  refine Ev.aload_n (pc := 60) dX8_become_60 rfl ?_
  refine Ev.getR (pc := 61) dX8_become_61 fl_RX8_46 lC_1 rfl ?_
  refine Ev.iconst (pc := 64) dX8_become_64 (v := 0) (by decide) ?_
  refine Ev.sipush (pc := 65) dX8_become_65 (v := 486) (by decide) ?_
  refine Ev.copyIk (pc := 68) (sp2 := 0) (dp2 := 0) (n2 := 486) dX8_become_68 sy_RX8_79 lC_125 lC_53 (by decide) (by decide) (by decide) (by decide) (by decide) (by decide) (by decide) (by decide) (by decide) (Nat.le_of_ble_eq_true rfl) ?_
  obtain rfl := Option.some.inj h
  exact Ev.vret (pc := 71) dX8_become_71 rfl
theorem dX9_undo_0 : decode cX9_undo 0 = .ok (.aload_n 0, 1) := by decide +kernel
theorem dX9_undo_1 : decode cX9_undo 1 = .ok (.getfield 405, 3) := by decide +kernel
theorem dX9_undo_4 : decode cX9_undo 4 = .ok (.ifCond .ne 10, 3) := by decide +kernel
theorem dX9_undo_7 : decode cX9_undo 7 = .ok (.aload_n 0, 1) := by decide +kernel
theorem dX9_undo_8 : decode cX9_undo 8 = .ok (.ldc 108, 2) := by decide +kernel
theorem dX9_undo_10 : decode cX9_undo 10 = .ok (.invokevirtual 42, 3) := by decide +kernel
theorem dX9_undo_13 : decode cX9_undo 13 = .ok (.ireturn, 1) := by decide +kernel
theorem dX9_undo_14 : decode cX9_undo 14 = .ok (.aload_n 0, 1) := by decide +kernel
theorem dX9_undo_15 : decode cX9_undo 15 = .ok (.getfield 12, 3) := by decide +kernel
theorem dX9_undo_18 : decode cX9_undo 18 = .ok (.aload_n 0, 1) := by decide +kernel
theorem dX9_undo_19 : decode cX9_undo 19 = .ok (.getfield 16, 3) := by decide +kernel
theorem dX9_undo_22 : decode cX9_undo 22 = .ok (.invokevirtual 401, 3) := by decide +kernel
theorem dX9_undo_25 : decode cX9_undo 25 = .ok (.aload_n 0, 1) := by decide +kernel
theorem dX9_undo_26 : decode cX9_undo 26 = .ok (.getfield 12, 3) := by decide +kernel
theorem dX9_undo_29 : decode cX9_undo 29 = .ok (.getfield 46, 3) := by decide +kernel
theorem dX9_undo_32 : decode cX9_undo 32 = .ok (.getfield 99, 3) := by decide +kernel
theorem dX9_undo_35 : decode cX9_undo 35 = .ok (.ireturn, 1) := by decide +kernel
def F_X9_undo  (M : eMem) : Option (Int32 × eMem) :=
  if (M.1 0 2) = 0 then
    (F_X9_found (-1000004) M).bind fun q2 =>
    some (q2.1, q2.2)
  else
    (F_X8_become_v2 M).bind fun q1 =>
    some ((q1.1 2 11), q1)
set_option maxRecDepth 100000 in
set_option maxHeartbeats 4000000 in
theorem ev_X9_undo  (M : eMem) (q : (Int32 × eMem)) (h : F_X9_undo  M = some q) : Ev layC 3 m_X9_undo 0 [some (.ref 0)] [] M (some (.int q.1), q.2) := by
  rw [F_X9_undo] at h
  refine Ev.aload_n (pc := 0) dX9_undo_0 rfl ?_
  refine Ev.getI (pc := 1) dX9_undo_1 fl_RX9_405 lC_0 rfl ?_
  refine Ev.if_ne (pc := 4) (tgt := 14) dX9_undo_4 (by decide) (fun c9 => ?_) (fun c9 => ?_)
  · have h := eF h c9
    refine Ev.aload_n (pc := 14) dX9_undo_14 rfl ?_
    refine Ev.getR (pc := 15) dX9_undo_15 fl_RX9_12 lC_0 rfl ?_
    refine Ev.aload_n (pc := 18) dX9_undo_18 rfl ?_
    refine Ev.getR (pc := 19) dX9_undo_19 fl_RX9_16 lC_0 rfl ?_
    refine eBk h (fun q1 hq1 h => ?_)
    refine Ev.callV (pc := 22) (as := [.ref 73]) (st := []) (z := 0) dX9_undo_22 wc_X8_become ml_RX9_401 im_X8_become se_X8_become lC_1 rfl rfl (ev_X8_become_v2  M _ hq1) rfl rfl (by decide) rfl rfl (Nat.le_of_ble_eq_true rfl) ?_
    refine Ev.aload_n (pc := 25) dX9_undo_25 rfl ?_
    refine Ev.getR (pc := 26) dX9_undo_26 fl_RX9_12 lC_0 rfl ?_
    refine Ev.getR (pc := 29) dX9_undo_29 fl_RX9_46 lC_1 rfl ?_
    refine Ev.getI (pc := 32) dX9_undo_32 fl_RX9_99 lC_2 rfl ?_
    obtain rfl := Option.some.inj h
    exact Ev.iret (pc := 35) dX9_undo_35 rfl rfl
  · have h := eT h c9
    refine Ev.aload_n (pc := 7) dX9_undo_7 rfl ?_
    refine Ev.ldc (pc := 8) dX9_undo_8 ld_RX9_108 ?_
    refine eBk h (fun q2 hq2 h => ?_)
    refine Ev.callV (pc := 10) (as := [.int (-1000004)]) (st := []) (z := 1) dX9_undo_10 wc_X9_found ml_RX9_42 im_X9_found se_X9_found lC_0 rfl rfl (ev_X9_found (-1000004) M _ hq2) rfl rfl (by decide) rfl rfl (Nat.le_of_ble_eq_true rfl) ?_
    obtain rfl := Option.some.inj h
    exact Ev.iret (pc := 13) dX9_undo_13 rfl rfl
theorem dX10_undo_0 : decode cX10_undo 0 = .ok (.aload_n 0, 1) := by decide +kernel
theorem dX10_undo_1 : decode cX10_undo 1 = .ok (.getfield 298, 3) := by decide +kernel
theorem dX10_undo_4 : decode cX10_undo 4 = .ok (.ifCond .ne 9, 3) := by decide +kernel
theorem dX10_undo_7 : decode cX10_undo 7 = .ok (.aload_n 0, 1) := by decide +kernel
theorem dX10_undo_8 : decode cX10_undo 8 = .ok (.iconst 4, 1) := by decide +kernel
theorem dX10_undo_9 : decode cX10_undo 9 = .ok (.invokevirtual 66, 3) := by decide +kernel
theorem dX10_undo_12 : decode cX10_undo 12 = .ok (.ireturn, 1) := by decide +kernel
theorem dX10_undo_13 : decode cX10_undo 13 = .ok (.iconst 0, 1) := by decide +kernel
theorem dX10_undo_14 : decode cX10_undo 14 = .ok (.istore_n 1, 1) := by decide +kernel
theorem dX10_undo_15 : decode cX10_undo 15 = .ok (.iload_n 1, 1) := by decide +kernel
theorem dX10_undo_16 : decode cX10_undo 16 = .ok (.sipush 2900, 3) := by decide +kernel
theorem dX10_undo_19 : decode cX10_undo 19 = .ok (.if_icmp .ge 21, 3) := by decide +kernel
theorem dX10_undo_22 : decode cX10_undo 22 = .ok (.aload_n 0, 1) := by decide +kernel
theorem dX10_undo_23 : decode cX10_undo 23 = .ok (.getfield 7, 3) := by decide +kernel
theorem dX10_undo_26 : decode cX10_undo 26 = .ok (.iload_n 1, 1) := by decide +kernel
theorem dX10_undo_27 : decode cX10_undo 27 = .ok (.aload_n 0, 1) := by decide +kernel
theorem dX10_undo_28 : decode cX10_undo 28 = .ok (.getfield 13, 3) := by decide +kernel
theorem dX10_undo_31 : decode cX10_undo 31 = .ok (.iload_n 1, 1) := by decide +kernel
theorem dX10_undo_32 : decode cX10_undo 32 = .ok (.iaload, 1) := by decide +kernel
theorem dX10_undo_33 : decode cX10_undo 33 = .ok (.iastore, 1) := by decide +kernel
theorem dX10_undo_34 : decode cX10_undo 34 = .ok (.iinc 1 1, 3) := by decide +kernel
theorem dX10_undo_37 : decode cX10_undo 37 = .ok (.goto (-22), 3) := by decide +kernel
theorem dX10_undo_40 : decode cX10_undo 40 = .ok (.aload_n 0, 1) := by decide +kernel
theorem dX10_undo_41 : decode cX10_undo 41 = .ok (.getfield 7, 3) := by decide +kernel
theorem dX10_undo_44 : decode cX10_undo 44 = .ok (.iconst 0, 1) := by decide +kernel
theorem dX10_undo_45 : decode cX10_undo 45 = .ok (.iaload, 1) := by decide +kernel
theorem dX10_undo_46 : decode cX10_undo 46 = .ok (.ireturn, 1) := by decide +kernel
def F_X10_undo_15  : Nat → Int32 → eMem → Option (Int32 × eMem)
  | 0, _, _ => none
  | n + 1, v1, M =>
    if v1 < 2900 then
      eG (eIn v1 2900) <|
      eG (eIn v1 2900) <|
      F_X10_undo_15 n (v1 + 1) (eI M 1 v1.toNatClampNeg (M.1 2 v1.toNatClampNeg))
    else
      some ((M.1 1 0), M)
set_option maxRecDepth 100000 in
set_option maxHeartbeats 4000000 in
theorem ev_X10_undo_15  (q : (Int32 × eMem))  : ∀ (fuel : Nat) (v1 : Int32) (M : eMem), F_X10_undo_15 fuel v1 M = some q → Ev layR 1 m_X10_undo 15 [some (.ref 0), some (.int v1)] [] M (some (.int q.1), q.2) := by
  intro fuel
  induction fuel with
  | zero => intro v1 M h; rw [F_X10_undo_15] at h; cases h
  | succ n ih =>
    intro v1 M h
    rw [F_X10_undo_15] at h
    refine Ev.iload_n (pc := 15) dX10_undo_15 rfl ?_
    refine Ev.sipush (pc := 16) dX10_undo_16 (v := 2900) (by decide) ?_
    refine Ev.icmp_ge (pc := 19) (tgt := 40) dX10_undo_19 (by decide) (fun c9 => ?_) (fun c9 => ?_)
    · have h := eF h c9
      refine Ev.aload_n (pc := 40) dX10_undo_40 rfl ?_
      refine Ev.getR (pc := 41) dX10_undo_41 fl_RX10_7 lR_0 rfl ?_
      refine Ev.iconst (pc := 44) dX10_undo_44 (v := 0) (by decide) ?_
      refine Ev.ialdj (pc := 45) dX10_undo_45 (j := 0) lR_1 (by decide) (by decide) ?_
      obtain rfl := Option.some.inj h
      exact Ev.iret (pc := 46) dX10_undo_46 rfl rfl
    · have h := eT h c9
      refine Ev.aload_n (pc := 22) dX10_undo_22 rfl ?_
      refine Ev.getR (pc := 23) dX10_undo_23 fl_RX10_7 lR_0 rfl ?_
      refine Ev.iload_n (pc := 26) dX10_undo_26 rfl ?_
      refine Ev.aload_n (pc := 27) dX10_undo_27 rfl ?_
      refine Ev.getR (pc := 28) dX10_undo_28 fl_RX10_13 lR_0 rfl ?_
      refine Ev.iload_n (pc := 31) dX10_undo_31 rfl ?_
      obtain ⟨g9, h⟩ := eGdB h
      refine Ev.ialdj (pc := 32) dX10_undo_32 (j := v1.toNatClampNeg) lR_2 g9 rfl ?_
      obtain ⟨g9, h⟩ := eGdB h
      refine Ev.iastj (pc := 33) dX10_undo_33 (j := v1.toNatClampNeg) lR_1 g9 rfl ?_
      refine Ev.iincv (pc := 34) dX10_undo_34 (v := 1) (by decide) rfl (by decide) rfl rfl ?_
      refine Ev.goto (pc := 37) (tgt := 15) dX10_undo_37 (by decide) ?_
      exact Ev.fg (ih _ _ h) (And.intro rfl (And.intro rfl trivial))
def F_X10_undo  (M : eMem) : Option (Int32 × eMem) :=
  if (M.1 0 2) = 0 then
    (F_X10_finding 4 M).bind fun q1 =>
    some (q1.1, q1.2)
  else
    F_X10_undo_15 eFuel 0 M
set_option maxRecDepth 100000 in
set_option maxHeartbeats 4000000 in
theorem ev_X10_undo  (M : eMem) (q : (Int32 × eMem)) (h : F_X10_undo  M = some q) : Ev layR 1 m_X10_undo 0 [some (.ref 0), none] [] M (some (.int q.1), q.2) := by
  rw [F_X10_undo] at h
  refine Ev.aload_n (pc := 0) dX10_undo_0 rfl ?_
  refine Ev.getI (pc := 1) dX10_undo_1 fl_RX10_298 lR_0 rfl ?_
  refine Ev.if_ne (pc := 4) (tgt := 13) dX10_undo_4 (by decide) (fun c9 => ?_) (fun c9 => ?_)
  · have h := eF h c9
    refine Ev.iconst (pc := 13) dX10_undo_13 (v := 0) (by decide) ?_
    refine Ev.istore_n (pc := 14) dX10_undo_14 (by decide) rfl rfl ?_
    exact Ev.fg (ev_X10_undo_15 _ _ _ _ h) (And.intro rfl (And.intro rfl trivial))
  · have h := eT h c9
    refine Ev.aload_n (pc := 7) dX10_undo_7 rfl ?_
    refine Ev.iconst (pc := 8) dX10_undo_8 (v := 4) (by decide) ?_
    refine eBk h (fun q1 hq1 h => ?_)
    refine Ev.callV (pc := 9) (as := [.int 4]) (st := []) (z := 0) dX10_undo_9 wc_X10_finding ml_RX10_66 im_X10_finding se_X10_finding lR_0 rfl rfl (ev_X10_finding 4 M _ hq1) rfl rfl (by decide) rfl rfl (Nat.le_of_ble_eq_true rfl) ?_
    obtain rfl := Option.some.inj h
    exact Ev.iret (pc := 12) dX10_undo_12 rfl rfl
theorem dX9_tear_0 : decode cX9_tear 0 = .ok (.aload_n 0, 1) := by decide +kernel
theorem dX9_tear_1 : decode cX9_tear 1 = .ok (.getfield 405, 3) := by decide +kernel
theorem dX9_tear_4 : decode cX9_tear 4 = .ok (.ifCond .eq 7, 3) := by decide +kernel
theorem dX9_tear_7 : decode cX9_tear 7 = .ok (.iconst 1, 1) := by decide +kernel
theorem dX9_tear_8 : decode cX9_tear 8 = .ok (.goto 4, 3) := by decide +kernel
theorem dX9_tear_11 : decode cX9_tear 11 = .ok (.iconst 0, 1) := by decide +kernel
theorem dX9_tear_12 : decode cX9_tear 12 = .ok (.istore_n 1, 1) := by decide +kernel
theorem dX9_tear_13 : decode cX9_tear 13 = .ok (.aload_n 0, 1) := by decide +kernel
theorem dX9_tear_14 : decode cX9_tear 14 = .ok (.iconst 0, 1) := by decide +kernel
theorem dX9_tear_15 : decode cX9_tear 15 = .ok (.putfield 405, 3) := by decide +kernel
theorem dX9_tear_18 : decode cX9_tear 18 = .ok (.iload_n 1, 1) := by decide +kernel
theorem dX9_tear_19 : decode cX9_tear 19 = .ok (.ireturn, 1) := by decide +kernel
def F_X9_tear  (M : eMem) : Option (Int32 × eMem) :=
  if (M.1 0 2) = 0 then
    some (0, (eI M 0 2 0))
  else
    some (1, (eI M 0 2 0))
set_option maxRecDepth 100000 in
set_option maxHeartbeats 4000000 in
theorem ev_X9_tear  (M : eMem) (q : (Int32 × eMem)) (h : F_X9_tear  M = some q) : Ev layC 0 m_X9_tear 0 [some (.ref 0), none] [] M (some (.int q.1), q.2) := by
  rw [F_X9_tear] at h
  refine Ev.aload_n (pc := 0) dX9_tear_0 rfl ?_
  refine Ev.getI (pc := 1) dX9_tear_1 fl_RX9_405 lC_0 rfl ?_
  refine Ev.if_eq (pc := 4) (tgt := 11) dX9_tear_4 (by decide) (fun c9 => ?_) (fun c9 => ?_)
  · have h := eT h c9
    refine Ev.iconst (pc := 11) dX9_tear_11 (v := 0) (by decide) ?_
    refine Ev.istore_n (pc := 12) dX9_tear_12 (by decide) rfl rfl ?_
    refine Ev.aload_n (pc := 13) dX9_tear_13 rfl ?_
    refine Ev.iconst (pc := 14) dX9_tear_14 (v := 0) (by decide) ?_
    refine Ev.putI (pc := 15) dX9_tear_15 fp_RX9_405 lC_0 rfl rfl rfl ?_
    refine Ev.iload_n (pc := 18) dX9_tear_18 rfl ?_
    obtain rfl := Option.some.inj h
    exact Ev.iret (pc := 19) dX9_tear_19 rfl rfl
  · have h := eF h c9
    refine Ev.iconst (pc := 7) dX9_tear_7 (v := 1) (by decide) ?_
    refine Ev.goto (pc := 8) (tgt := 12) dX9_tear_8 (by decide) ?_
    refine Ev.istore_n (pc := 12) dX9_tear_12 (by decide) rfl rfl ?_
    refine Ev.aload_n (pc := 13) dX9_tear_13 rfl ?_
    refine Ev.iconst (pc := 14) dX9_tear_14 (v := 0) (by decide) ?_
    refine Ev.putI (pc := 15) dX9_tear_15 fp_RX9_405 lC_0 rfl rfl rfl ?_
    refine Ev.iload_n (pc := 18) dX9_tear_18 rfl ?_
    obtain rfl := Option.some.inj h
    exact Ev.iret (pc := 19) dX9_tear_19 rfl rfl
theorem dX10_tear_0 : decode cX10_tear 0 = .ok (.aload_n 0, 1) := by decide +kernel
theorem dX10_tear_1 : decode cX10_tear 1 = .ok (.getfield 298, 3) := by decide +kernel
theorem dX10_tear_4 : decode cX10_tear 4 = .ok (.ifCond .eq 7, 3) := by decide +kernel
theorem dX10_tear_7 : decode cX10_tear 7 = .ok (.iconst 1, 1) := by decide +kernel
theorem dX10_tear_8 : decode cX10_tear 8 = .ok (.goto 4, 3) := by decide +kernel
theorem dX10_tear_11 : decode cX10_tear 11 = .ok (.iconst 0, 1) := by decide +kernel
theorem dX10_tear_12 : decode cX10_tear 12 = .ok (.istore_n 1, 1) := by decide +kernel
theorem dX10_tear_13 : decode cX10_tear 13 = .ok (.aload_n 0, 1) := by decide +kernel
theorem dX10_tear_14 : decode cX10_tear 14 = .ok (.iconst 0, 1) := by decide +kernel
theorem dX10_tear_15 : decode cX10_tear 15 = .ok (.putfield 298, 3) := by decide +kernel
theorem dX10_tear_18 : decode cX10_tear 18 = .ok (.iload_n 1, 1) := by decide +kernel
theorem dX10_tear_19 : decode cX10_tear 19 = .ok (.ireturn, 1) := by decide +kernel
def F_X10_tear  (M : eMem) : Option (Int32 × eMem) :=
  if (M.1 0 2) = 0 then
    some (0, (eI M 0 2 0))
  else
    some (1, (eI M 0 2 0))
set_option maxRecDepth 100000 in
set_option maxHeartbeats 4000000 in
theorem ev_X10_tear  (M : eMem) (q : (Int32 × eMem)) (h : F_X10_tear  M = some q) : Ev layR 0 m_X10_tear 0 [some (.ref 0), none] [] M (some (.int q.1), q.2) := by
  rw [F_X10_tear] at h
  refine Ev.aload_n (pc := 0) dX10_tear_0 rfl ?_
  refine Ev.getI (pc := 1) dX10_tear_1 fl_RX10_298 lR_0 rfl ?_
  refine Ev.if_eq (pc := 4) (tgt := 11) dX10_tear_4 (by decide) (fun c9 => ?_) (fun c9 => ?_)
  · have h := eT h c9
    refine Ev.iconst (pc := 11) dX10_tear_11 (v := 0) (by decide) ?_
    refine Ev.istore_n (pc := 12) dX10_tear_12 (by decide) rfl rfl ?_
    refine Ev.aload_n (pc := 13) dX10_tear_13 rfl ?_
    refine Ev.iconst (pc := 14) dX10_tear_14 (v := 0) (by decide) ?_
    refine Ev.putI (pc := 15) dX10_tear_15 fp_RX10_298 lR_0 rfl rfl rfl ?_
    refine Ev.iload_n (pc := 18) dX10_tear_18 rfl ?_
    obtain rfl := Option.some.inj h
    exact Ev.iret (pc := 19) dX10_tear_19 rfl rfl
  · have h := eF h c9
    refine Ev.iconst (pc := 7) dX10_tear_7 (v := 1) (by decide) ?_
    refine Ev.goto (pc := 8) (tgt := 12) dX10_tear_8 (by decide) ?_
    refine Ev.istore_n (pc := 12) dX10_tear_12 (by decide) rfl rfl ?_
    refine Ev.aload_n (pc := 13) dX10_tear_13 rfl ?_
    refine Ev.iconst (pc := 14) dX10_tear_14 (v := 0) (by decide) ?_
    refine Ev.putI (pc := 15) dX10_tear_15 fp_RX10_298 lR_0 rfl rfl rfl ?_
    refine Ev.iload_n (pc := 18) dX10_tear_18 rfl ?_
    obtain rfl := Option.some.inj h
    exact Ev.iret (pc := 19) dX10_tear_19 rfl rfl
