theorem dX8_firstStill_0 : decode cX8_firstStill 0 = .ok (.aload_n 0, 1) := by decide +kernel
theorem dX8_firstStill_1 : decode cX8_firstStill 1 = .ok (.getfield 12, 3) := by decide +kernel
theorem dX8_firstStill_4 : decode cX8_firstStill 4 = .ok (.getfield 85, 3) := by decide +kernel
theorem dX8_firstStill_7 : decode cX8_firstStill 7 = .ok (.sipush 200, 3) := by decide +kernel
theorem dX8_firstStill_10 : decode cX8_firstStill 10 = .ok (.iadd, 1) := by decide +kernel
theorem dX8_firstStill_11 : decode cX8_firstStill 11 = .ok (.istore_n 2, 1) := by decide +kernel
theorem dX8_firstStill_12 : decode cX8_firstStill 12 = .ok (.aload_n 0, 1) := by decide +kernel
theorem dX8_firstStill_13 : decode cX8_firstStill 13 = .ok (.getfield 12, 3) := by decide +kernel
theorem dX8_firstStill_16 : decode cX8_firstStill 16 = .ok (.getfield 85, 3) := by decide +kernel
theorem dX8_firstStill_19 : decode cX8_firstStill 19 = .ok (.istore_n 3, 1) := by decide +kernel
theorem dX8_firstStill_20 : decode cX8_firstStill 20 = .ok (.iload_n 3, 1) := by decide +kernel
theorem dX8_firstStill_21 : decode cX8_firstStill 21 = .ok (.iload_n 2, 1) := by decide +kernel
theorem dX8_firstStill_22 : decode cX8_firstStill 22 = .ok (.if_icmp .gt 53, 3) := by decide +kernel
theorem dX8_firstStill_25 : decode cX8_firstStill 25 = .ok (.aload_n 0, 1) := by decide +kernel
theorem dX8_firstStill_26 : decode cX8_firstStill 26 = .ok (.getfield 12, 3) := by decide +kernel
theorem dX8_firstStill_29 : decode cX8_firstStill 29 = .ok (.getfield 133, 3) := by decide +kernel
theorem dX8_firstStill_32 : decode cX8_firstStill 32 = .ok (.iload_n 1, 1) := by decide +kernel
theorem dX8_firstStill_33 : decode cX8_firstStill 33 = .ok (.iaload, 1) := by decide +kernel
theorem dX8_firstStill_34 : decode cX8_firstStill 34 = .ok (.istore 4, 2) := by decide +kernel
theorem dX8_firstStill_36 : decode cX8_firstStill 36 = .ok (.aload_n 0, 1) := by decide +kernel
theorem dX8_firstStill_37 : decode cX8_firstStill 37 = .ok (.getfield 28, 3) := by decide +kernel
theorem dX8_firstStill_40 : decode cX8_firstStill 40 = .ok (.aload_n 0, 1) := by decide +kernel
theorem dX8_firstStill_41 : decode cX8_firstStill 41 = .ok (.getfield 12, 3) := by decide +kernel
theorem dX8_firstStill_44 : decode cX8_firstStill 44 = .ok (.getfield 136, 3) := by decide +kernel
theorem dX8_firstStill_47 : decode cX8_firstStill 47 = .ok (.iload_n 1, 1) := by decide +kernel
theorem dX8_firstStill_48 : decode cX8_firstStill 48 = .ok (.iaload, 1) := by decide +kernel
theorem dX8_firstStill_49 : decode cX8_firstStill 49 = .ok (.aload_n 0, 1) := by decide +kernel
theorem dX8_firstStill_50 : decode cX8_firstStill 50 = .ok (.getfield 12, 3) := by decide +kernel
theorem dX8_firstStill_53 : decode cX8_firstStill 53 = .ok (.getfield 139, 3) := by decide +kernel
theorem dX8_firstStill_56 : decode cX8_firstStill 56 = .ok (.iload_n 1, 1) := by decide +kernel
theorem dX8_firstStill_57 : decode cX8_firstStill 57 = .ok (.iaload, 1) := by decide +kernel
theorem dX8_firstStill_58 : decode cX8_firstStill 58 = .ok (.iload_n 3, 1) := by decide +kernel
theorem dX8_firstStill_59 : decode cX8_firstStill 59 = .ok (.iload 4, 2) := by decide +kernel
theorem dX8_firstStill_61 : decode cX8_firstStill 61 = .ok (.invokevirtual 142, 3) := by decide +kernel
theorem dX8_firstStill_64 : decode cX8_firstStill 64 = .ok (.ifCond .ne 5, 3) := by decide +kernel
theorem dX8_firstStill_67 : decode cX8_firstStill 67 = .ok (.iload_n 3, 1) := by decide +kernel
theorem dX8_firstStill_68 : decode cX8_firstStill 68 = .ok (.ireturn, 1) := by decide +kernel
theorem dX8_firstStill_69 : decode cX8_firstStill 69 = .ok (.iinc 3 1, 3) := by decide +kernel
theorem dX8_firstStill_72 : decode cX8_firstStill 72 = .ok (.goto (-52), 3) := by decide +kernel
theorem dX8_firstStill_75 : decode cX8_firstStill 75 = .ok (.iconst (-1), 1) := by decide +kernel
theorem dX8_firstStill_76 : decode cX8_firstStill 76 = .ok (.ireturn, 1) := by decide +kernel
def F_X8_firstStill_20  : Nat → eMem → Int32 → Int32 → Int32 → Option Int32
  | 0, _, _, _, _ => none
  | n + 1, M, v1, v2, v3 =>
    if v2 < v3 then
      some (-1)
    else
      eG (eIn v1 40) <|
      eG (eIn v1 40) <|
      eG (eIn v1 40) <|
      (F_X2_hasLow (M.1 4 v1.toNatClampNeg) (M.1 5 v1.toNatClampNeg) v3 (M.1 6 v1.toNatClampNeg) M).bind fun q1 =>
      if q1 = 0 then
        some v3
      else
        F_X8_firstStill_20 n M v1 v2 (v3 + 1)
set_option maxRecDepth 100000 in
set_option maxHeartbeats 4000000 in
theorem ev_X8_firstStill_20  (q : Int32) (M : eMem)  : ∀ (fuel : Nat) (v1 : Int32) (v2 : Int32) (v3 : Int32), F_X8_firstStill_20 fuel M v1 v2 v3 = some q → Ev layC 1 m_X8_firstStill 20 [some (.ref 1), some (.int v1), some (.int v2), some (.int v3), none] [] M (some (.int q), M) := by
  intro fuel
  induction fuel with
  | zero => intro v1 v2 v3 h; rw [F_X8_firstStill_20] at h; cases h
  | succ n ih =>
    intro v1 v2 v3 h
    rw [F_X8_firstStill_20] at h
    refine Ev.iload_n (pc := 20) dX8_firstStill_20 rfl ?_
    refine Ev.iload_n (pc := 21) dX8_firstStill_21 rfl ?_
    refine Ev.icmp_gt (pc := 22) (tgt := 75) dX8_firstStill_22 (by decide) (fun c9 => ?_) (fun c9 => ?_)
    · have h := eT h c9
      refine Ev.iconst (pc := 75) dX8_firstStill_75 (v := (-1)) (by decide) ?_
      obtain rfl := Option.some.inj h
      exact Ev.iret (pc := 76) dX8_firstStill_76 rfl rfl
    · have h := eF h c9
      refine Ev.aload_n (pc := 25) dX8_firstStill_25 rfl ?_
      refine Ev.getR (pc := 26) dX8_firstStill_26 fl_RX8_12 lC_1 rfl ?_
      refine Ev.getR (pc := 29) dX8_firstStill_29 fl_RX8_133 lC_2 rfl ?_
      refine Ev.iload_n (pc := 32) dX8_firstStill_32 rfl ?_
      obtain ⟨g9, h⟩ := eGdB h
      refine Ev.ialdj (pc := 33) dX8_firstStill_33 (j := v1.toNatClampNeg) lC_6 g9 rfl ?_
      refine Ev.istore (pc := 34) dX8_firstStill_34 (by decide) rfl rfl ?_
      refine Ev.aload_n (pc := 36) dX8_firstStill_36 rfl ?_
      refine Ev.getR (pc := 37) dX8_firstStill_37 fl_RX8_28 lC_1 rfl ?_
      refine Ev.aload_n (pc := 40) dX8_firstStill_40 rfl ?_
      refine Ev.getR (pc := 41) dX8_firstStill_41 fl_RX8_12 lC_1 rfl ?_
      refine Ev.getR (pc := 44) dX8_firstStill_44 fl_RX8_136 lC_2 rfl ?_
      refine Ev.iload_n (pc := 47) dX8_firstStill_47 rfl ?_
      obtain ⟨g9, h⟩ := eGdB h
      refine Ev.ialdj (pc := 48) dX8_firstStill_48 (j := v1.toNatClampNeg) lC_4 g9 rfl ?_
      refine Ev.aload_n (pc := 49) dX8_firstStill_49 rfl ?_
      refine Ev.getR (pc := 50) dX8_firstStill_50 fl_RX8_12 lC_1 rfl ?_
      refine Ev.getR (pc := 53) dX8_firstStill_53 fl_RX8_139 lC_2 rfl ?_
      refine Ev.iload_n (pc := 56) dX8_firstStill_56 rfl ?_
      obtain ⟨g9, h⟩ := eGdB h
      refine Ev.ialdj (pc := 57) dX8_firstStill_57 (j := v1.toNatClampNeg) lC_5 g9 rfl ?_
      refine Ev.iload_n (pc := 58) dX8_firstStill_58 rfl ?_
      refine Ev.iload (pc := 59) dX8_firstStill_59 rfl ?_
      refine eBk h (fun q1 hq1 h => ?_)
      refine Ev.callV (pc := 61) (as := [.int (M.1 4 v1.toNatClampNeg), .int (M.1 5 v1.toNatClampNeg), .int v3, .int (M.1 6 v1.toNatClampNeg)]) (st := []) (z := 3) dX8_firstStill_61 wc_X2_hasLow ml_RX8_142 im_X2_hasLow se_X2_hasLow lC_23 rfl rfl (ev_X2_hasLow (M.1 4 v1.toNatClampNeg) (M.1 5 v1.toNatClampNeg) v3 (M.1 6 v1.toNatClampNeg) M _ hq1) rfl rfl (by decide) rfl rfl (Nat.le_of_ble_eq_true rfl) ?_
      refine Ev.if_ne (pc := 64) (tgt := 69) dX8_firstStill_64 (by decide) (fun c9 => ?_) (fun c9 => ?_)
      · have h := eF h c9
        refine Ev.iincv (pc := 69) dX8_firstStill_69 (v := 1) (by decide) rfl (by decide) rfl rfl ?_
        refine Ev.goto (pc := 72) (tgt := 20) dX8_firstStill_72 (by decide) ?_
        exact Ev.fg (ih _ _ _ h) (And.intro rfl (And.intro rfl (And.intro rfl (And.intro rfl trivial))))
      · have h := eT h c9
        refine Ev.iload_n (pc := 67) dX8_firstStill_67 rfl ?_
        obtain rfl := Option.some.inj h
        exact Ev.iret (pc := 68) dX8_firstStill_68 rfl rfl
def F_X8_firstStill (x1 : Int32) (M : eMem) : Option Int32 :=
  F_X8_firstStill_20 eFuel M x1 ((M.1 2 11) + 200) (M.1 2 11)
set_option maxRecDepth 100000 in
set_option maxHeartbeats 4000000 in
theorem ev_X8_firstStill (x1 : Int32) (M : eMem) (q : Int32) (h : F_X8_firstStill x1 M = some q) : Ev layC 1 m_X8_firstStill 0 [some (.ref 1), some (.int x1), none, none, none] [] M (some (.int q), M) := by
  rw [F_X8_firstStill] at h
  refine Ev.aload_n (pc := 0) dX8_firstStill_0 rfl ?_
  refine Ev.getR (pc := 1) dX8_firstStill_1 fl_RX8_12 lC_1 rfl ?_
  refine Ev.getI (pc := 4) dX8_firstStill_4 fl_RX8_85 lC_2 rfl ?_
  refine Ev.sipush (pc := 7) dX8_firstStill_7 (v := 200) (by decide) ?_
  refine Ev.iadd (pc := 10) dX8_firstStill_10 ?_
  refine Ev.istore_n (pc := 11) dX8_firstStill_11 (by decide) rfl rfl ?_
  refine Ev.aload_n (pc := 12) dX8_firstStill_12 rfl ?_
  refine Ev.getR (pc := 13) dX8_firstStill_13 fl_RX8_12 lC_1 rfl ?_
  refine Ev.getI (pc := 16) dX8_firstStill_16 fl_RX8_85 lC_2 rfl ?_
  refine Ev.istore_n (pc := 19) dX8_firstStill_19 (by decide) rfl rfl ?_
  exact Ev.fg (ev_X8_firstStill_20 _ _ _ _ _ _ h) (And.intro rfl (And.intro rfl (And.intro rfl (And.intro rfl trivial))))
theorem dX9_still_0 : decode cX9_still 0 = .ok (.aload_n 0, 1) := by decide +kernel
theorem dX9_still_1 : decode cX9_still 1 = .ok (.getfield 12, 3) := by decide +kernel
theorem dX9_still_4 : decode cX9_still 4 = .ok (.getfield 46, 3) := by decide +kernel
theorem dX9_still_7 : decode cX9_still 7 = .ok (.astore_n 3, 1) := by decide +kernel
theorem dX9_still_8 : decode cX9_still 8 = .ok (.iload_n 1, 1) := by decide +kernel
theorem dX9_still_9 : decode cX9_still 9 = .ok (.aload_n 3, 1) := by decide +kernel
theorem dX9_still_10 : decode cX9_still 10 = .ok (.getfield 68, 3) := by decide +kernel
theorem dX9_still_13 : decode cX9_still 13 = .ok (.invokestatic 37, 3) := by decide +kernel
theorem dX9_still_16 : decode cX9_still 16 = .ok (.ifCond .eq 14, 3) := by decide +kernel
theorem dX9_still_19 : decode cX9_still 19 = .ok (.iload_n 2, 1) := by decide +kernel
theorem dX9_still_20 : decode cX9_still 20 = .ok (.aload_n 3, 1) := by decide +kernel
theorem dX9_still_21 : decode cX9_still 21 = .ok (.getfield 59, 3) := by decide +kernel
theorem dX9_still_24 : decode cX9_still 24 = .ok (.invokestatic 37, 3) := by decide +kernel
theorem dX9_still_27 : decode cX9_still 27 = .ok (.ifCond .ne 10, 3) := by decide +kernel
theorem dX9_still_30 : decode cX9_still 30 = .ok (.aload_n 0, 1) := by decide +kernel
theorem dX9_still_31 : decode cX9_still 31 = .ok (.ldc 41, 2) := by decide +kernel
theorem dX9_still_33 : decode cX9_still 33 = .ok (.invokevirtual 42, 3) := by decide +kernel
theorem dX9_still_36 : decode cX9_still 36 = .ok (.ireturn, 1) := by decide +kernel
theorem dX9_still_37 : decode cX9_still 37 = .ok (.aload_n 3, 1) := by decide +kernel
theorem dX9_still_38 : decode cX9_still 38 = .ok (.iload_n 1, 1) := by decide +kernel
theorem dX9_still_39 : decode cX9_still 39 = .ok (.invokevirtual 75, 3) := by decide +kernel
theorem dX9_still_42 : decode cX9_still 42 = .ok (.ifCond .eq 10, 3) := by decide +kernel
theorem dX9_still_45 : decode cX9_still 45 = .ok (.aload_n 0, 1) := by decide +kernel
theorem dX9_still_46 : decode cX9_still 46 = .ok (.ldc 82, 2) := by decide +kernel
theorem dX9_still_48 : decode cX9_still 48 = .ok (.invokevirtual 42, 3) := by decide +kernel
theorem dX9_still_51 : decode cX9_still 51 = .ok (.ireturn, 1) := by decide +kernel
theorem dX9_still_52 : decode cX9_still 52 = .ok (.aload_n 3, 1) := by decide +kernel
theorem dX9_still_53 : decode cX9_still 53 = .ok (.iload_n 2, 1) := by decide +kernel
theorem dX9_still_54 : decode cX9_still 54 = .ok (.aload_n 3, 1) := by decide +kernel
theorem dX9_still_55 : decode cX9_still 55 = .ok (.getfield 83, 3) := by decide +kernel
theorem dX9_still_58 : decode cX9_still 58 = .ok (.iload_n 1, 1) := by decide +kernel
theorem dX9_still_59 : decode cX9_still 59 = .ok (.iaload, 1) := by decide +kernel
theorem dX9_still_60 : decode cX9_still 60 = .ok (.invokevirtual 86, 3) := by decide +kernel
theorem dX9_still_63 : decode cX9_still 63 = .ok (.ifCond .ne 10, 3) := by decide +kernel
theorem dX9_still_66 : decode cX9_still 66 = .ok (.aload_n 0, 1) := by decide +kernel
theorem dX9_still_67 : decode cX9_still 67 = .ok (.ldc 89, 2) := by decide +kernel
theorem dX9_still_69 : decode cX9_still 69 = .ok (.invokevirtual 42, 3) := by decide +kernel
theorem dX9_still_72 : decode cX9_still 72 = .ok (.ireturn, 1) := by decide +kernel
theorem dX9_still_73 : decode cX9_still 73 = .ok (.aload_n 0, 1) := by decide +kernel
theorem dX9_still_74 : decode cX9_still 74 = .ok (.getfield 12, 3) := by decide +kernel
theorem dX9_still_77 : decode cX9_still 77 = .ok (.iload_n 2, 1) := by decide +kernel
theorem dX9_still_78 : decode cX9_still 78 = .ok (.invokevirtual 105, 3) := by decide +kernel
theorem dX9_still_81 : decode cX9_still 81 = .ok (.istore 4, 2) := by decide +kernel
theorem dX9_still_83 : decode cX9_still 83 = .ok (.iload 4, 2) := by decide +kernel
theorem dX9_still_85 : decode cX9_still 85 = .ok (.iconst (-1), 1) := by decide +kernel
theorem dX9_still_86 : decode cX9_still 86 = .ok (.if_icmp .ne 12, 3) := by decide +kernel
theorem dX9_still_89 : decode cX9_still 89 = .ok (.aload_n 0, 1) := by decide +kernel
theorem dX9_still_90 : decode cX9_still 90 = .ok (.ldc 108, 2) := by decide +kernel
theorem dX9_still_92 : decode cX9_still 92 = .ok (.invokevirtual 42, 3) := by decide +kernel
theorem dX9_still_95 : decode cX9_still 95 = .ok (.goto 5, 3) := by decide +kernel
theorem dX9_still_98 : decode cX9_still 98 = .ok (.iload 4, 2) := by decide +kernel
theorem dX9_still_100 : decode cX9_still 100 = .ok (.ireturn, 1) := by decide +kernel
def F_X9_still (x1 : Int32) (x2 : Int32) (M : eMem) : Option (Int32 × eMem) :=
  (F_X9_isIn x1 (M.1 2 9)).bind fun q1 =>
  if q1 = 0 then
    (F_X9_found (-1000001) M).bind fun q2 =>
    some (q2.1, q2.2)
  else
    (F_X9_isIn x2 (M.1 2 4)).bind fun q3 =>
    if q3 = 0 then
      (F_X9_found (-1000001) M).bind fun q10 =>
      some (q10.1, q10.2)
    else
      (F_X0_isOnRoad x1 M).bind fun q4 =>
      if q4 = 0 then
        eG (eIn x1 12) <|
        (F_X0_leadsFrom x2 (M.1 7 x1.toNatClampNeg) M).bind fun q5 =>
        if q5 = 0 then
          (F_X9_found (-1000003) M).bind fun q8 =>
          some (q8.1, q8.2)
        else
          (F_X8_firstStill x2 M).bind fun q6 =>
          if q6 = (-1) then
            (F_X9_found (-1000004) M).bind fun q7 =>
            some (q7.1, q7.2)
          else
            some (q6, M)
      else
        (F_X9_found (-1000005) M).bind fun q9 =>
        some (q9.1, q9.2)
set_option maxRecDepth 100000 in
set_option maxHeartbeats 4000000 in
theorem ev_X9_still (x1 : Int32) (x2 : Int32) (M : eMem) (q : (Int32 × eMem)) (h : F_X9_still x1 x2 M = some q) : Ev layC 2 m_X9_still 0 [some (.ref 0), some (.int x1), some (.int x2), none, none] [] M (some (.int q.1), q.2) := by
  rw [F_X9_still] at h
  refine Ev.aload_n (pc := 0) dX9_still_0 rfl ?_
  refine Ev.getR (pc := 1) dX9_still_1 fl_RX9_12 lC_0 rfl ?_
  refine Ev.getR (pc := 4) dX9_still_4 fl_RX9_46 lC_1 rfl ?_
  refine Ev.astore_n (pc := 7) dX9_still_7 (by decide) rfl rfl ?_
  refine Ev.iload_n (pc := 8) dX9_still_8 rfl ?_
  refine Ev.aload_n (pc := 9) dX9_still_9 rfl ?_
  refine Ev.getI (pc := 10) dX9_still_10 fl_RX9_68 lC_2 rfl ?_
  refine eBk h (fun q1 hq1 h => ?_)
  refine Ev.callS (pc := 13) (as := [.int x1, .int (M.1 2 9)]) (st := []) (z := 0) dX9_still_13 wc_X9_isIn ml_RX9_37 sm_X9_isIn (ev_X9_isIn x1 (M.1 2 9) M _ hq1) rfl rfl (by decide) rfl rfl (Nat.le_of_ble_eq_true rfl) ?_
  refine Ev.if_eq (pc := 16) (tgt := 30) dX9_still_16 (by decide) (fun c9 => ?_) (fun c9 => ?_)
  · have h := eT h c9
    refine Ev.aload_n (pc := 30) dX9_still_30 rfl ?_
    refine Ev.ldc (pc := 31) dX9_still_31 ld_RX9_41 ?_
    refine eBk h (fun q2 hq2 h => ?_)
    refine Ev.callV (pc := 33) (as := [.int (-1000001)]) (st := []) (z := 1) dX9_still_33 wc_X9_found ml_RX9_42 im_X9_found se_X9_found lC_0 rfl rfl (ev_X9_found (-1000001) M _ hq2) rfl rfl (by decide) rfl rfl (Nat.le_of_ble_eq_true rfl) ?_
    obtain rfl := Option.some.inj h
    exact Ev.iret (pc := 36) dX9_still_36 rfl rfl
  · have h := eF h c9
    refine Ev.iload_n (pc := 19) dX9_still_19 rfl ?_
    refine Ev.aload_n (pc := 20) dX9_still_20 rfl ?_
    refine Ev.getI (pc := 21) dX9_still_21 fl_RX9_59 lC_2 rfl ?_
    refine eBk h (fun q3 hq3 h => ?_)
    refine Ev.callS (pc := 24) (as := [.int x2, .int (M.1 2 4)]) (st := []) (z := 0) dX9_still_24 wc_X9_isIn ml_RX9_37 sm_X9_isIn (ev_X9_isIn x2 (M.1 2 4) M _ hq3) rfl rfl (by decide) rfl rfl (Nat.le_of_ble_eq_true rfl) ?_
    refine Ev.if_ne (pc := 27) (tgt := 37) dX9_still_27 (by decide) (fun c9 => ?_) (fun c9 => ?_)
    · have h := eF h c9
      refine Ev.aload_n (pc := 37) dX9_still_37 rfl ?_
      refine Ev.iload_n (pc := 38) dX9_still_38 rfl ?_
      refine eBk h (fun q4 hq4 h => ?_)
      refine Ev.callV (pc := 39) (as := [.int x1]) (st := []) (z := 0) dX9_still_39 wc_X0_isOnRoad ml_RX9_75 im_X0_isOnRoad se_X0_isOnRoad lC_2 rfl rfl (ev_X0_isOnRoad x1 M _ hq4) rfl rfl (by decide) rfl rfl (Nat.le_of_ble_eq_true rfl) ?_
      refine Ev.if_eq (pc := 42) (tgt := 52) dX9_still_42 (by decide) (fun c9 => ?_) (fun c9 => ?_)
      · have h := eT h c9
        refine Ev.aload_n (pc := 52) dX9_still_52 rfl ?_
        refine Ev.iload_n (pc := 53) dX9_still_53 rfl ?_
        refine Ev.aload_n (pc := 54) dX9_still_54 rfl ?_
        refine Ev.getR (pc := 55) dX9_still_55 fl_RX9_83 lC_2 rfl ?_
        refine Ev.iload_n (pc := 58) dX9_still_58 rfl ?_
        obtain ⟨g9, h⟩ := eGdB h
        refine Ev.ialdj (pc := 59) dX9_still_59 (j := x1.toNatClampNeg) lC_7 g9 rfl ?_
        refine eBk h (fun q5 hq5 h => ?_)
        refine Ev.callV (pc := 60) (as := [.int x2, .int (M.1 7 x1.toNatClampNeg)]) (st := []) (z := 0) dX9_still_60 wc_X0_leadsFrom ml_RX9_86 im_X0_leadsFrom se_X0_leadsFrom lC_2 rfl rfl (ev_X0_leadsFrom x2 (M.1 7 x1.toNatClampNeg) M _ hq5) rfl rfl (by decide) rfl rfl (Nat.le_of_ble_eq_true rfl) ?_
        refine Ev.if_ne (pc := 63) (tgt := 73) dX9_still_63 (by decide) (fun c9 => ?_) (fun c9 => ?_)
        · have h := eF h c9
          refine Ev.aload_n (pc := 73) dX9_still_73 rfl ?_
          refine Ev.getR (pc := 74) dX9_still_74 fl_RX9_12 lC_0 rfl ?_
          refine Ev.iload_n (pc := 77) dX9_still_77 rfl ?_
          refine eBk h (fun q6 hq6 h => ?_)
          refine Ev.callV (pc := 78) (as := [.int x2]) (st := []) (z := 3) dX9_still_78 wc_X8_firstStill ml_RX9_105 im_X8_firstStill se_X8_firstStill lC_1 rfl rfl (ev_X8_firstStill x2 M _ hq6) rfl rfl (by decide) rfl rfl (Nat.le_of_ble_eq_true rfl) ?_
          refine Ev.istore (pc := 81) dX9_still_81 (by decide) rfl rfl ?_
          refine Ev.iload (pc := 83) dX9_still_83 rfl ?_
          refine Ev.iconst (pc := 85) dX9_still_85 (v := (-1)) (by decide) ?_
          refine Ev.icmp_ne (pc := 86) (tgt := 98) dX9_still_86 (by decide) (fun c9 => ?_) (fun c9 => ?_)
          · have h := eF h c9
            refine Ev.iload (pc := 98) dX9_still_98 rfl ?_
            obtain rfl := Option.some.inj h
            exact Ev.iret (pc := 100) dX9_still_100 rfl rfl
          · have h := eT h c9
            refine Ev.aload_n (pc := 89) dX9_still_89 rfl ?_
            refine Ev.ldc (pc := 90) dX9_still_90 ld_RX9_108 ?_
            refine eBk h (fun q7 hq7 h => ?_)
            refine Ev.callV (pc := 92) (as := [.int (-1000004)]) (st := []) (z := 1) dX9_still_92 wc_X9_found ml_RX9_42 im_X9_found se_X9_found lC_0 rfl rfl (ev_X9_found (-1000004) M _ hq7) rfl rfl (by decide) rfl rfl (Nat.le_of_ble_eq_true rfl) ?_
            refine Ev.goto (pc := 95) (tgt := 100) dX9_still_95 (by decide) ?_
            obtain rfl := Option.some.inj h
            exact Ev.iret (pc := 100) dX9_still_100 rfl rfl
        · have h := eT h c9
          refine Ev.aload_n (pc := 66) dX9_still_66 rfl ?_
          refine Ev.ldc (pc := 67) dX9_still_67 ld_RX9_89 ?_
          refine eBk h (fun q8 hq8 h => ?_)
          refine Ev.callV (pc := 69) (as := [.int (-1000003)]) (st := []) (z := 1) dX9_still_69 wc_X9_found ml_RX9_42 im_X9_found se_X9_found lC_0 rfl rfl (ev_X9_found (-1000003) M _ hq8) rfl rfl (by decide) rfl rfl (Nat.le_of_ble_eq_true rfl) ?_
          obtain rfl := Option.some.inj h
          exact Ev.iret (pc := 72) dX9_still_72 rfl rfl
      · have h := eF h c9
        refine Ev.aload_n (pc := 45) dX9_still_45 rfl ?_
        refine Ev.ldc (pc := 46) dX9_still_46 ld_RX9_82 ?_
        refine eBk h (fun q9 hq9 h => ?_)
        refine Ev.callV (pc := 48) (as := [.int (-1000005)]) (st := []) (z := 1) dX9_still_48 wc_X9_found ml_RX9_42 im_X9_found se_X9_found lC_0 rfl rfl (ev_X9_found (-1000005) M _ hq9) rfl rfl (by decide) rfl rfl (Nat.le_of_ble_eq_true rfl) ?_
        obtain rfl := Option.some.inj h
        exact Ev.iret (pc := 51) dX9_still_51 rfl rfl
    · have h := eT h c9
      refine Ev.aload_n (pc := 30) dX9_still_30 rfl ?_
      refine Ev.ldc (pc := 31) dX9_still_31 ld_RX9_41 ?_
      refine eBk h (fun q10 hq10 h => ?_)
      refine Ev.callV (pc := 33) (as := [.int (-1000001)]) (st := []) (z := 1) dX9_still_33 wc_X9_found ml_RX9_42 im_X9_found se_X9_found lC_0 rfl rfl (ev_X9_found (-1000001) M _ hq10) rfl rfl (by decide) rfl rfl (Nat.le_of_ble_eq_true rfl) ?_
      obtain rfl := Option.some.inj h
      exact Ev.iret (pc := 36) dX9_still_36 rfl rfl
theorem dX10_isSeen_0 : decode cX10_isSeen 0 = .ok (.iconst 0, 1) := by decide +kernel
theorem dX10_isSeen_1 : decode cX10_isSeen 1 = .ok (.istore 4, 2) := by decide +kernel
theorem dX10_isSeen_3 : decode cX10_isSeen 3 = .ok (.iconst 0, 1) := by decide +kernel
theorem dX10_isSeen_4 : decode cX10_isSeen 4 = .ok (.istore 5, 2) := by decide +kernel
theorem dX10_isSeen_6 : decode cX10_isSeen 6 = .ok (.iload 5, 2) := by decide +kernel
theorem dX10_isSeen_8 : decode cX10_isSeen 8 = .ok (.aload_n 0, 1) := by decide +kernel
theorem dX10_isSeen_9 : decode cX10_isSeen 9 = .ok (.getfield 7, 3) := by decide +kernel
theorem dX10_isSeen_12 : decode cX10_isSeen 12 = .ok (.bipush 12, 2) := by decide +kernel
theorem dX10_isSeen_14 : decode cX10_isSeen 14 = .ok (.iaload, 1) := by decide +kernel
theorem dX10_isSeen_15 : decode cX10_isSeen 15 = .ok (.if_icmp .ge 119, 3) := by decide +kernel
theorem dX10_isSeen_18 : decode cX10_isSeen 18 = .ok (.sipush 1128, 3) := by decide +kernel
theorem dX10_isSeen_21 : decode cX10_isSeen 21 = .ok (.iconst 4, 1) := by decide +kernel
theorem dX10_isSeen_22 : decode cX10_isSeen 22 = .ok (.iload 5, 2) := by decide +kernel
theorem dX10_isSeen_24 : decode cX10_isSeen 24 = .ok (.imul, 1) := by decide +kernel
theorem dX10_isSeen_25 : decode cX10_isSeen 25 = .ok (.iadd, 1) := by decide +kernel
theorem dX10_isSeen_26 : decode cX10_isSeen 26 = .ok (.istore 6, 2) := by decide +kernel
theorem dX10_isSeen_28 : decode cX10_isSeen 28 = .ok (.aload_n 0, 1) := by decide +kernel
theorem dX10_isSeen_29 : decode cX10_isSeen 29 = .ok (.getfield 7, 3) := by decide +kernel
theorem dX10_isSeen_32 : decode cX10_isSeen 32 = .ok (.iload 6, 2) := by decide +kernel
theorem dX10_isSeen_34 : decode cX10_isSeen 34 = .ok (.iconst 1, 1) := by decide +kernel
theorem dX10_isSeen_35 : decode cX10_isSeen 35 = .ok (.iadd, 1) := by decide +kernel
theorem dX10_isSeen_36 : decode cX10_isSeen 36 = .ok (.iaload, 1) := by decide +kernel
theorem dX10_isSeen_37 : decode cX10_isSeen 37 = .ok (.aload_n 0, 1) := by decide +kernel
theorem dX10_isSeen_38 : decode cX10_isSeen 38 = .ok (.getfield 7, 3) := by decide +kernel
theorem dX10_isSeen_41 : decode cX10_isSeen 41 = .ok (.iload_n 1, 1) := by decide +kernel
theorem dX10_isSeen_42 : decode cX10_isSeen 42 = .ok (.iconst 0, 1) := by decide +kernel
theorem dX10_isSeen_43 : decode cX10_isSeen 43 = .ok (.invokestatic 70, 3) := by decide +kernel
theorem dX10_isSeen_46 : decode cX10_isSeen 46 = .ok (.iaload, 1) := by decide +kernel
theorem dX10_isSeen_47 : decode cX10_isSeen 47 = .ok (.if_icmp .eq 25, 3) := by decide +kernel
theorem dX10_isSeen_50 : decode cX10_isSeen 50 = .ok (.aload_n 0, 1) := by decide +kernel
theorem dX10_isSeen_51 : decode cX10_isSeen 51 = .ok (.getfield 7, 3) := by decide +kernel
theorem dX10_isSeen_54 : decode cX10_isSeen 54 = .ok (.iload 6, 2) := by decide +kernel
theorem dX10_isSeen_56 : decode cX10_isSeen 56 = .ok (.iconst 1, 1) := by decide +kernel
theorem dX10_isSeen_57 : decode cX10_isSeen 57 = .ok (.iadd, 1) := by decide +kernel
theorem dX10_isSeen_58 : decode cX10_isSeen 58 = .ok (.iaload, 1) := by decide +kernel
theorem dX10_isSeen_59 : decode cX10_isSeen 59 = .ok (.aload_n 0, 1) := by decide +kernel
theorem dX10_isSeen_60 : decode cX10_isSeen 60 = .ok (.getfield 7, 3) := by decide +kernel
theorem dX10_isSeen_63 : decode cX10_isSeen 63 = .ok (.iload_n 1, 1) := by decide +kernel
theorem dX10_isSeen_64 : decode cX10_isSeen 64 = .ok (.iconst 1, 1) := by decide +kernel
theorem dX10_isSeen_65 : decode cX10_isSeen 65 = .ok (.invokestatic 70, 3) := by decide +kernel
theorem dX10_isSeen_68 : decode cX10_isSeen 68 = .ok (.iaload, 1) := by decide +kernel
theorem dX10_isSeen_69 : decode cX10_isSeen 69 = .ok (.if_icmp .ne 7, 3) := by decide +kernel
theorem dX10_isSeen_72 : decode cX10_isSeen 72 = .ok (.iconst 1, 1) := by decide +kernel
theorem dX10_isSeen_73 : decode cX10_isSeen 73 = .ok (.goto 4, 3) := by decide +kernel
theorem dX10_isSeen_76 : decode cX10_isSeen 76 = .ok (.iconst 0, 1) := by decide +kernel
theorem dX10_isSeen_77 : decode cX10_isSeen 77 = .ok (.istore 7, 2) := by decide +kernel
theorem dX10_isSeen_79 : decode cX10_isSeen 79 = .ok (.iload 4, 2) := by decide +kernel
theorem dX10_isSeen_81 : decode cX10_isSeen 81 = .ok (.ifCond .ne 40, 3) := by decide +kernel
theorem dX10_isSeen_84 : decode cX10_isSeen 84 = .ok (.iload 7, 2) := by decide +kernel
theorem dX10_isSeen_86 : decode cX10_isSeen 86 = .ok (.ifCond .eq 39, 3) := by decide +kernel
theorem dX10_isSeen_89 : decode cX10_isSeen 89 = .ok (.aload_n 0, 1) := by decide +kernel
theorem dX10_isSeen_90 : decode cX10_isSeen 90 = .ok (.getfield 7, 3) := by decide +kernel
theorem dX10_isSeen_93 : decode cX10_isSeen 93 = .ok (.iload 6, 2) := by decide +kernel
theorem dX10_isSeen_95 : decode cX10_isSeen 95 = .ok (.iconst 2, 1) := by decide +kernel
theorem dX10_isSeen_96 : decode cX10_isSeen 96 = .ok (.iadd, 1) := by decide +kernel
theorem dX10_isSeen_97 : decode cX10_isSeen 97 = .ok (.iaload, 1) := by decide +kernel
theorem dX10_isSeen_98 : decode cX10_isSeen 98 = .ok (.iconst 5, 1) := by decide +kernel
theorem dX10_isSeen_99 : decode cX10_isSeen 99 = .ok (.if_icmp .gt 26, 3) := by decide +kernel
theorem dX10_isSeen_102 : decode cX10_isSeen 102 = .ok (.aload_n 0, 1) := by decide +kernel
theorem dX10_isSeen_103 : decode cX10_isSeen 103 = .ok (.getfield 7, 3) := by decide +kernel
theorem dX10_isSeen_106 : decode cX10_isSeen 106 = .ok (.iload 6, 2) := by decide +kernel
theorem dX10_isSeen_108 : decode cX10_isSeen 108 = .ok (.iaload, 1) := by decide +kernel
theorem dX10_isSeen_109 : decode cX10_isSeen 109 = .ok (.iload_n 2, 1) := by decide +kernel
theorem dX10_isSeen_110 : decode cX10_isSeen 110 = .ok (.iload_n 2, 1) := by decide +kernel
theorem dX10_isSeen_111 : decode cX10_isSeen 111 = .ok (.iload_n 3, 1) := by decide +kernel
theorem dX10_isSeen_112 : decode cX10_isSeen 112 = .ok (.iadd, 1) := by decide +kernel
theorem dX10_isSeen_113 : decode cX10_isSeen 113 = .ok (.iconst 1, 1) := by decide +kernel
theorem dX10_isSeen_114 : decode cX10_isSeen 114 = .ok (.isub, 1) := by decide +kernel
theorem dX10_isSeen_115 : decode cX10_isSeen 115 = .ok (.invokestatic 58, 3) := by decide +kernel
theorem dX10_isSeen_118 : decode cX10_isSeen 118 = .ok (.ifCond .eq 7, 3) := by decide +kernel
theorem dX10_isSeen_121 : decode cX10_isSeen 121 = .ok (.iconst 1, 1) := by decide +kernel
theorem dX10_isSeen_122 : decode cX10_isSeen 122 = .ok (.goto 4, 3) := by decide +kernel
theorem dX10_isSeen_125 : decode cX10_isSeen 125 = .ok (.iconst 0, 1) := by decide +kernel
theorem dX10_isSeen_126 : decode cX10_isSeen 126 = .ok (.istore 4, 2) := by decide +kernel
theorem dX10_isSeen_128 : decode cX10_isSeen 128 = .ok (.iinc 5 1, 3) := by decide +kernel
theorem dX10_isSeen_131 : decode cX10_isSeen 131 = .ok (.goto (-125), 3) := by decide +kernel
theorem dX10_isSeen_134 : decode cX10_isSeen 134 = .ok (.iload 4, 2) := by decide +kernel
theorem dX10_isSeen_136 : decode cX10_isSeen 136 = .ok (.ireturn, 1) := by decide +kernel
def F_X10_isSeen_121 (rec : Int32 → Int32 → Int32 → Int32 → Int32 → Option Int32) (v1 : Int32) (v2 : Int32) (v3 : Int32) (v5 : Int32) (M : eMem) : Option Int32 :=
  rec v1 v2 v3 1 (v5 + 1)
set_option maxRecDepth 100000 in
set_option maxHeartbeats 4000000 in
theorem ev_X10_isSeen_121 (rec : Int32 → Int32 → Int32 → Int32 → Int32 → Option Int32) (q : Int32) (M : eMem) (hrec : ∀ (v1 : Int32) (v2 : Int32) (v3 : Int32) (v4 : Int32) (v5 : Int32), rec v1 v2 v3 v4 v5 = some q → Ev layR 1 m_X10_isSeen 6 [some (.ref 0), some (.int v1), some (.int v2), some (.int v3), some (.int v4), some (.int v5), none, none] [] M (some (.int q), M)) (v1 : Int32) (v2 : Int32) (v3 : Int32) (v5 : Int32) (h : F_X10_isSeen_121 rec v1 v2 v3 v5 M = some q) : Ev layR 1 m_X10_isSeen 121 [some (.ref 0), some (.int v1), some (.int v2), some (.int v3), none, some (.int v5), none, none] [] M (some (.int q), M) := by
  rw [F_X10_isSeen_121] at h
  refine Ev.iconst (pc := 121) dX10_isSeen_121 (v := 1) (by decide) ?_
  refine Ev.goto (pc := 122) (tgt := 126) dX10_isSeen_122 (by decide) ?_
  refine Ev.istore (pc := 126) dX10_isSeen_126 (by decide) rfl rfl ?_
  refine Ev.iincv (pc := 128) dX10_isSeen_128 (v := 1) (by decide) rfl (by decide) rfl rfl ?_
  refine Ev.goto (pc := 131) (tgt := 6) dX10_isSeen_131 (by decide) ?_
  exact Ev.fg (hrec _ _ _ _ _ h) (And.intro rfl (And.intro rfl (And.intro rfl (And.intro rfl (And.intro rfl (And.intro rfl trivial))))))
def F_X10_isSeen_77 (rec : Int32 → Int32 → Int32 → Int32 → Int32 → Option Int32) (v1 : Int32) (v2 : Int32) (v3 : Int32) (v4 : Int32) (v5 : Int32) (v6 : Int32) (s0 : Int32) (M : eMem) : Option Int32 :=
  if v4 = 0 then
    if s0 = 0 then
      rec v1 v2 v3 0 (v5 + 1)
    else
      eG (eIn (v6 + 2) 2900) <|
      if 5 < (M.1 1 (v6 + 2).toNatClampNeg) then
        rec v1 v2 v3 0 (v5 + 1)
      else
        eG (eIn v6 2900) <|
        (F_X10_in (M.1 1 v6.toNatClampNeg) v2 ((v2 + v3) - 1)).bind fun q2 =>
        if q2 = 0 then
          rec v1 v2 v3 0 (v5 + 1)
        else
          F_X10_isSeen_121 (fun v1 v2 v3 v4 v5 => rec v1 v2 v3 v4 v5) v1 v2 v3 v5 M
  else
    F_X10_isSeen_121 (fun v1 v2 v3 v4 v5 => rec v1 v2 v3 v4 v5) v1 v2 v3 v5 M
set_option maxRecDepth 100000 in
set_option maxHeartbeats 4000000 in
theorem ev_X10_isSeen_77 (rec : Int32 → Int32 → Int32 → Int32 → Int32 → Option Int32) (q : Int32) (M : eMem) (hrec : ∀ (v1 : Int32) (v2 : Int32) (v3 : Int32) (v4 : Int32) (v5 : Int32), rec v1 v2 v3 v4 v5 = some q → Ev layR 1 m_X10_isSeen 6 [some (.ref 0), some (.int v1), some (.int v2), some (.int v3), some (.int v4), some (.int v5), none, none] [] M (some (.int q), M)) (v1 : Int32) (v2 : Int32) (v3 : Int32) (v4 : Int32) (v5 : Int32) (v6 : Int32) (s0 : Int32) (h : F_X10_isSeen_77 rec v1 v2 v3 v4 v5 v6 s0 M = some q) : Ev layR 1 m_X10_isSeen 77 [some (.ref 0), some (.int v1), some (.int v2), some (.int v3), some (.int v4), some (.int v5), some (.int v6), none] [.int s0] M (some (.int q), M) := by
  rw [F_X10_isSeen_77] at h
  refine Ev.istore (pc := 77) dX10_isSeen_77 (by decide) rfl rfl ?_
  refine Ev.iload (pc := 79) dX10_isSeen_79 rfl ?_
  refine Ev.if_ne (pc := 81) (tgt := 121) dX10_isSeen_81 (by decide) (fun c9 => ?_) (fun c9 => ?_)
  · have h := eF h c9
    exact Ev.fg (ev_X10_isSeen_121 _ _ _ hrec _ _ _ _ h) (And.intro rfl (And.intro rfl (And.intro rfl (And.intro rfl (And.intro rfl trivial)))))
  · have h := eT h c9
    refine Ev.iload (pc := 84) dX10_isSeen_84 rfl ?_
    refine Ev.if_eq (pc := 86) (tgt := 125) dX10_isSeen_86 (by decide) (fun c9 => ?_) (fun c9 => ?_)
    · have h := eT h c9
      refine Ev.iconst (pc := 125) dX10_isSeen_125 (v := 0) (by decide) ?_
      refine Ev.istore (pc := 126) dX10_isSeen_126 (by decide) rfl rfl ?_
      refine Ev.iincv (pc := 128) dX10_isSeen_128 (v := 1) (by decide) rfl (by decide) rfl rfl ?_
      refine Ev.goto (pc := 131) (tgt := 6) dX10_isSeen_131 (by decide) ?_
      exact Ev.fg (hrec _ _ _ _ _ h) (And.intro rfl (And.intro rfl (And.intro rfl (And.intro rfl (And.intro rfl (And.intro rfl trivial))))))
    · have h := eF h c9
      refine Ev.aload_n (pc := 89) dX10_isSeen_89 rfl ?_
      refine Ev.getR (pc := 90) dX10_isSeen_90 fl_RX10_7 lR_0 rfl ?_
      refine Ev.iload (pc := 93) dX10_isSeen_93 rfl ?_
      refine Ev.iconst (pc := 95) dX10_isSeen_95 (v := 2) (by decide) ?_
      refine Ev.iadd (pc := 96) dX10_isSeen_96 ?_
      obtain ⟨g9, h⟩ := eGdB h
      refine Ev.ialdj (pc := 97) dX10_isSeen_97 (j := (v6 + 2).toNatClampNeg) lR_1 g9 rfl ?_
      refine Ev.iconst (pc := 98) dX10_isSeen_98 (v := 5) (by decide) ?_
      refine Ev.icmp_gt (pc := 99) (tgt := 125) dX10_isSeen_99 (by decide) (fun c9 => ?_) (fun c9 => ?_)
      · have h := eT h c9
        refine Ev.iconst (pc := 125) dX10_isSeen_125 (v := 0) (by decide) ?_
        refine Ev.istore (pc := 126) dX10_isSeen_126 (by decide) rfl rfl ?_
        refine Ev.iincv (pc := 128) dX10_isSeen_128 (v := 1) (by decide) rfl (by decide) rfl rfl ?_
        refine Ev.goto (pc := 131) (tgt := 6) dX10_isSeen_131 (by decide) ?_
        exact Ev.fg (hrec _ _ _ _ _ h) (And.intro rfl (And.intro rfl (And.intro rfl (And.intro rfl (And.intro rfl (And.intro rfl trivial))))))
      · have h := eF h c9
        refine Ev.aload_n (pc := 102) dX10_isSeen_102 rfl ?_
        refine Ev.getR (pc := 103) dX10_isSeen_103 fl_RX10_7 lR_0 rfl ?_
        refine Ev.iload (pc := 106) dX10_isSeen_106 rfl ?_
        obtain ⟨g9, h⟩ := eGdB h
        refine Ev.ialdj (pc := 108) dX10_isSeen_108 (j := v6.toNatClampNeg) lR_1 g9 rfl ?_
        refine Ev.iload_n (pc := 109) dX10_isSeen_109 rfl ?_
        refine Ev.iload_n (pc := 110) dX10_isSeen_110 rfl ?_
        refine Ev.iload_n (pc := 111) dX10_isSeen_111 rfl ?_
        refine Ev.iadd (pc := 112) dX10_isSeen_112 ?_
        refine Ev.iconst (pc := 113) dX10_isSeen_113 (v := 1) (by decide) ?_
        refine Ev.isub (pc := 114) dX10_isSeen_114 ?_
        refine eBk h (fun q2 hq2 h => ?_)
        refine Ev.callS (pc := 115) (as := [.int (M.1 1 v6.toNatClampNeg), .int v2, .int ((v2 + v3) - 1)]) (st := []) (z := 0) dX10_isSeen_115 wc_X10_in ml_RX10_58 sm_X10_in (ev_X10_in (M.1 1 v6.toNatClampNeg) v2 ((v2 + v3) - 1) M _ hq2) rfl rfl (by decide) rfl rfl (Nat.le_of_ble_eq_true rfl) ?_
        refine Ev.if_eq (pc := 118) (tgt := 125) dX10_isSeen_118 (by decide) (fun c9 => ?_) (fun c9 => ?_)
        · have h := eT h c9
          refine Ev.iconst (pc := 125) dX10_isSeen_125 (v := 0) (by decide) ?_
          refine Ev.istore (pc := 126) dX10_isSeen_126 (by decide) rfl rfl ?_
          refine Ev.iincv (pc := 128) dX10_isSeen_128 (v := 1) (by decide) rfl (by decide) rfl rfl ?_
          refine Ev.goto (pc := 131) (tgt := 6) dX10_isSeen_131 (by decide) ?_
          exact Ev.fg (hrec _ _ _ _ _ h) (And.intro rfl (And.intro rfl (And.intro rfl (And.intro rfl (And.intro rfl (And.intro rfl trivial))))))
        · have h := eF h c9
          exact Ev.fg (ev_X10_isSeen_121 _ _ _ hrec _ _ _ _ h) (And.intro rfl (And.intro rfl (And.intro rfl (And.intro rfl (And.intro rfl trivial)))))
def F_X10_isSeen_72 (rec : Int32 → Int32 → Int32 → Int32 → Int32 → Option Int32) (v1 : Int32) (v2 : Int32) (v3 : Int32) (v4 : Int32) (v5 : Int32) (v6 : Int32) (M : eMem) : Option Int32 :=
  F_X10_isSeen_77 (fun v1 v2 v3 v4 v5 => rec v1 v2 v3 v4 v5) v1 v2 v3 v4 v5 v6 1 M
set_option maxRecDepth 100000 in
set_option maxHeartbeats 4000000 in
theorem ev_X10_isSeen_72 (rec : Int32 → Int32 → Int32 → Int32 → Int32 → Option Int32) (q : Int32) (M : eMem) (hrec : ∀ (v1 : Int32) (v2 : Int32) (v3 : Int32) (v4 : Int32) (v5 : Int32), rec v1 v2 v3 v4 v5 = some q → Ev layR 1 m_X10_isSeen 6 [some (.ref 0), some (.int v1), some (.int v2), some (.int v3), some (.int v4), some (.int v5), none, none] [] M (some (.int q), M)) (v1 : Int32) (v2 : Int32) (v3 : Int32) (v4 : Int32) (v5 : Int32) (v6 : Int32) (h : F_X10_isSeen_72 rec v1 v2 v3 v4 v5 v6 M = some q) : Ev layR 1 m_X10_isSeen 72 [some (.ref 0), some (.int v1), some (.int v2), some (.int v3), some (.int v4), some (.int v5), some (.int v6), none] [] M (some (.int q), M) := by
  rw [F_X10_isSeen_72] at h
  refine Ev.iconst (pc := 72) dX10_isSeen_72 (v := 1) (by decide) ?_
  refine Ev.goto (pc := 73) (tgt := 77) dX10_isSeen_73 (by decide) ?_
  exact Ev.fg (ev_X10_isSeen_77 _ _ _ hrec _ _ _ _ _ _ _ h) (And.intro rfl (And.intro rfl (And.intro rfl (And.intro rfl (And.intro rfl (And.intro rfl (And.intro rfl trivial)))))))
def F_X10_isSeen_6  : Nat → eMem → Int32 → Int32 → Int32 → Int32 → Int32 → Option Int32
  | 0, _, _, _, _, _, _ => none
  | n + 1, M, v1, v2, v3, v4, v5 =>
    if v5 < (M.1 1 12) then
      eG (eIn ((1128 + (4 * v5)) + 1) 2900) <|
      (F_X10_road v1 0).bind fun q1 =>
      eG (eIn q1 2900) <|
      if (M.1 1 ((1128 + (4 * v5)) + 1).toNatClampNeg) = (M.1 1 q1.toNatClampNeg) then
        F_X10_isSeen_72 (fun v1 v2 v3 v4 v5 => F_X10_isSeen_6 n M v1 v2 v3 v4 v5) v1 v2 v3 v4 v5 (1128 + (4 * v5)) M
      else
        eG (eIn ((1128 + (4 * v5)) + 1) 2900) <|
        (F_X10_road v1 1).bind fun q3 =>
        eG (eIn q3 2900) <|
        if (M.1 1 ((1128 + (4 * v5)) + 1).toNatClampNeg) = (M.1 1 q3.toNatClampNeg) then
          F_X10_isSeen_72 (fun v1 v2 v3 v4 v5 => F_X10_isSeen_6 n M v1 v2 v3 v4 v5) v1 v2 v3 v4 v5 (1128 + (4 * v5)) M
        else
          F_X10_isSeen_77 (fun v1 v2 v3 v4 v5 => F_X10_isSeen_6 n M v1 v2 v3 v4 v5) v1 v2 v3 v4 v5 (1128 + (4 * v5)) 0 M
    else
      eG (decide (vp_nar .boolean v4 = v4)) <|
      some v4
set_option maxRecDepth 100000 in
set_option maxHeartbeats 4000000 in
theorem ev_X10_isSeen_6  (q : Int32) (M : eMem)  : ∀ (fuel : Nat) (v1 : Int32) (v2 : Int32) (v3 : Int32) (v4 : Int32) (v5 : Int32), F_X10_isSeen_6 fuel M v1 v2 v3 v4 v5 = some q → Ev layR 1 m_X10_isSeen 6 [some (.ref 0), some (.int v1), some (.int v2), some (.int v3), some (.int v4), some (.int v5), none, none] [] M (some (.int q), M) := by
  intro fuel
  induction fuel with
  | zero => intro v1 v2 v3 v4 v5 h; rw [F_X10_isSeen_6] at h; cases h
  | succ n ih =>
    intro v1 v2 v3 v4 v5 h
    rw [F_X10_isSeen_6] at h
    refine Ev.iload (pc := 6) dX10_isSeen_6 rfl ?_
    refine Ev.aload_n (pc := 8) dX10_isSeen_8 rfl ?_
    refine Ev.getR (pc := 9) dX10_isSeen_9 fl_RX10_7 lR_0 rfl ?_
    refine Ev.bipush (pc := 12) dX10_isSeen_12 (v := 12) (by decide) ?_
    refine Ev.ialdj (pc := 14) dX10_isSeen_14 (j := 12) lR_1 (by decide) (by decide) ?_
    refine Ev.icmp_ge (pc := 15) (tgt := 134) dX10_isSeen_15 (by decide) (fun c9 => ?_) (fun c9 => ?_)
    · have h := eF h c9
      refine Ev.iload (pc := 134) dX10_isSeen_134 rfl ?_
      obtain ⟨g9, h⟩ := eGdB h
      have g9 := of_decide_eq_true g9
      obtain rfl := Option.some.inj h
      exact Ev.iret (pc := 136) dX10_isSeen_136 rfl (eNar_boolean g9)
    · have h := eT h c9
      refine Ev.sipush (pc := 18) dX10_isSeen_18 (v := 1128) (by decide) ?_
      refine Ev.iconst (pc := 21) dX10_isSeen_21 (v := 4) (by decide) ?_
      refine Ev.iload (pc := 22) dX10_isSeen_22 rfl ?_
      refine Ev.imul (pc := 24) dX10_isSeen_24 ?_
      refine Ev.iadd (pc := 25) dX10_isSeen_25 ?_
      refine Ev.istore (pc := 26) dX10_isSeen_26 (by decide) rfl rfl ?_
      refine Ev.aload_n (pc := 28) dX10_isSeen_28 rfl ?_
      refine Ev.getR (pc := 29) dX10_isSeen_29 fl_RX10_7 lR_0 rfl ?_
      refine Ev.iload (pc := 32) dX10_isSeen_32 rfl ?_
      refine Ev.iconst (pc := 34) dX10_isSeen_34 (v := 1) (by decide) ?_
      refine Ev.iadd (pc := 35) dX10_isSeen_35 ?_
      obtain ⟨g9, h⟩ := eGdB h
      refine Ev.ialdj (pc := 36) dX10_isSeen_36 (j := ((1128 + (4 * v5)) + 1).toNatClampNeg) lR_1 g9 rfl ?_
      refine Ev.aload_n (pc := 37) dX10_isSeen_37 rfl ?_
      refine Ev.getR (pc := 38) dX10_isSeen_38 fl_RX10_7 lR_0 rfl ?_
      refine Ev.iload_n (pc := 41) dX10_isSeen_41 rfl ?_
      refine Ev.iconst (pc := 42) dX10_isSeen_42 (v := 0) (by decide) ?_
      refine eBk h (fun q1 hq1 h => ?_)
      refine Ev.callS (pc := 43) (as := [.int v1, .int 0]) (st := [.ref 1, .int (M.1 1 ((1128 + (4 * v5)) + 1).toNatClampNeg)]) (z := 0) dX10_isSeen_43 wc_X10_road ml_RX10_70 sm_X10_road (ev_X10_road v1 0 M _ hq1) rfl rfl (by decide) rfl rfl (Nat.le_of_ble_eq_true rfl) ?_
      obtain ⟨g9, h⟩ := eGdB h
      refine Ev.ialdj (pc := 46) dX10_isSeen_46 (j := q1.toNatClampNeg) lR_1 g9 rfl ?_
      refine Ev.icmp_eq (pc := 47) (tgt := 72) dX10_isSeen_47 (by decide) (fun c9 => ?_) (fun c9 => ?_)
      · have h := eT h c9
        exact Ev.fg (ev_X10_isSeen_72 _ _ _ ih _ _ _ _ _ _ h) (And.intro rfl (And.intro rfl (And.intro rfl (And.intro rfl (And.intro rfl (And.intro rfl (And.intro rfl trivial)))))))
      · have h := eF h c9
        refine Ev.aload_n (pc := 50) dX10_isSeen_50 rfl ?_
        refine Ev.getR (pc := 51) dX10_isSeen_51 fl_RX10_7 lR_0 rfl ?_
        refine Ev.iload (pc := 54) dX10_isSeen_54 rfl ?_
        refine Ev.iconst (pc := 56) dX10_isSeen_56 (v := 1) (by decide) ?_
        refine Ev.iadd (pc := 57) dX10_isSeen_57 ?_
        obtain ⟨g9, h⟩ := eGdB h
        refine Ev.ialdj (pc := 58) dX10_isSeen_58 (j := ((1128 + (4 * v5)) + 1).toNatClampNeg) lR_1 g9 rfl ?_
        refine Ev.aload_n (pc := 59) dX10_isSeen_59 rfl ?_
        refine Ev.getR (pc := 60) dX10_isSeen_60 fl_RX10_7 lR_0 rfl ?_
        refine Ev.iload_n (pc := 63) dX10_isSeen_63 rfl ?_
        refine Ev.iconst (pc := 64) dX10_isSeen_64 (v := 1) (by decide) ?_
        refine eBk h (fun q3 hq3 h => ?_)
        refine Ev.callS (pc := 65) (as := [.int v1, .int 1]) (st := [.ref 1, .int (M.1 1 ((1128 + (4 * v5)) + 1).toNatClampNeg)]) (z := 0) dX10_isSeen_65 wc_X10_road ml_RX10_70 sm_X10_road (ev_X10_road v1 1 M _ hq3) rfl rfl (by decide) rfl rfl (Nat.le_of_ble_eq_true rfl) ?_
        obtain ⟨g9, h⟩ := eGdB h
        refine Ev.ialdj (pc := 68) dX10_isSeen_68 (j := q3.toNatClampNeg) lR_1 g9 rfl ?_
        refine Ev.icmp_ne (pc := 69) (tgt := 76) dX10_isSeen_69 (by decide) (fun c9 => ?_) (fun c9 => ?_)
        · have h := eF h c9
          refine Ev.iconst (pc := 76) dX10_isSeen_76 (v := 0) (by decide) ?_
          exact Ev.fg (ev_X10_isSeen_77 _ _ _ ih _ _ _ _ _ _ _ h) (And.intro rfl (And.intro rfl (And.intro rfl (And.intro rfl (And.intro rfl (And.intro rfl (And.intro rfl trivial)))))))
        · have h := eT h c9
          exact Ev.fg (ev_X10_isSeen_72 _ _ _ ih _ _ _ _ _ _ h) (And.intro rfl (And.intro rfl (And.intro rfl (And.intro rfl (And.intro rfl (And.intro rfl (And.intro rfl trivial)))))))
def F_X10_isSeen (x1 : Int32) (x2 : Int32) (x3 : Int32) (M : eMem) : Option Int32 :=
  F_X10_isSeen_6 eFuel M x1 x2 x3 0 0
set_option maxRecDepth 100000 in
set_option maxHeartbeats 4000000 in
theorem ev_X10_isSeen (x1 : Int32) (x2 : Int32) (x3 : Int32) (M : eMem) (q : Int32) (h : F_X10_isSeen x1 x2 x3 M = some q) : Ev layR 1 m_X10_isSeen 0 [some (.ref 0), some (.int x1), some (.int x2), some (.int x3), none, none, none, none] [] M (some (.int q), M) := by
  rw [F_X10_isSeen] at h
  refine Ev.iconst (pc := 0) dX10_isSeen_0 (v := 0) (by decide) ?_
  refine Ev.istore (pc := 1) dX10_isSeen_1 (by decide) rfl rfl ?_
  refine Ev.iconst (pc := 3) dX10_isSeen_3 (v := 0) (by decide) ?_
  refine Ev.istore (pc := 4) dX10_isSeen_4 (by decide) rfl rfl ?_
  exact Ev.fg (ev_X10_isSeen_6 _ _ _ _ _ _ _ _ h) (And.intro rfl (And.intro rfl (And.intro rfl (And.intro rfl (And.intro rfl (And.intro rfl trivial))))))
theorem dX10_still_0 : decode cX10_still 0 = .ok (.aload_n 0, 1) := by decide +kernel
theorem dX10_still_1 : decode cX10_still 1 = .ok (.iload_n 1, 1) := by decide +kernel
theorem dX10_still_2 : decode cX10_still 2 = .ok (.invokevirtual 83, 3) := by decide +kernel
theorem dX10_still_5 : decode cX10_still 5 = .ok (.ifCond .eq 11, 3) := by decide +kernel
theorem dX10_still_8 : decode cX10_still 8 = .ok (.aload_n 0, 1) := by decide +kernel
theorem dX10_still_9 : decode cX10_still 9 = .ok (.iload_n 2, 1) := by decide +kernel
theorem dX10_still_10 : decode cX10_still 10 = .ok (.invokevirtual 86, 3) := by decide +kernel
theorem dX10_still_13 : decode cX10_still 13 = .ok (.ifCond .ne 9, 3) := by decide +kernel
theorem dX10_still_16 : decode cX10_still 16 = .ok (.aload_n 0, 1) := by decide +kernel
theorem dX10_still_17 : decode cX10_still 17 = .ok (.iconst 1, 1) := by decide +kernel
theorem dX10_still_18 : decode cX10_still 18 = .ok (.invokevirtual 66, 3) := by decide +kernel
theorem dX10_still_21 : decode cX10_still 21 = .ok (.ireturn, 1) := by decide +kernel
theorem dX10_still_22 : decode cX10_still 22 = .ok (.aload_n 0, 1) := by decide +kernel
theorem dX10_still_23 : decode cX10_still 23 = .ok (.getfield 7, 3) := by decide +kernel
theorem dX10_still_26 : decode cX10_still 26 = .ok (.iload_n 1, 1) := by decide +kernel
theorem dX10_still_27 : decode cX10_still 27 = .ok (.iconst 2, 1) := by decide +kernel
theorem dX10_still_28 : decode cX10_still 28 = .ok (.invokestatic 74, 3) := by decide +kernel
theorem dX10_still_31 : decode cX10_still 31 = .ok (.iaload, 1) := by decide +kernel
theorem dX10_still_32 : decode cX10_still 32 = .ok (.ifCond .lt 9, 3) := by decide +kernel
theorem dX10_still_35 : decode cX10_still 35 = .ok (.aload_n 0, 1) := by decide +kernel
theorem dX10_still_36 : decode cX10_still 36 = .ok (.iconst 5, 1) := by decide +kernel
theorem dX10_still_37 : decode cX10_still 37 = .ok (.invokevirtual 66, 3) := by decide +kernel
theorem dX10_still_40 : decode cX10_still 40 = .ok (.ireturn, 1) := by decide +kernel
theorem dX10_still_41 : decode cX10_still 41 = .ok (.aload_n 0, 1) := by decide +kernel
theorem dX10_still_42 : decode cX10_still 42 = .ok (.iload_n 1, 1) := by decide +kernel
theorem dX10_still_43 : decode cX10_still 43 = .ok (.iload_n 2, 1) := by decide +kernel
theorem dX10_still_44 : decode cX10_still 44 = .ok (.invokevirtual 92, 3) := by decide +kernel
theorem dX10_still_47 : decode cX10_still 47 = .ok (.ifCond .ne 9, 3) := by decide +kernel
theorem dX10_still_50 : decode cX10_still 50 = .ok (.aload_n 0, 1) := by decide +kernel
theorem dX10_still_51 : decode cX10_still 51 = .ok (.iconst 3, 1) := by decide +kernel
theorem dX10_still_52 : decode cX10_still 52 = .ok (.invokevirtual 66, 3) := by decide +kernel
theorem dX10_still_55 : decode cX10_still 55 = .ok (.ireturn, 1) := by decide +kernel
theorem dX10_still_56 : decode cX10_still 56 = .ok (.aload_n 0, 1) := by decide +kernel
theorem dX10_still_57 : decode cX10_still 57 = .ok (.getfield 7, 3) := by decide +kernel
theorem dX10_still_60 : decode cX10_still 60 = .ok (.iconst 0, 1) := by decide +kernel
theorem dX10_still_61 : decode cX10_still 61 = .ok (.iaload, 1) := by decide +kernel
theorem dX10_still_62 : decode cX10_still 62 = .ok (.istore_n 3, 1) := by decide +kernel
theorem dX10_still_63 : decode cX10_still 63 = .ok (.iload_n 3, 1) := by decide +kernel
theorem dX10_still_64 : decode cX10_still 64 = .ok (.aload_n 0, 1) := by decide +kernel
theorem dX10_still_65 : decode cX10_still 65 = .ok (.getfield 7, 3) := by decide +kernel
theorem dX10_still_68 : decode cX10_still 68 = .ok (.iconst 0, 1) := by decide +kernel
theorem dX10_still_69 : decode cX10_still 69 = .ok (.iaload, 1) := by decide +kernel
theorem dX10_still_70 : decode cX10_still 70 = .ok (.sipush 200, 3) := by decide +kernel
theorem dX10_still_73 : decode cX10_still 73 = .ok (.iadd, 1) := by decide +kernel
theorem dX10_still_74 : decode cX10_still 74 = .ok (.if_icmp .gt 30, 3) := by decide +kernel
theorem dX10_still_77 : decode cX10_still 77 = .ok (.aload_n 0, 1) := by decide +kernel
theorem dX10_still_78 : decode cX10_still 78 = .ok (.iload_n 2, 1) := by decide +kernel
theorem dX10_still_79 : decode cX10_still 79 = .ok (.iload_n 3, 1) := by decide +kernel
theorem dX10_still_80 : decode cX10_still 80 = .ok (.aload_n 0, 1) := by decide +kernel
theorem dX10_still_81 : decode cX10_still 81 = .ok (.getfield 7, 3) := by decide +kernel
theorem dX10_still_84 : decode cX10_still 84 = .ok (.iload_n 2, 1) := by decide +kernel
theorem dX10_still_85 : decode cX10_still 85 = .ok (.iconst 2, 1) := by decide +kernel
theorem dX10_still_86 : decode cX10_still 86 = .ok (.invokestatic 70, 3) := by decide +kernel
theorem dX10_still_89 : decode cX10_still 89 = .ok (.iaload, 1) := by decide +kernel
theorem dX10_still_90 : decode cX10_still 90 = .ok (.invokevirtual 96, 3) := by decide +kernel
theorem dX10_still_93 : decode cX10_still 93 = .ok (.ifCond .ne 5, 3) := by decide +kernel
theorem dX10_still_96 : decode cX10_still 96 = .ok (.iload_n 3, 1) := by decide +kernel
theorem dX10_still_97 : decode cX10_still 97 = .ok (.ireturn, 1) := by decide +kernel
theorem dX10_still_98 : decode cX10_still 98 = .ok (.iinc 3 1, 3) := by decide +kernel
theorem dX10_still_101 : decode cX10_still 101 = .ok (.goto (-38), 3) := by decide +kernel
theorem dX10_still_104 : decode cX10_still 104 = .ok (.aload_n 0, 1) := by decide +kernel
theorem dX10_still_105 : decode cX10_still 105 = .ok (.iconst 4, 1) := by decide +kernel
theorem dX10_still_106 : decode cX10_still 106 = .ok (.invokevirtual 66, 3) := by decide +kernel
theorem dX10_still_109 : decode cX10_still 109 = .ok (.ireturn, 1) := by decide +kernel
def F_X10_still_63  : Nat → Int32 → Int32 → eMem → Option (Int32 × eMem)
  | 0, _, _, _ => none
  | n + 1, v2, v3, M =>
    if ((M.1 1 0) + 200) < v3 then
      (F_X10_finding 4 M).bind fun q6 =>
      some (q6.1, q6.2)
    else
      (F_X10_road v2 2).bind fun q7 =>
      eG (eIn q7 2900) <|
      (F_X10_isSeen v2 v3 (M.1 1 q7.toNatClampNeg) M).bind fun q8 =>
      if q8 = 0 then
        some (v3, M)
      else
        F_X10_still_63 n v2 (v3 + 1) M
set_option maxRecDepth 100000 in
set_option maxHeartbeats 4000000 in
theorem ev_X10_still_63  (q : (Int32 × eMem))  : ∀ (fuel : Nat) (v2 : Int32) (v3 : Int32) (M : eMem), F_X10_still_63 fuel v2 v3 M = some q → Ev layR 2 m_X10_still 63 [some (.ref 0), none, some (.int v2), some (.int v3)] [] M (some (.int q.1), q.2) := by
  intro fuel
  induction fuel with
  | zero => intro v2 v3 M h; rw [F_X10_still_63] at h; cases h
  | succ n ih =>
    intro v2 v3 M h
    rw [F_X10_still_63] at h
    refine Ev.iload_n (pc := 63) dX10_still_63 rfl ?_
    refine Ev.aload_n (pc := 64) dX10_still_64 rfl ?_
    refine Ev.getR (pc := 65) dX10_still_65 fl_RX10_7 lR_0 rfl ?_
    refine Ev.iconst (pc := 68) dX10_still_68 (v := 0) (by decide) ?_
    refine Ev.ialdj (pc := 69) dX10_still_69 (j := 0) lR_1 (by decide) (by decide) ?_
    refine Ev.sipush (pc := 70) dX10_still_70 (v := 200) (by decide) ?_
    refine Ev.iadd (pc := 73) dX10_still_73 ?_
    refine Ev.icmp_gt (pc := 74) (tgt := 104) dX10_still_74 (by decide) (fun c9 => ?_) (fun c9 => ?_)
    · have h := eT h c9
      refine Ev.aload_n (pc := 104) dX10_still_104 rfl ?_
      refine Ev.iconst (pc := 105) dX10_still_105 (v := 4) (by decide) ?_
      refine eBk h (fun q6 hq6 h => ?_)
      refine Ev.callV (pc := 106) (as := [.int 4]) (st := []) (z := 0) dX10_still_106 wc_X10_finding ml_RX10_66 im_X10_finding se_X10_finding lR_0 rfl rfl (ev_X10_finding 4 M _ hq6) rfl rfl (by decide) rfl rfl (Nat.le_of_ble_eq_true rfl) ?_
      obtain rfl := Option.some.inj h
      exact Ev.iret (pc := 109) dX10_still_109 rfl rfl
    · have h := eF h c9
      refine Ev.aload_n (pc := 77) dX10_still_77 rfl ?_
      refine Ev.iload_n (pc := 78) dX10_still_78 rfl ?_
      refine Ev.iload_n (pc := 79) dX10_still_79 rfl ?_
      refine Ev.aload_n (pc := 80) dX10_still_80 rfl ?_
      refine Ev.getR (pc := 81) dX10_still_81 fl_RX10_7 lR_0 rfl ?_
      refine Ev.iload_n (pc := 84) dX10_still_84 rfl ?_
      refine Ev.iconst (pc := 85) dX10_still_85 (v := 2) (by decide) ?_
      refine eBk h (fun q7 hq7 h => ?_)
      refine Ev.callS (pc := 86) (as := [.int v2, .int 2]) (st := [.ref 1, .int v3, .int v2, .ref 0]) (z := 0) dX10_still_86 wc_X10_road ml_RX10_70 sm_X10_road (ev_X10_road v2 2 M _ hq7) rfl rfl (by decide) rfl rfl (Nat.le_of_ble_eq_true rfl) ?_
      obtain ⟨g9, h⟩ := eGdB h
      refine Ev.ialdj (pc := 89) dX10_still_89 (j := q7.toNatClampNeg) lR_1 g9 rfl ?_
      refine eBk h (fun q8 hq8 h => ?_)
      refine Ev.callV (pc := 90) (as := [.int v2, .int v3, .int (M.1 1 q7.toNatClampNeg)]) (st := []) (z := 4) dX10_still_90 wc_X10_isSeen ml_RX10_96 im_X10_isSeen se_X10_isSeen lR_0 rfl rfl (ev_X10_isSeen v2 v3 (M.1 1 q7.toNatClampNeg) M _ hq8) rfl rfl (by decide) rfl rfl (Nat.le_of_ble_eq_true rfl) ?_
      refine Ev.if_ne (pc := 93) (tgt := 98) dX10_still_93 (by decide) (fun c9 => ?_) (fun c9 => ?_)
      · have h := eF h c9
        refine Ev.iincv (pc := 98) dX10_still_98 (v := 1) (by decide) rfl (by decide) rfl rfl ?_
        refine Ev.goto (pc := 101) (tgt := 63) dX10_still_101 (by decide) ?_
        exact Ev.fg (ih _ _ _ h) (And.intro rfl (And.intro rfl (And.intro rfl trivial)))
      · have h := eT h c9
        refine Ev.iload_n (pc := 96) dX10_still_96 rfl ?_
        obtain rfl := Option.some.inj h
        exact Ev.iret (pc := 97) dX10_still_97 rfl rfl
def F_X10_still (x1 : Int32) (x2 : Int32) (M : eMem) : Option (Int32 × eMem) :=
  (F_X10_isUnit x1 M).bind fun q1 =>
  if q1 = 0 then
    (F_X10_finding 1 M).bind fun q2 =>
    some (q2.1, q2.2)
  else
    (F_X10_isRoad x2 M).bind fun q3 =>
    if q3 = 0 then
      (F_X10_finding 1 M).bind fun q11 =>
      some (q11.1, q11.2)
    else
      (F_X10_unitAt x1 2).bind fun q4 =>
      eG (eIn q4 2900) <|
      if (M.1 1 q4.toNatClampNeg) < 0 then
        (F_X10_leads x1 x2 M).bind fun q5 =>
        if q5 = 0 then
          (F_X10_finding 3 M).bind fun q9 =>
          some (q9.1, q9.2)
        else
          F_X10_still_63 eFuel x2 (M.1 1 0) M
      else
        (F_X10_finding 5 M).bind fun q10 =>
        some (q10.1, q10.2)
set_option maxRecDepth 100000 in
set_option maxHeartbeats 4000000 in
theorem ev_X10_still (x1 : Int32) (x2 : Int32) (M : eMem) (q : (Int32 × eMem)) (h : F_X10_still x1 x2 M = some q) : Ev layR 2 m_X10_still 0 [some (.ref 0), some (.int x1), some (.int x2), none] [] M (some (.int q.1), q.2) := by
  rw [F_X10_still] at h
  refine Ev.aload_n (pc := 0) dX10_still_0 rfl ?_
  refine Ev.iload_n (pc := 1) dX10_still_1 rfl ?_
  refine eBk h (fun q1 hq1 h => ?_)
  refine Ev.callV (pc := 2) (as := [.int x1]) (st := []) (z := 0) dX10_still_2 wc_X10_isUnit ml_RX10_83 im_X10_isUnit se_X10_isUnit lR_0 rfl rfl (ev_X10_isUnit x1 M _ hq1) rfl rfl (by decide) rfl rfl (Nat.le_of_ble_eq_true rfl) ?_
  refine Ev.if_eq (pc := 5) (tgt := 16) dX10_still_5 (by decide) (fun c9 => ?_) (fun c9 => ?_)
  · have h := eT h c9
    refine Ev.aload_n (pc := 16) dX10_still_16 rfl ?_
    refine Ev.iconst (pc := 17) dX10_still_17 (v := 1) (by decide) ?_
    refine eBk h (fun q2 hq2 h => ?_)
    refine Ev.callV (pc := 18) (as := [.int 1]) (st := []) (z := 0) dX10_still_18 wc_X10_finding ml_RX10_66 im_X10_finding se_X10_finding lR_0 rfl rfl (ev_X10_finding 1 M _ hq2) rfl rfl (by decide) rfl rfl (Nat.le_of_ble_eq_true rfl) ?_
    obtain rfl := Option.some.inj h
    exact Ev.iret (pc := 21) dX10_still_21 rfl rfl
  · have h := eF h c9
    refine Ev.aload_n (pc := 8) dX10_still_8 rfl ?_
    refine Ev.iload_n (pc := 9) dX10_still_9 rfl ?_
    refine eBk h (fun q3 hq3 h => ?_)
    refine Ev.callV (pc := 10) (as := [.int x2]) (st := []) (z := 0) dX10_still_10 wc_X10_isRoad ml_RX10_86 im_X10_isRoad se_X10_isRoad lR_0 rfl rfl (ev_X10_isRoad x2 M _ hq3) rfl rfl (by decide) rfl rfl (Nat.le_of_ble_eq_true rfl) ?_
    refine Ev.if_ne (pc := 13) (tgt := 22) dX10_still_13 (by decide) (fun c9 => ?_) (fun c9 => ?_)
    · have h := eF h c9
      refine Ev.aload_n (pc := 22) dX10_still_22 rfl ?_
      refine Ev.getR (pc := 23) dX10_still_23 fl_RX10_7 lR_0 rfl ?_
      refine Ev.iload_n (pc := 26) dX10_still_26 rfl ?_
      refine Ev.iconst (pc := 27) dX10_still_27 (v := 2) (by decide) ?_
      refine eBk h (fun q4 hq4 h => ?_)
      refine Ev.callS (pc := 28) (as := [.int x1, .int 2]) (st := [.ref 1]) (z := 0) dX10_still_28 wc_X10_unitAt ml_RX10_74 sm_X10_unitAt (ev_X10_unitAt x1 2 M _ hq4) rfl rfl (by decide) rfl rfl (Nat.le_of_ble_eq_true rfl) ?_
      obtain ⟨g9, h⟩ := eGdB h
      refine Ev.ialdj (pc := 31) dX10_still_31 (j := q4.toNatClampNeg) lR_1 g9 rfl ?_
      refine Ev.if_lt (pc := 32) (tgt := 41) dX10_still_32 (by decide) (fun c9 => ?_) (fun c9 => ?_)
      · have h := eT h c9
        refine Ev.aload_n (pc := 41) dX10_still_41 rfl ?_
        refine Ev.iload_n (pc := 42) dX10_still_42 rfl ?_
        refine Ev.iload_n (pc := 43) dX10_still_43 rfl ?_
        refine eBk h (fun q5 hq5 h => ?_)
        refine Ev.callV (pc := 44) (as := [.int x1, .int x2]) (st := []) (z := 1) dX10_still_44 wc_X10_leads ml_RX10_92 im_X10_leads se_X10_leads lR_0 rfl rfl (ev_X10_leads x1 x2 M _ hq5) rfl rfl (by decide) rfl rfl (Nat.le_of_ble_eq_true rfl) ?_
        refine Ev.if_ne (pc := 47) (tgt := 56) dX10_still_47 (by decide) (fun c9 => ?_) (fun c9 => ?_)
        · have h := eF h c9
          refine Ev.aload_n (pc := 56) dX10_still_56 rfl ?_
          refine Ev.getR (pc := 57) dX10_still_57 fl_RX10_7 lR_0 rfl ?_
          refine Ev.iconst (pc := 60) dX10_still_60 (v := 0) (by decide) ?_
          refine Ev.ialdj (pc := 61) dX10_still_61 (j := 0) lR_1 (by decide) (by decide) ?_
          refine Ev.istore_n (pc := 62) dX10_still_62 (by decide) rfl rfl ?_
          exact Ev.fg (ev_X10_still_63 _ _ _ _ _ h) (And.intro rfl (And.intro rfl (And.intro rfl trivial)))
        · have h := eT h c9
          refine Ev.aload_n (pc := 50) dX10_still_50 rfl ?_
          refine Ev.iconst (pc := 51) dX10_still_51 (v := 3) (by decide) ?_
          refine eBk h (fun q9 hq9 h => ?_)
          refine Ev.callV (pc := 52) (as := [.int 3]) (st := []) (z := 0) dX10_still_52 wc_X10_finding ml_RX10_66 im_X10_finding se_X10_finding lR_0 rfl rfl (ev_X10_finding 3 M _ hq9) rfl rfl (by decide) rfl rfl (Nat.le_of_ble_eq_true rfl) ?_
          obtain rfl := Option.some.inj h
          exact Ev.iret (pc := 55) dX10_still_55 rfl rfl
      · have h := eF h c9
        refine Ev.aload_n (pc := 35) dX10_still_35 rfl ?_
        refine Ev.iconst (pc := 36) dX10_still_36 (v := 5) (by decide) ?_
        refine eBk h (fun q10 hq10 h => ?_)
        refine Ev.callV (pc := 37) (as := [.int 5]) (st := []) (z := 0) dX10_still_37 wc_X10_finding ml_RX10_66 im_X10_finding se_X10_finding lR_0 rfl rfl (ev_X10_finding 5 M _ hq10) rfl rfl (by decide) rfl rfl (Nat.le_of_ble_eq_true rfl) ?_
        obtain rfl := Option.some.inj h
        exact Ev.iret (pc := 40) dX10_still_40 rfl rfl
    · have h := eT h c9
      refine Ev.aload_n (pc := 16) dX10_still_16 rfl ?_
      refine Ev.iconst (pc := 17) dX10_still_17 (v := 1) (by decide) ?_
      refine eBk h (fun q11 hq11 h => ?_)
      refine Ev.callV (pc := 18) (as := [.int 1]) (st := []) (z := 0) dX10_still_18 wc_X10_finding ml_RX10_66 im_X10_finding se_X10_finding lR_0 rfl rfl (ev_X10_finding 1 M _ hq11) rfl rfl (by decide) rfl rfl (Nat.le_of_ble_eq_true rfl) ?_
      obtain rfl := Option.some.inj h
      exact Ev.iret (pc := 21) dX10_still_21 rfl rfl
theorem dX9_weather_0 : decode cX9_weather 0 = .ok (.iload_n 1, 1) := by decide +kernel
theorem dX9_weather_1 : decode cX9_weather 1 = .ok (.iconst 0, 1) := by decide +kernel
theorem dX9_weather_2 : decode cX9_weather 2 = .ok (.bipush 9, 2) := by decide +kernel
theorem dX9_weather_4 : decode cX9_weather 4 = .ok (.invokestatic 55, 3) := by decide +kernel
theorem dX9_weather_7 : decode cX9_weather 7 = .ok (.ifCond .eq 13, 3) := by decide +kernel
theorem dX9_weather_10 : decode cX9_weather 10 = .ok (.iload_n 2, 1) := by decide +kernel
theorem dX9_weather_11 : decode cX9_weather 11 = .ok (.iconst 0, 1) := by decide +kernel
theorem dX9_weather_12 : decode cX9_weather 12 = .ok (.bipush 9, 2) := by decide +kernel
theorem dX9_weather_14 : decode cX9_weather 14 = .ok (.invokestatic 55, 3) := by decide +kernel
theorem dX9_weather_17 : decode cX9_weather 17 = .ok (.ifCond .ne 10, 3) := by decide +kernel
theorem dX9_weather_20 : decode cX9_weather 20 = .ok (.aload_n 0, 1) := by decide +kernel
theorem dX9_weather_21 : decode cX9_weather 21 = .ok (.ldc 41, 2) := by decide +kernel
theorem dX9_weather_23 : decode cX9_weather 23 = .ok (.invokevirtual 42, 3) := by decide +kernel
theorem dX9_weather_26 : decode cX9_weather 26 = .ok (.ireturn, 1) := by decide +kernel
theorem dX9_weather_27 : decode cX9_weather 27 = .ok (.aload_n 0, 1) := by decide +kernel
theorem dX9_weather_28 : decode cX9_weather 28 = .ok (.getfield 12, 3) := by decide +kernel
theorem dX9_weather_31 : decode cX9_weather 31 = .ok (.getfield 46, 3) := by decide +kernel
theorem dX9_weather_34 : decode cX9_weather 34 = .ok (.iload_n 1, 1) := by decide +kernel
theorem dX9_weather_35 : decode cX9_weather 35 = .ok (.putfield 109, 3) := by decide +kernel
theorem dX9_weather_38 : decode cX9_weather 38 = .ok (.aload_n 0, 1) := by decide +kernel
theorem dX9_weather_39 : decode cX9_weather 39 = .ok (.getfield 12, 3) := by decide +kernel
theorem dX9_weather_42 : decode cX9_weather 42 = .ok (.getfield 46, 3) := by decide +kernel
theorem dX9_weather_45 : decode cX9_weather 45 = .ok (.iload_n 2, 1) := by decide +kernel
theorem dX9_weather_46 : decode cX9_weather 46 = .ok (.putfield 112, 3) := by decide +kernel
theorem dX9_weather_49 : decode cX9_weather 49 = .ok (.iconst 1, 1) := by decide +kernel
theorem dX9_weather_50 : decode cX9_weather 50 = .ok (.ireturn, 1) := by decide +kernel
def F_X9_weather (x1 : Int32) (x2 : Int32) (M : eMem) : Option (Int32 × eMem) :=
  (F_X9_isBetween x1 0 9).bind fun q1 =>
  if q1 = 0 then
    (F_X9_found (-1000001) M).bind fun q2 =>
    some (q2.1, q2.2)
  else
    (F_X9_isBetween x2 0 9).bind fun q3 =>
    if q3 = 0 then
      (F_X9_found (-1000001) M).bind fun q4 =>
      some (q4.1, q4.2)
    else
      some (1, (eI (eI M 2 12 x1) 2 13 x2))
set_option maxRecDepth 100000 in
set_option maxHeartbeats 4000000 in
theorem ev_X9_weather (x1 : Int32) (x2 : Int32) (M : eMem) (q : (Int32 × eMem)) (h : F_X9_weather x1 x2 M = some q) : Ev layC 2 m_X9_weather 0 [some (.ref 0), some (.int x1), some (.int x2)] [] M (some (.int q.1), q.2) := by
  rw [F_X9_weather] at h
  refine Ev.iload_n (pc := 0) dX9_weather_0 rfl ?_
  refine Ev.iconst (pc := 1) dX9_weather_1 (v := 0) (by decide) ?_
  refine Ev.bipush (pc := 2) dX9_weather_2 (v := 9) (by decide) ?_
  refine eBk h (fun q1 hq1 h => ?_)
  refine Ev.callS (pc := 4) (as := [.int x1, .int 0, .int 9]) (st := []) (z := 0) dX9_weather_4 wc_X9_isBetween ml_RX9_55 sm_X9_isBetween (ev_X9_isBetween x1 0 9 M _ hq1) rfl rfl (by decide) rfl rfl (Nat.le_of_ble_eq_true rfl) ?_
  refine Ev.if_eq (pc := 7) (tgt := 20) dX9_weather_7 (by decide) (fun c9 => ?_) (fun c9 => ?_)
  · have h := eT h c9
    refine Ev.aload_n (pc := 20) dX9_weather_20 rfl ?_
    refine Ev.ldc (pc := 21) dX9_weather_21 ld_RX9_41 ?_
    refine eBk h (fun q2 hq2 h => ?_)
    refine Ev.callV (pc := 23) (as := [.int (-1000001)]) (st := []) (z := 1) dX9_weather_23 wc_X9_found ml_RX9_42 im_X9_found se_X9_found lC_0 rfl rfl (ev_X9_found (-1000001) M _ hq2) rfl rfl (by decide) rfl rfl (Nat.le_of_ble_eq_true rfl) ?_
    obtain rfl := Option.some.inj h
    exact Ev.iret (pc := 26) dX9_weather_26 rfl rfl
  · have h := eF h c9
    refine Ev.iload_n (pc := 10) dX9_weather_10 rfl ?_
    refine Ev.iconst (pc := 11) dX9_weather_11 (v := 0) (by decide) ?_
    refine Ev.bipush (pc := 12) dX9_weather_12 (v := 9) (by decide) ?_
    refine eBk h (fun q3 hq3 h => ?_)
    refine Ev.callS (pc := 14) (as := [.int x2, .int 0, .int 9]) (st := []) (z := 0) dX9_weather_14 wc_X9_isBetween ml_RX9_55 sm_X9_isBetween (ev_X9_isBetween x2 0 9 M _ hq3) rfl rfl (by decide) rfl rfl (Nat.le_of_ble_eq_true rfl) ?_
    refine Ev.if_ne (pc := 17) (tgt := 27) dX9_weather_17 (by decide) (fun c9 => ?_) (fun c9 => ?_)
    · have h := eF h c9
      refine Ev.aload_n (pc := 27) dX9_weather_27 rfl ?_
      refine Ev.getR (pc := 28) dX9_weather_28 fl_RX9_12 lC_0 rfl ?_
      refine Ev.getR (pc := 31) dX9_weather_31 fl_RX9_46 lC_1 rfl ?_
      refine Ev.iload_n (pc := 34) dX9_weather_34 rfl ?_
      refine Ev.putI (pc := 35) dX9_weather_35 fp_RX9_109 lC_2 rfl rfl rfl ?_
      refine Ev.aload_n (pc := 38) dX9_weather_38 rfl ?_
      refine Ev.getR (pc := 39) dX9_weather_39 fl_RX9_12 lC_0 rfl ?_
      refine Ev.getR (pc := 42) dX9_weather_42 fl_RX9_46 lC_1 rfl ?_
      refine Ev.iload_n (pc := 45) dX9_weather_45 rfl ?_
      refine Ev.putI (pc := 46) dX9_weather_46 fp_RX9_112 lC_2 rfl rfl rfl ?_
      refine Ev.iconst (pc := 49) dX9_weather_49 (v := 1) (by decide) ?_
      obtain rfl := Option.some.inj h
      exact Ev.iret (pc := 50) dX9_weather_50 rfl rfl
    · have h := eT h c9
      refine Ev.aload_n (pc := 20) dX9_weather_20 rfl ?_
      refine Ev.ldc (pc := 21) dX9_weather_21 ld_RX9_41 ?_
      refine eBk h (fun q4 hq4 h => ?_)
      refine Ev.callV (pc := 23) (as := [.int (-1000001)]) (st := []) (z := 1) dX9_weather_23 wc_X9_found ml_RX9_42 im_X9_found se_X9_found lC_0 rfl rfl (ev_X9_found (-1000001) M _ hq4) rfl rfl (by decide) rfl rfl (Nat.le_of_ble_eq_true rfl) ?_
      obtain rfl := Option.some.inj h
      exact Ev.iret (pc := 26) dX9_weather_26 rfl rfl
theorem dX10_weather_0 : decode cX10_weather 0 = .ok (.iload_n 1, 1) := by decide +kernel
theorem dX10_weather_1 : decode cX10_weather 1 = .ok (.iconst 0, 1) := by decide +kernel
theorem dX10_weather_2 : decode cX10_weather 2 = .ok (.bipush 9, 2) := by decide +kernel
theorem dX10_weather_4 : decode cX10_weather 4 = .ok (.invokestatic 58, 3) := by decide +kernel
theorem dX10_weather_7 : decode cX10_weather 7 = .ok (.ifCond .eq 13, 3) := by decide +kernel
theorem dX10_weather_10 : decode cX10_weather 10 = .ok (.iload_n 2, 1) := by decide +kernel
theorem dX10_weather_11 : decode cX10_weather 11 = .ok (.iconst 0, 1) := by decide +kernel
theorem dX10_weather_12 : decode cX10_weather 12 = .ok (.bipush 9, 2) := by decide +kernel
theorem dX10_weather_14 : decode cX10_weather 14 = .ok (.invokestatic 58, 3) := by decide +kernel
theorem dX10_weather_17 : decode cX10_weather 17 = .ok (.ifCond .ne 9, 3) := by decide +kernel
theorem dX10_weather_20 : decode cX10_weather 20 = .ok (.aload_n 0, 1) := by decide +kernel
theorem dX10_weather_21 : decode cX10_weather 21 = .ok (.iconst 1, 1) := by decide +kernel
theorem dX10_weather_22 : decode cX10_weather 22 = .ok (.invokevirtual 66, 3) := by decide +kernel
theorem dX10_weather_25 : decode cX10_weather 25 = .ok (.ireturn, 1) := by decide +kernel
theorem dX10_weather_26 : decode cX10_weather 26 = .ok (.aload_n 0, 1) := by decide +kernel
theorem dX10_weather_27 : decode cX10_weather 27 = .ok (.getfield 7, 3) := by decide +kernel
theorem dX10_weather_30 : decode cX10_weather 30 = .ok (.iconst 1, 1) := by decide +kernel
theorem dX10_weather_31 : decode cX10_weather 31 = .ok (.iload_n 1, 1) := by decide +kernel
theorem dX10_weather_32 : decode cX10_weather 32 = .ok (.iastore, 1) := by decide +kernel
theorem dX10_weather_33 : decode cX10_weather 33 = .ok (.aload_n 0, 1) := by decide +kernel
theorem dX10_weather_34 : decode cX10_weather 34 = .ok (.getfield 7, 3) := by decide +kernel
theorem dX10_weather_37 : decode cX10_weather 37 = .ok (.iconst 2, 1) := by decide +kernel
theorem dX10_weather_38 : decode cX10_weather 38 = .ok (.iload_n 2, 1) := by decide +kernel
theorem dX10_weather_39 : decode cX10_weather 39 = .ok (.iastore, 1) := by decide +kernel
theorem dX10_weather_40 : decode cX10_weather 40 = .ok (.iconst 1, 1) := by decide +kernel
theorem dX10_weather_41 : decode cX10_weather 41 = .ok (.ireturn, 1) := by decide +kernel
def F_X10_weather (x1 : Int32) (x2 : Int32) (M : eMem) : Option (Int32 × eMem) :=
  (F_X10_in x1 0 9).bind fun q1 =>
  if q1 = 0 then
    (F_X10_finding 1 M).bind fun q2 =>
    some (q2.1, q2.2)
  else
    (F_X10_in x2 0 9).bind fun q3 =>
    if q3 = 0 then
      (F_X10_finding 1 M).bind fun q4 =>
      some (q4.1, q4.2)
    else
      some (1, (eI (eI M 1 1 x1) 1 2 x2))
set_option maxRecDepth 100000 in
set_option maxHeartbeats 4000000 in
theorem ev_X10_weather (x1 : Int32) (x2 : Int32) (M : eMem) (q : (Int32 × eMem)) (h : F_X10_weather x1 x2 M = some q) : Ev layR 1 m_X10_weather 0 [some (.ref 0), some (.int x1), some (.int x2)] [] M (some (.int q.1), q.2) := by
  rw [F_X10_weather] at h
  refine Ev.iload_n (pc := 0) dX10_weather_0 rfl ?_
  refine Ev.iconst (pc := 1) dX10_weather_1 (v := 0) (by decide) ?_
  refine Ev.bipush (pc := 2) dX10_weather_2 (v := 9) (by decide) ?_
  refine eBk h (fun q1 hq1 h => ?_)
  refine Ev.callS (pc := 4) (as := [.int x1, .int 0, .int 9]) (st := []) (z := 0) dX10_weather_4 wc_X10_in ml_RX10_58 sm_X10_in (ev_X10_in x1 0 9 M _ hq1) rfl rfl (by decide) rfl rfl (Nat.le_of_ble_eq_true rfl) ?_
  refine Ev.if_eq (pc := 7) (tgt := 20) dX10_weather_7 (by decide) (fun c9 => ?_) (fun c9 => ?_)
  · have h := eT h c9
    refine Ev.aload_n (pc := 20) dX10_weather_20 rfl ?_
    refine Ev.iconst (pc := 21) dX10_weather_21 (v := 1) (by decide) ?_
    refine eBk h (fun q2 hq2 h => ?_)
    refine Ev.callV (pc := 22) (as := [.int 1]) (st := []) (z := 0) dX10_weather_22 wc_X10_finding ml_RX10_66 im_X10_finding se_X10_finding lR_0 rfl rfl (ev_X10_finding 1 M _ hq2) rfl rfl (by decide) rfl rfl (Nat.le_of_ble_eq_true rfl) ?_
    obtain rfl := Option.some.inj h
    exact Ev.iret (pc := 25) dX10_weather_25 rfl rfl
  · have h := eF h c9
    refine Ev.iload_n (pc := 10) dX10_weather_10 rfl ?_
    refine Ev.iconst (pc := 11) dX10_weather_11 (v := 0) (by decide) ?_
    refine Ev.bipush (pc := 12) dX10_weather_12 (v := 9) (by decide) ?_
    refine eBk h (fun q3 hq3 h => ?_)
    refine Ev.callS (pc := 14) (as := [.int x2, .int 0, .int 9]) (st := []) (z := 0) dX10_weather_14 wc_X10_in ml_RX10_58 sm_X10_in (ev_X10_in x2 0 9 M _ hq3) rfl rfl (by decide) rfl rfl (Nat.le_of_ble_eq_true rfl) ?_
    refine Ev.if_ne (pc := 17) (tgt := 26) dX10_weather_17 (by decide) (fun c9 => ?_) (fun c9 => ?_)
    · have h := eF h c9
      refine Ev.aload_n (pc := 26) dX10_weather_26 rfl ?_
      refine Ev.getR (pc := 27) dX10_weather_27 fl_RX10_7 lR_0 rfl ?_
      refine Ev.iconst (pc := 30) dX10_weather_30 (v := 1) (by decide) ?_
      refine Ev.iload_n (pc := 31) dX10_weather_31 rfl ?_
      refine Ev.iastj (pc := 32) dX10_weather_32 (j := 1) lR_1 (by decide) (by decide) ?_
      refine Ev.aload_n (pc := 33) dX10_weather_33 rfl ?_
      refine Ev.getR (pc := 34) dX10_weather_34 fl_RX10_7 lR_0 rfl ?_
      refine Ev.iconst (pc := 37) dX10_weather_37 (v := 2) (by decide) ?_
      refine Ev.iload_n (pc := 38) dX10_weather_38 rfl ?_
      refine Ev.iastj (pc := 39) dX10_weather_39 (j := 2) lR_1 (by decide) (by decide) ?_
      refine Ev.iconst (pc := 40) dX10_weather_40 (v := 1) (by decide) ?_
      obtain rfl := Option.some.inj h
      exact Ev.iret (pc := 41) dX10_weather_41 rfl rfl
    · have h := eT h c9
      refine Ev.aload_n (pc := 20) dX10_weather_20 rfl ?_
      refine Ev.iconst (pc := 21) dX10_weather_21 (v := 1) (by decide) ?_
      refine eBk h (fun q4 hq4 h => ?_)
      refine Ev.callV (pc := 22) (as := [.int 1]) (st := []) (z := 0) dX10_weather_22 wc_X10_finding ml_RX10_66 im_X10_finding se_X10_finding lR_0 rfl rfl (ev_X10_finding 1 M _ hq4) rfl rfl (by decide) rfl rfl (Nat.le_of_ble_eq_true rfl) ?_
      obtain rfl := Option.some.inj h
      exact Ev.iret (pc := 25) dX10_weather_25 rfl rfl
theorem dX9_purse_0 : decode cX9_purse 0 = .ok (.iload_n 1, 1) := by decide +kernel
theorem dX9_purse_1 : decode cX9_purse 1 = .ok (.iconst 0, 1) := by decide +kernel
theorem dX9_purse_2 : decode cX9_purse 2 = .ok (.sipush 900, 3) := by decide +kernel
theorem dX9_purse_5 : decode cX9_purse 5 = .ok (.invokestatic 55, 3) := by decide +kernel
theorem dX9_purse_8 : decode cX9_purse 8 = .ok (.ifCond .eq 14, 3) := by decide +kernel
theorem dX9_purse_11 : decode cX9_purse 11 = .ok (.iload_n 2, 1) := by decide +kernel
theorem dX9_purse_12 : decode cX9_purse 12 = .ok (.iconst 0, 1) := by decide +kernel
theorem dX9_purse_13 : decode cX9_purse 13 = .ok (.sipush 9000, 3) := by decide +kernel
theorem dX9_purse_16 : decode cX9_purse 16 = .ok (.invokestatic 55, 3) := by decide +kernel
theorem dX9_purse_19 : decode cX9_purse 19 = .ok (.ifCond .ne 10, 3) := by decide +kernel
theorem dX9_purse_22 : decode cX9_purse 22 = .ok (.aload_n 0, 1) := by decide +kernel
theorem dX9_purse_23 : decode cX9_purse 23 = .ok (.ldc 41, 2) := by decide +kernel
theorem dX9_purse_25 : decode cX9_purse 25 = .ok (.invokevirtual 42, 3) := by decide +kernel
theorem dX9_purse_28 : decode cX9_purse 28 = .ok (.ireturn, 1) := by decide +kernel
theorem dX9_purse_29 : decode cX9_purse 29 = .ok (.aload_n 0, 1) := by decide +kernel
theorem dX9_purse_30 : decode cX9_purse 30 = .ok (.getfield 12, 3) := by decide +kernel
theorem dX9_purse_33 : decode cX9_purse 33 = .ok (.getfield 46, 3) := by decide +kernel
theorem dX9_purse_36 : decode cX9_purse 36 = .ok (.iload_n 1, 1) := by decide +kernel
theorem dX9_purse_37 : decode cX9_purse 37 = .ok (.putfield 115, 3) := by decide +kernel
theorem dX9_purse_40 : decode cX9_purse 40 = .ok (.aload_n 0, 1) := by decide +kernel
theorem dX9_purse_41 : decode cX9_purse 41 = .ok (.getfield 12, 3) := by decide +kernel
theorem dX9_purse_44 : decode cX9_purse 44 = .ok (.getfield 46, 3) := by decide +kernel
theorem dX9_purse_47 : decode cX9_purse 47 = .ok (.iload_n 2, 1) := by decide +kernel
theorem dX9_purse_48 : decode cX9_purse 48 = .ok (.putfield 118, 3) := by decide +kernel
theorem dX9_purse_51 : decode cX9_purse 51 = .ok (.iconst 1, 1) := by decide +kernel
theorem dX9_purse_52 : decode cX9_purse 52 = .ok (.ireturn, 1) := by decide +kernel
def F_X9_purse (x1 : Int32) (x2 : Int32) (M : eMem) : Option (Int32 × eMem) :=
  (F_X9_isBetween x1 0 900).bind fun q1 =>
  if q1 = 0 then
    (F_X9_found (-1000001) M).bind fun q2 =>
    some (q2.1, q2.2)
  else
    (F_X9_isBetween x2 0 9000).bind fun q3 =>
    if q3 = 0 then
      (F_X9_found (-1000001) M).bind fun q4 =>
      some (q4.1, q4.2)
    else
      some (1, (eI (eI M 2 14 x1) 2 15 x2))
set_option maxRecDepth 100000 in
set_option maxHeartbeats 4000000 in
theorem ev_X9_purse (x1 : Int32) (x2 : Int32) (M : eMem) (q : (Int32 × eMem)) (h : F_X9_purse x1 x2 M = some q) : Ev layC 2 m_X9_purse 0 [some (.ref 0), some (.int x1), some (.int x2)] [] M (some (.int q.1), q.2) := by
  rw [F_X9_purse] at h
  refine Ev.iload_n (pc := 0) dX9_purse_0 rfl ?_
  refine Ev.iconst (pc := 1) dX9_purse_1 (v := 0) (by decide) ?_
  refine Ev.sipush (pc := 2) dX9_purse_2 (v := 900) (by decide) ?_
  refine eBk h (fun q1 hq1 h => ?_)
  refine Ev.callS (pc := 5) (as := [.int x1, .int 0, .int 900]) (st := []) (z := 0) dX9_purse_5 wc_X9_isBetween ml_RX9_55 sm_X9_isBetween (ev_X9_isBetween x1 0 900 M _ hq1) rfl rfl (by decide) rfl rfl (Nat.le_of_ble_eq_true rfl) ?_
  refine Ev.if_eq (pc := 8) (tgt := 22) dX9_purse_8 (by decide) (fun c9 => ?_) (fun c9 => ?_)
  · have h := eT h c9
    refine Ev.aload_n (pc := 22) dX9_purse_22 rfl ?_
    refine Ev.ldc (pc := 23) dX9_purse_23 ld_RX9_41 ?_
    refine eBk h (fun q2 hq2 h => ?_)
    refine Ev.callV (pc := 25) (as := [.int (-1000001)]) (st := []) (z := 1) dX9_purse_25 wc_X9_found ml_RX9_42 im_X9_found se_X9_found lC_0 rfl rfl (ev_X9_found (-1000001) M _ hq2) rfl rfl (by decide) rfl rfl (Nat.le_of_ble_eq_true rfl) ?_
    obtain rfl := Option.some.inj h
    exact Ev.iret (pc := 28) dX9_purse_28 rfl rfl
  · have h := eF h c9
    refine Ev.iload_n (pc := 11) dX9_purse_11 rfl ?_
    refine Ev.iconst (pc := 12) dX9_purse_12 (v := 0) (by decide) ?_
    refine Ev.sipush (pc := 13) dX9_purse_13 (v := 9000) (by decide) ?_
    refine eBk h (fun q3 hq3 h => ?_)
    refine Ev.callS (pc := 16) (as := [.int x2, .int 0, .int 9000]) (st := []) (z := 0) dX9_purse_16 wc_X9_isBetween ml_RX9_55 sm_X9_isBetween (ev_X9_isBetween x2 0 9000 M _ hq3) rfl rfl (by decide) rfl rfl (Nat.le_of_ble_eq_true rfl) ?_
    refine Ev.if_ne (pc := 19) (tgt := 29) dX9_purse_19 (by decide) (fun c9 => ?_) (fun c9 => ?_)
    · have h := eF h c9
      refine Ev.aload_n (pc := 29) dX9_purse_29 rfl ?_
      refine Ev.getR (pc := 30) dX9_purse_30 fl_RX9_12 lC_0 rfl ?_
      refine Ev.getR (pc := 33) dX9_purse_33 fl_RX9_46 lC_1 rfl ?_
      refine Ev.iload_n (pc := 36) dX9_purse_36 rfl ?_
      refine Ev.putI (pc := 37) dX9_purse_37 fp_RX9_115 lC_2 rfl rfl rfl ?_
      refine Ev.aload_n (pc := 40) dX9_purse_40 rfl ?_
      refine Ev.getR (pc := 41) dX9_purse_41 fl_RX9_12 lC_0 rfl ?_
      refine Ev.getR (pc := 44) dX9_purse_44 fl_RX9_46 lC_1 rfl ?_
      refine Ev.iload_n (pc := 47) dX9_purse_47 rfl ?_
      refine Ev.putI (pc := 48) dX9_purse_48 fp_RX9_118 lC_2 rfl rfl rfl ?_
      refine Ev.iconst (pc := 51) dX9_purse_51 (v := 1) (by decide) ?_
      obtain rfl := Option.some.inj h
      exact Ev.iret (pc := 52) dX9_purse_52 rfl rfl
    · have h := eT h c9
      refine Ev.aload_n (pc := 22) dX9_purse_22 rfl ?_
      refine Ev.ldc (pc := 23) dX9_purse_23 ld_RX9_41 ?_
      refine eBk h (fun q4 hq4 h => ?_)
      refine Ev.callV (pc := 25) (as := [.int (-1000001)]) (st := []) (z := 1) dX9_purse_25 wc_X9_found ml_RX9_42 im_X9_found se_X9_found lC_0 rfl rfl (ev_X9_found (-1000001) M _ hq4) rfl rfl (by decide) rfl rfl (Nat.le_of_ble_eq_true rfl) ?_
      obtain rfl := Option.some.inj h
      exact Ev.iret (pc := 28) dX9_purse_28 rfl rfl
theorem dX10_purse_0 : decode cX10_purse 0 = .ok (.iload_n 1, 1) := by decide +kernel
theorem dX10_purse_1 : decode cX10_purse 1 = .ok (.iconst 0, 1) := by decide +kernel
theorem dX10_purse_2 : decode cX10_purse 2 = .ok (.sipush 900, 3) := by decide +kernel
theorem dX10_purse_5 : decode cX10_purse 5 = .ok (.invokestatic 58, 3) := by decide +kernel
theorem dX10_purse_8 : decode cX10_purse 8 = .ok (.ifCond .eq 14, 3) := by decide +kernel
theorem dX10_purse_11 : decode cX10_purse 11 = .ok (.iload_n 2, 1) := by decide +kernel
theorem dX10_purse_12 : decode cX10_purse 12 = .ok (.iconst 0, 1) := by decide +kernel
theorem dX10_purse_13 : decode cX10_purse 13 = .ok (.sipush 9000, 3) := by decide +kernel
theorem dX10_purse_16 : decode cX10_purse 16 = .ok (.invokestatic 58, 3) := by decide +kernel
theorem dX10_purse_19 : decode cX10_purse 19 = .ok (.ifCond .ne 9, 3) := by decide +kernel
theorem dX10_purse_22 : decode cX10_purse 22 = .ok (.aload_n 0, 1) := by decide +kernel
theorem dX10_purse_23 : decode cX10_purse 23 = .ok (.iconst 1, 1) := by decide +kernel
theorem dX10_purse_24 : decode cX10_purse 24 = .ok (.invokevirtual 66, 3) := by decide +kernel
theorem dX10_purse_27 : decode cX10_purse 27 = .ok (.ireturn, 1) := by decide +kernel
theorem dX10_purse_28 : decode cX10_purse 28 = .ok (.aload_n 0, 1) := by decide +kernel
theorem dX10_purse_29 : decode cX10_purse 29 = .ok (.getfield 7, 3) := by decide +kernel
theorem dX10_purse_32 : decode cX10_purse 32 = .ok (.iconst 3, 1) := by decide +kernel
theorem dX10_purse_33 : decode cX10_purse 33 = .ok (.iload_n 1, 1) := by decide +kernel
theorem dX10_purse_34 : decode cX10_purse 34 = .ok (.iastore, 1) := by decide +kernel
theorem dX10_purse_35 : decode cX10_purse 35 = .ok (.aload_n 0, 1) := by decide +kernel
theorem dX10_purse_36 : decode cX10_purse 36 = .ok (.getfield 7, 3) := by decide +kernel
theorem dX10_purse_39 : decode cX10_purse 39 = .ok (.iconst 4, 1) := by decide +kernel
theorem dX10_purse_40 : decode cX10_purse 40 = .ok (.iload_n 2, 1) := by decide +kernel
theorem dX10_purse_41 : decode cX10_purse 41 = .ok (.iastore, 1) := by decide +kernel
theorem dX10_purse_42 : decode cX10_purse 42 = .ok (.iconst 1, 1) := by decide +kernel
theorem dX10_purse_43 : decode cX10_purse 43 = .ok (.ireturn, 1) := by decide +kernel
def F_X10_purse (x1 : Int32) (x2 : Int32) (M : eMem) : Option (Int32 × eMem) :=
  (F_X10_in x1 0 900).bind fun q1 =>
  if q1 = 0 then
    (F_X10_finding 1 M).bind fun q2 =>
    some (q2.1, q2.2)
  else
    (F_X10_in x2 0 9000).bind fun q3 =>
    if q3 = 0 then
      (F_X10_finding 1 M).bind fun q4 =>
      some (q4.1, q4.2)
    else
      some (1, (eI (eI M 1 3 x1) 1 4 x2))
set_option maxRecDepth 100000 in
set_option maxHeartbeats 4000000 in
theorem ev_X10_purse (x1 : Int32) (x2 : Int32) (M : eMem) (q : (Int32 × eMem)) (h : F_X10_purse x1 x2 M = some q) : Ev layR 1 m_X10_purse 0 [some (.ref 0), some (.int x1), some (.int x2)] [] M (some (.int q.1), q.2) := by
  rw [F_X10_purse] at h
  refine Ev.iload_n (pc := 0) dX10_purse_0 rfl ?_
  refine Ev.iconst (pc := 1) dX10_purse_1 (v := 0) (by decide) ?_
  refine Ev.sipush (pc := 2) dX10_purse_2 (v := 900) (by decide) ?_
  refine eBk h (fun q1 hq1 h => ?_)
  refine Ev.callS (pc := 5) (as := [.int x1, .int 0, .int 900]) (st := []) (z := 0) dX10_purse_5 wc_X10_in ml_RX10_58 sm_X10_in (ev_X10_in x1 0 900 M _ hq1) rfl rfl (by decide) rfl rfl (Nat.le_of_ble_eq_true rfl) ?_
  refine Ev.if_eq (pc := 8) (tgt := 22) dX10_purse_8 (by decide) (fun c9 => ?_) (fun c9 => ?_)
  · have h := eT h c9
    refine Ev.aload_n (pc := 22) dX10_purse_22 rfl ?_
    refine Ev.iconst (pc := 23) dX10_purse_23 (v := 1) (by decide) ?_
    refine eBk h (fun q2 hq2 h => ?_)
    refine Ev.callV (pc := 24) (as := [.int 1]) (st := []) (z := 0) dX10_purse_24 wc_X10_finding ml_RX10_66 im_X10_finding se_X10_finding lR_0 rfl rfl (ev_X10_finding 1 M _ hq2) rfl rfl (by decide) rfl rfl (Nat.le_of_ble_eq_true rfl) ?_
    obtain rfl := Option.some.inj h
    exact Ev.iret (pc := 27) dX10_purse_27 rfl rfl
  · have h := eF h c9
    refine Ev.iload_n (pc := 11) dX10_purse_11 rfl ?_
    refine Ev.iconst (pc := 12) dX10_purse_12 (v := 0) (by decide) ?_
    refine Ev.sipush (pc := 13) dX10_purse_13 (v := 9000) (by decide) ?_
    refine eBk h (fun q3 hq3 h => ?_)
    refine Ev.callS (pc := 16) (as := [.int x2, .int 0, .int 9000]) (st := []) (z := 0) dX10_purse_16 wc_X10_in ml_RX10_58 sm_X10_in (ev_X10_in x2 0 9000 M _ hq3) rfl rfl (by decide) rfl rfl (Nat.le_of_ble_eq_true rfl) ?_
    refine Ev.if_ne (pc := 19) (tgt := 28) dX10_purse_19 (by decide) (fun c9 => ?_) (fun c9 => ?_)
    · have h := eF h c9
      refine Ev.aload_n (pc := 28) dX10_purse_28 rfl ?_
      refine Ev.getR (pc := 29) dX10_purse_29 fl_RX10_7 lR_0 rfl ?_
      refine Ev.iconst (pc := 32) dX10_purse_32 (v := 3) (by decide) ?_
      refine Ev.iload_n (pc := 33) dX10_purse_33 rfl ?_
      refine Ev.iastj (pc := 34) dX10_purse_34 (j := 3) lR_1 (by decide) (by decide) ?_
      refine Ev.aload_n (pc := 35) dX10_purse_35 rfl ?_
      refine Ev.getR (pc := 36) dX10_purse_36 fl_RX10_7 lR_0 rfl ?_
      refine Ev.iconst (pc := 39) dX10_purse_39 (v := 4) (by decide) ?_
      refine Ev.iload_n (pc := 40) dX10_purse_40 rfl ?_
      refine Ev.iastj (pc := 41) dX10_purse_41 (j := 4) lR_1 (by decide) (by decide) ?_
      refine Ev.iconst (pc := 42) dX10_purse_42 (v := 1) (by decide) ?_
      obtain rfl := Option.some.inj h
      exact Ev.iret (pc := 43) dX10_purse_43 rfl rfl
    · have h := eT h c9
      refine Ev.aload_n (pc := 22) dX10_purse_22 rfl ?_
      refine Ev.iconst (pc := 23) dX10_purse_23 (v := 1) (by decide) ?_
      refine eBk h (fun q4 hq4 h => ?_)
      refine Ev.callV (pc := 24) (as := [.int 1]) (st := []) (z := 0) dX10_purse_24 wc_X10_finding ml_RX10_66 im_X10_finding se_X10_finding lR_0 rfl rfl (ev_X10_finding 1 M _ hq4) rfl rfl (by decide) rfl rfl (Nat.le_of_ble_eq_true rfl) ?_
      obtain rfl := Option.some.inj h
      exact Ev.iret (pc := 27) dX10_purse_27 rfl rfl
theorem dX9_story_0 : decode cX9_story 0 = .ok (.iload_n 1, 1) := by decide +kernel
theorem dX9_story_1 : decode cX9_story 1 = .ok (.iconst 4, 1) := by decide +kernel
theorem dX9_story_2 : decode cX9_story 2 = .ok (.invokestatic 37, 3) := by decide +kernel
theorem dX9_story_5 : decode cX9_story 5 = .ok (.ifCond .eq 12, 3) := by decide +kernel
theorem dX9_story_8 : decode cX9_story 8 = .ok (.iload_n 2, 1) := by decide +kernel
theorem dX9_story_9 : decode cX9_story 9 = .ok (.bipush 96, 2) := by decide +kernel
theorem dX9_story_11 : decode cX9_story 11 = .ok (.invokestatic 37, 3) := by decide +kernel
theorem dX9_story_14 : decode cX9_story 14 = .ok (.ifCond .ne 10, 3) := by decide +kernel
theorem dX9_story_17 : decode cX9_story 17 = .ok (.aload_n 0, 1) := by decide +kernel
theorem dX9_story_18 : decode cX9_story 18 = .ok (.ldc 41, 2) := by decide +kernel
theorem dX9_story_20 : decode cX9_story 20 = .ok (.invokevirtual 42, 3) := by decide +kernel
theorem dX9_story_23 : decode cX9_story 23 = .ok (.ireturn, 1) := by decide +kernel
theorem dX9_story_24 : decode cX9_story 24 = .ok (.aload_n 0, 1) := by decide +kernel
theorem dX9_story_25 : decode cX9_story 25 = .ok (.getfield 12, 3) := by decide +kernel
theorem dX9_story_28 : decode cX9_story 28 = .ok (.getfield 46, 3) := by decide +kernel
theorem dX9_story_31 : decode cX9_story 31 = .ok (.getfield 121, 3) := by decide +kernel
theorem dX9_story_34 : decode cX9_story 34 = .ok (.iload_n 1, 1) := by decide +kernel
theorem dX9_story_35 : decode cX9_story 35 = .ok (.iaload, 1) := by decide +kernel
theorem dX9_story_36 : decode cX9_story 36 = .ok (.istore_n 3, 1) := by decide +kernel
theorem dX9_story_37 : decode cX9_story 37 = .ok (.aload_n 0, 1) := by decide +kernel
theorem dX9_story_38 : decode cX9_story 38 = .ok (.getfield 12, 3) := by decide +kernel
theorem dX9_story_41 : decode cX9_story 41 = .ok (.getfield 46, 3) := by decide +kernel
theorem dX9_story_44 : decode cX9_story 44 = .ok (.getfield 121, 3) := by decide +kernel
theorem dX9_story_47 : decode cX9_story 47 = .ok (.iload_n 1, 1) := by decide +kernel
theorem dX9_story_48 : decode cX9_story 48 = .ok (.iload_n 2, 1) := by decide +kernel
theorem dX9_story_49 : decode cX9_story 49 = .ok (.iastore, 1) := by decide +kernel
theorem dX9_story_50 : decode cX9_story 50 = .ok (.iload_n 3, 1) := by decide +kernel
theorem dX9_story_51 : decode cX9_story 51 = .ok (.ireturn, 1) := by decide +kernel
def F_X9_story (x1 : Int32) (x2 : Int32) (M : eMem) : Option (Int32 × eMem) :=
  (F_X9_isIn x1 4).bind fun q1 =>
  if q1 = 0 then
    (F_X9_found (-1000001) M).bind fun q2 =>
    some (q2.1, q2.2)
  else
    (F_X9_isIn x2 96).bind fun q3 =>
    if q3 = 0 then
      (F_X9_found (-1000001) M).bind fun q4 =>
      some (q4.1, q4.2)
    else
      eG (eIn x1 4) <|
      eG (eIn x1 4) <|
      some ((M.1 11 x1.toNatClampNeg), (eI M 11 x1.toNatClampNeg x2))
set_option maxRecDepth 100000 in
set_option maxHeartbeats 4000000 in
theorem ev_X9_story (x1 : Int32) (x2 : Int32) (M : eMem) (q : (Int32 × eMem)) (h : F_X9_story x1 x2 M = some q) : Ev layC 2 m_X9_story 0 [some (.ref 0), some (.int x1), some (.int x2), none] [] M (some (.int q.1), q.2) := by
  rw [F_X9_story] at h
  refine Ev.iload_n (pc := 0) dX9_story_0 rfl ?_
  refine Ev.iconst (pc := 1) dX9_story_1 (v := 4) (by decide) ?_
  refine eBk h (fun q1 hq1 h => ?_)
  refine Ev.callS (pc := 2) (as := [.int x1, .int 4]) (st := []) (z := 0) dX9_story_2 wc_X9_isIn ml_RX9_37 sm_X9_isIn (ev_X9_isIn x1 4 M _ hq1) rfl rfl (by decide) rfl rfl (Nat.le_of_ble_eq_true rfl) ?_
  refine Ev.if_eq (pc := 5) (tgt := 17) dX9_story_5 (by decide) (fun c9 => ?_) (fun c9 => ?_)
  · have h := eT h c9
    refine Ev.aload_n (pc := 17) dX9_story_17 rfl ?_
    refine Ev.ldc (pc := 18) dX9_story_18 ld_RX9_41 ?_
    refine eBk h (fun q2 hq2 h => ?_)
    refine Ev.callV (pc := 20) (as := [.int (-1000001)]) (st := []) (z := 1) dX9_story_20 wc_X9_found ml_RX9_42 im_X9_found se_X9_found lC_0 rfl rfl (ev_X9_found (-1000001) M _ hq2) rfl rfl (by decide) rfl rfl (Nat.le_of_ble_eq_true rfl) ?_
    obtain rfl := Option.some.inj h
    exact Ev.iret (pc := 23) dX9_story_23 rfl rfl
  · have h := eF h c9
    refine Ev.iload_n (pc := 8) dX9_story_8 rfl ?_
    refine Ev.bipush (pc := 9) dX9_story_9 (v := 96) (by decide) ?_
    refine eBk h (fun q3 hq3 h => ?_)
    refine Ev.callS (pc := 11) (as := [.int x2, .int 96]) (st := []) (z := 0) dX9_story_11 wc_X9_isIn ml_RX9_37 sm_X9_isIn (ev_X9_isIn x2 96 M _ hq3) rfl rfl (by decide) rfl rfl (Nat.le_of_ble_eq_true rfl) ?_
    refine Ev.if_ne (pc := 14) (tgt := 24) dX9_story_14 (by decide) (fun c9 => ?_) (fun c9 => ?_)
    · have h := eF h c9
      refine Ev.aload_n (pc := 24) dX9_story_24 rfl ?_
      refine Ev.getR (pc := 25) dX9_story_25 fl_RX9_12 lC_0 rfl ?_
      refine Ev.getR (pc := 28) dX9_story_28 fl_RX9_46 lC_1 rfl ?_
      refine Ev.getR (pc := 31) dX9_story_31 fl_RX9_121 lC_2 rfl ?_
      refine Ev.iload_n (pc := 34) dX9_story_34 rfl ?_
      obtain ⟨g9, h⟩ := eGdB h
      refine Ev.ialdj (pc := 35) dX9_story_35 (j := x1.toNatClampNeg) lC_11 g9 rfl ?_
      refine Ev.istore_n (pc := 36) dX9_story_36 (by decide) rfl rfl ?_
      refine Ev.aload_n (pc := 37) dX9_story_37 rfl ?_
      refine Ev.getR (pc := 38) dX9_story_38 fl_RX9_12 lC_0 rfl ?_
      refine Ev.getR (pc := 41) dX9_story_41 fl_RX9_46 lC_1 rfl ?_
      refine Ev.getR (pc := 44) dX9_story_44 fl_RX9_121 lC_2 rfl ?_
      refine Ev.iload_n (pc := 47) dX9_story_47 rfl ?_
      refine Ev.iload_n (pc := 48) dX9_story_48 rfl ?_
      obtain ⟨g9, h⟩ := eGdB h
      refine Ev.iastj (pc := 49) dX9_story_49 (j := x1.toNatClampNeg) lC_11 g9 rfl ?_
      refine Ev.iload_n (pc := 50) dX9_story_50 rfl ?_
      obtain rfl := Option.some.inj h
      exact Ev.iret (pc := 51) dX9_story_51 rfl rfl
    · have h := eT h c9
      refine Ev.aload_n (pc := 17) dX9_story_17 rfl ?_
      refine Ev.ldc (pc := 18) dX9_story_18 ld_RX9_41 ?_
      refine eBk h (fun q4 hq4 h => ?_)
      refine Ev.callV (pc := 20) (as := [.int (-1000001)]) (st := []) (z := 1) dX9_story_20 wc_X9_found ml_RX9_42 im_X9_found se_X9_found lC_0 rfl rfl (ev_X9_found (-1000001) M _ hq4) rfl rfl (by decide) rfl rfl (Nat.le_of_ble_eq_true rfl) ?_
      obtain rfl := Option.some.inj h
      exact Ev.iret (pc := 23) dX9_story_23 rfl rfl
theorem dX10_isStory_0 : decode cX10_isStory 0 = .ok (.iload_n 0, 1) := by decide +kernel
theorem dX10_isStory_1 : decode cX10_isStory 1 = .ok (.iconst 0, 1) := by decide +kernel
theorem dX10_isStory_2 : decode cX10_isStory 2 = .ok (.iconst 3, 1) := by decide +kernel
theorem dX10_isStory_3 : decode cX10_isStory 3 = .ok (.invokestatic 58, 3) := by decide +kernel
theorem dX10_isStory_6 : decode cX10_isStory 6 = .ok (.ireturn, 1) := by decide +kernel
def F_X10_isStory (x0 : Int32) : Option Int32 :=
  (F_X10_in x0 0 3).bind fun q1 =>
  eG (decide (vp_nar .boolean q1 = q1)) <|
  some q1
set_option maxRecDepth 100000 in
set_option maxHeartbeats 4000000 in
theorem ev_X10_isStory {lay : List eLC} (x0 : Int32) (M : eMem) (q : Int32) (h : F_X10_isStory x0 = some q) : Ev lay 1 m_X10_isStory 0 [some (.int x0)] [] M (some (.int q), M) := by
  rw [F_X10_isStory] at h
  refine Ev.iload_n (pc := 0) dX10_isStory_0 rfl ?_
  refine Ev.iconst (pc := 1) dX10_isStory_1 (v := 0) (by decide) ?_
  refine Ev.iconst (pc := 2) dX10_isStory_2 (v := 3) (by decide) ?_
  refine eBk h (fun q1 hq1 h => ?_)
  refine Ev.callS (pc := 3) (as := [.int x0, .int 0, .int 3]) (st := []) (z := 0) dX10_isStory_3 wc_X10_in ml_RX10_58 sm_X10_in (ev_X10_in x0 0 3 M _ hq1) rfl rfl (by decide) rfl rfl (Nat.le_of_ble_eq_true rfl) ?_
  obtain ⟨g9, h⟩ := eGdB h
  have g9 := of_decide_eq_true g9
  obtain rfl := Option.some.inj h
  exact Ev.iret (pc := 6) dX10_isStory_6 rfl (eNar_boolean g9)
theorem dX10_story_0 : decode cX10_story 0 = .ok (.iload_n 1, 1) := by decide +kernel
theorem dX10_story_1 : decode cX10_story 1 = .ok (.invokestatic 99, 3) := by decide +kernel
theorem dX10_story_4 : decode cX10_story 4 = .ok (.ifCond .eq 10, 3) := by decide +kernel
theorem dX10_story_7 : decode cX10_story 7 = .ok (.iload_n 2, 1) := by decide +kernel
theorem dX10_story_8 : decode cX10_story 8 = .ok (.invokestatic 62, 3) := by decide +kernel
theorem dX10_story_11 : decode cX10_story 11 = .ok (.ifCond .ne 9, 3) := by decide +kernel
theorem dX10_story_14 : decode cX10_story 14 = .ok (.aload_n 0, 1) := by decide +kernel
theorem dX10_story_15 : decode cX10_story 15 = .ok (.iconst 1, 1) := by decide +kernel
theorem dX10_story_16 : decode cX10_story 16 = .ok (.invokevirtual 66, 3) := by decide +kernel
theorem dX10_story_19 : decode cX10_story 19 = .ok (.ireturn, 1) := by decide +kernel
theorem dX10_story_20 : decode cX10_story 20 = .ok (.aload_n 0, 1) := by decide +kernel
theorem dX10_story_21 : decode cX10_story 21 = .ok (.getfield 7, 3) := by decide +kernel
theorem dX10_story_24 : decode cX10_story 24 = .ok (.sipush 290, 3) := by decide +kernel
theorem dX10_story_27 : decode cX10_story 27 = .ok (.iload_n 1, 1) := by decide +kernel
theorem dX10_story_28 : decode cX10_story 28 = .ok (.iadd, 1) := by decide +kernel
theorem dX10_story_29 : decode cX10_story 29 = .ok (.iaload, 1) := by decide +kernel
theorem dX10_story_30 : decode cX10_story 30 = .ok (.istore_n 3, 1) := by decide +kernel
theorem dX10_story_31 : decode cX10_story 31 = .ok (.aload_n 0, 1) := by decide +kernel
theorem dX10_story_32 : decode cX10_story 32 = .ok (.getfield 7, 3) := by decide +kernel
theorem dX10_story_35 : decode cX10_story 35 = .ok (.sipush 290, 3) := by decide +kernel
theorem dX10_story_38 : decode cX10_story 38 = .ok (.iload_n 1, 1) := by decide +kernel
theorem dX10_story_39 : decode cX10_story 39 = .ok (.iadd, 1) := by decide +kernel
theorem dX10_story_40 : decode cX10_story 40 = .ok (.iload_n 2, 1) := by decide +kernel
theorem dX10_story_41 : decode cX10_story 41 = .ok (.iastore, 1) := by decide +kernel
theorem dX10_story_42 : decode cX10_story 42 = .ok (.iload_n 3, 1) := by decide +kernel
theorem dX10_story_43 : decode cX10_story 43 = .ok (.ireturn, 1) := by decide +kernel
def F_X10_story (x1 : Int32) (x2 : Int32) (M : eMem) : Option (Int32 × eMem) :=
  (F_X10_isStory x1).bind fun q1 =>
  if q1 = 0 then
    (F_X10_finding 1 M).bind fun q2 =>
    some (q2.1, q2.2)
  else
    (F_X10_isCell x2).bind fun q3 =>
    if q3 = 0 then
      (F_X10_finding 1 M).bind fun q4 =>
      some (q4.1, q4.2)
    else
      eG (eIn (290 + x1) 2900) <|
      eG (eIn (290 + x1) 2900) <|
      some ((M.1 1 (290 + x1).toNatClampNeg), (eI M 1 (290 + x1).toNatClampNeg x2))
set_option maxRecDepth 100000 in
set_option maxHeartbeats 4000000 in
theorem ev_X10_story (x1 : Int32) (x2 : Int32) (M : eMem) (q : (Int32 × eMem)) (h : F_X10_story x1 x2 M = some q) : Ev layR 2 m_X10_story 0 [some (.ref 0), some (.int x1), some (.int x2), none] [] M (some (.int q.1), q.2) := by
  rw [F_X10_story] at h
  refine Ev.iload_n (pc := 0) dX10_story_0 rfl ?_
  refine eBk h (fun q1 hq1 h => ?_)
  refine Ev.callS (pc := 1) (as := [.int x1]) (st := []) (z := 0) dX10_story_1 wc_X10_isStory ml_RX10_99 sm_X10_isStory (ev_X10_isStory x1 M _ hq1) rfl rfl (by decide) rfl rfl (Nat.le_of_ble_eq_true rfl) ?_
  refine Ev.if_eq (pc := 4) (tgt := 14) dX10_story_4 (by decide) (fun c9 => ?_) (fun c9 => ?_)
  · have h := eT h c9
    refine Ev.aload_n (pc := 14) dX10_story_14 rfl ?_
    refine Ev.iconst (pc := 15) dX10_story_15 (v := 1) (by decide) ?_
    refine eBk h (fun q2 hq2 h => ?_)
    refine Ev.callV (pc := 16) (as := [.int 1]) (st := []) (z := 0) dX10_story_16 wc_X10_finding ml_RX10_66 im_X10_finding se_X10_finding lR_0 rfl rfl (ev_X10_finding 1 M _ hq2) rfl rfl (by decide) rfl rfl (Nat.le_of_ble_eq_true rfl) ?_
    obtain rfl := Option.some.inj h
    exact Ev.iret (pc := 19) dX10_story_19 rfl rfl
  · have h := eF h c9
    refine Ev.iload_n (pc := 7) dX10_story_7 rfl ?_
    refine eBk h (fun q3 hq3 h => ?_)
    refine Ev.callS (pc := 8) (as := [.int x2]) (st := []) (z := 0) dX10_story_8 wc_X10_isCell ml_RX10_62 sm_X10_isCell (ev_X10_isCell x2 M _ hq3) rfl rfl (by decide) rfl rfl (Nat.le_of_ble_eq_true rfl) ?_
    refine Ev.if_ne (pc := 11) (tgt := 20) dX10_story_11 (by decide) (fun c9 => ?_) (fun c9 => ?_)
    · have h := eF h c9
      refine Ev.aload_n (pc := 20) dX10_story_20 rfl ?_
      refine Ev.getR (pc := 21) dX10_story_21 fl_RX10_7 lR_0 rfl ?_
      refine Ev.sipush (pc := 24) dX10_story_24 (v := 290) (by decide) ?_
      refine Ev.iload_n (pc := 27) dX10_story_27 rfl ?_
      refine Ev.iadd (pc := 28) dX10_story_28 ?_
      obtain ⟨g9, h⟩ := eGdB h
      refine Ev.ialdj (pc := 29) dX10_story_29 (j := (290 + x1).toNatClampNeg) lR_1 g9 rfl ?_
      refine Ev.istore_n (pc := 30) dX10_story_30 (by decide) rfl rfl ?_
      refine Ev.aload_n (pc := 31) dX10_story_31 rfl ?_
      refine Ev.getR (pc := 32) dX10_story_32 fl_RX10_7 lR_0 rfl ?_
      refine Ev.sipush (pc := 35) dX10_story_35 (v := 290) (by decide) ?_
      refine Ev.iload_n (pc := 38) dX10_story_38 rfl ?_
      refine Ev.iadd (pc := 39) dX10_story_39 ?_
      refine Ev.iload_n (pc := 40) dX10_story_40 rfl ?_
      obtain ⟨g9, h⟩ := eGdB h
      refine Ev.iastj (pc := 41) dX10_story_41 (j := (290 + x1).toNatClampNeg) lR_1 g9 rfl ?_
      refine Ev.iload_n (pc := 42) dX10_story_42 rfl ?_
      obtain rfl := Option.some.inj h
      exact Ev.iret (pc := 43) dX10_story_43 rfl rfl
    · have h := eT h c9
      refine Ev.aload_n (pc := 14) dX10_story_14 rfl ?_
      refine Ev.iconst (pc := 15) dX10_story_15 (v := 1) (by decide) ?_
      refine eBk h (fun q4 hq4 h => ?_)
      refine Ev.callV (pc := 16) (as := [.int 1]) (st := []) (z := 0) dX10_story_16 wc_X10_finding ml_RX10_66 im_X10_finding se_X10_finding lR_0 rfl rfl (ev_X10_finding 1 M _ hq4) rfl rfl (by decide) rfl rfl (Nat.le_of_ble_eq_true rfl) ?_
      obtain rfl := Option.some.inj h
      exact Ev.iret (pc := 19) dX10_story_19 rfl rfl
theorem dX5_add_0 : decode cX5_add 0 = .ok (.aload_n 0, 1) := by decide +kernel
theorem dX5_add_1 : decode cX5_add 1 = .ok (.getfield 43, 3) := by decide +kernel
theorem dX5_add_4 : decode cX5_add 4 = .ok (.bipush 20, 2) := by decide +kernel
theorem dX5_add_6 : decode cX5_add 6 = .ok (.invokestatic 47, 3) := by decide +kernel
theorem dX5_add_9 : decode cX5_add 9 = .ok (.ifCond .ne 5, 3) := by decide +kernel
theorem dX5_add_12 : decode cX5_add 12 = .ok (.iconst (-1), 1) := by decide +kernel
theorem dX5_add_13 : decode cX5_add 13 = .ok (.ireturn, 1) := by decide +kernel
theorem dX5_add_14 : decode cX5_add 14 = .ok (.aload_n 0, 1) := by decide +kernel
theorem dX5_add_15 : decode cX5_add 15 = .ok (.getfield 9, 3) := by decide +kernel
theorem dX5_add_18 : decode cX5_add 18 = .ok (.aload_n 0, 1) := by decide +kernel
theorem dX5_add_19 : decode cX5_add 19 = .ok (.getfield 43, 3) := by decide +kernel
theorem dX5_add_22 : decode cX5_add 22 = .ok (.iload_n 1, 1) := by decide +kernel
theorem dX5_add_23 : decode cX5_add 23 = .ok (.iastore, 1) := by decide +kernel
theorem dX5_add_24 : decode cX5_add 24 = .ok (.aload_n 0, 1) := by decide +kernel
theorem dX5_add_25 : decode cX5_add 25 = .ok (.getfield 15, 3) := by decide +kernel
theorem dX5_add_28 : decode cX5_add 28 = .ok (.aload_n 0, 1) := by decide +kernel
theorem dX5_add_29 : decode cX5_add 29 = .ok (.getfield 43, 3) := by decide +kernel
theorem dX5_add_32 : decode cX5_add 32 = .ok (.iload_n 2, 1) := by decide +kernel
theorem dX5_add_33 : decode cX5_add 33 = .ok (.iastore, 1) := by decide +kernel
theorem dX5_add_34 : decode cX5_add 34 = .ok (.aload_n 0, 1) := by decide +kernel
theorem dX5_add_35 : decode cX5_add 35 = .ok (.getfield 18, 3) := by decide +kernel
theorem dX5_add_38 : decode cX5_add 38 = .ok (.aload_n 0, 1) := by decide +kernel
theorem dX5_add_39 : decode cX5_add 39 = .ok (.getfield 43, 3) := by decide +kernel
theorem dX5_add_42 : decode cX5_add 42 = .ok (.iload_n 3, 1) := by decide +kernel
theorem dX5_add_43 : decode cX5_add 43 = .ok (.iastore, 1) := by decide +kernel
theorem dX5_add_44 : decode cX5_add 44 = .ok (.aload_n 0, 1) := by decide +kernel
theorem dX5_add_45 : decode cX5_add 45 = .ok (.getfield 21, 3) := by decide +kernel
theorem dX5_add_48 : decode cX5_add 48 = .ok (.aload_n 0, 1) := by decide +kernel
theorem dX5_add_49 : decode cX5_add 49 = .ok (.getfield 43, 3) := by decide +kernel
theorem dX5_add_52 : decode cX5_add 52 = .ok (.iload 4, 2) := by decide +kernel
theorem dX5_add_54 : decode cX5_add 54 = .ok (.iastore, 1) := by decide +kernel
theorem dX5_add_55 : decode cX5_add 55 = .ok (.aload_n 0, 1) := by decide +kernel
theorem dX5_add_56 : decode cX5_add 56 = .ok (.getfield 24, 3) := by decide +kernel
theorem dX5_add_59 : decode cX5_add 59 = .ok (.aload_n 0, 1) := by decide +kernel
theorem dX5_add_60 : decode cX5_add 60 = .ok (.getfield 43, 3) := by decide +kernel
theorem dX5_add_63 : decode cX5_add 63 = .ok (.iload 5, 2) := by decide +kernel
theorem dX5_add_65 : decode cX5_add 65 = .ok (.iastore, 1) := by decide +kernel
theorem dX5_add_66 : decode cX5_add 66 = .ok (.aload_n 0, 1) := by decide +kernel
theorem dX5_add_67 : decode cX5_add 67 = .ok (.getfield 27, 3) := by decide +kernel
theorem dX5_add_70 : decode cX5_add 70 = .ok (.aload_n 0, 1) := by decide +kernel
theorem dX5_add_71 : decode cX5_add 71 = .ok (.getfield 43, 3) := by decide +kernel
theorem dX5_add_74 : decode cX5_add 74 = .ok (.iconst 0, 1) := by decide +kernel
theorem dX5_add_75 : decode cX5_add 75 = .ok (.bastore, 1) := by decide +kernel
theorem dX5_add_76 : decode cX5_add 76 = .ok (.aload_n 0, 1) := by decide +kernel
theorem dX5_add_77 : decode cX5_add 77 = .ok (.getfield 31, 3) := by decide +kernel
theorem dX5_add_80 : decode cX5_add 80 = .ok (.aload_n 0, 1) := by decide +kernel
theorem dX5_add_81 : decode cX5_add 81 = .ok (.getfield 43, 3) := by decide +kernel
theorem dX5_add_84 : decode cX5_add 84 = .ok (.iconst 0, 1) := by decide +kernel
theorem dX5_add_85 : decode cX5_add 85 = .ok (.iastore, 1) := by decide +kernel
theorem dX5_add_86 : decode cX5_add 86 = .ok (.aload_n 0, 1) := by decide +kernel
theorem dX5_add_87 : decode cX5_add 87 = .ok (.getfield 34, 3) := by decide +kernel
theorem dX5_add_90 : decode cX5_add 90 = .ok (.aload_n 0, 1) := by decide +kernel
theorem dX5_add_91 : decode cX5_add 91 = .ok (.getfield 43, 3) := by decide +kernel
theorem dX5_add_94 : decode cX5_add 94 = .ok (.iconst 0, 1) := by decide +kernel
theorem dX5_add_95 : decode cX5_add 95 = .ok (.bastore, 1) := by decide +kernel
theorem dX5_add_96 : decode cX5_add 96 = .ok (.aload_n 0, 1) := by decide +kernel
theorem dX5_add_97 : decode cX5_add 97 = .ok (.getfield 37, 3) := by decide +kernel
theorem dX5_add_100 : decode cX5_add 100 = .ok (.aload_n 0, 1) := by decide +kernel
theorem dX5_add_101 : decode cX5_add 101 = .ok (.getfield 43, 3) := by decide +kernel
theorem dX5_add_104 : decode cX5_add 104 = .ok (.iconst 0, 1) := by decide +kernel
theorem dX5_add_105 : decode cX5_add 105 = .ok (.iastore, 1) := by decide +kernel
theorem dX5_add_106 : decode cX5_add 106 = .ok (.aload_n 0, 1) := by decide +kernel
theorem dX5_add_107 : decode cX5_add 107 = .ok (.getfield 40, 3) := by decide +kernel
theorem dX5_add_110 : decode cX5_add 110 = .ok (.aload_n 0, 1) := by decide +kernel
theorem dX5_add_111 : decode cX5_add 111 = .ok (.getfield 43, 3) := by decide +kernel
theorem dX5_add_114 : decode cX5_add 114 = .ok (.iconst 0, 1) := by decide +kernel
theorem dX5_add_115 : decode cX5_add 115 = .ok (.iastore, 1) := by decide +kernel
theorem dX5_add_116 : decode cX5_add 116 = .ok (.aload_n 0, 1) := by decide +kernel
theorem dX5_add_117 : decode cX5_add 117 = .ok (.dup, 1) := by decide +kernel
theorem dX5_add_118 : decode cX5_add 118 = .ok (.getfield 43, 3) := by decide +kernel
theorem dX5_add_121 : decode cX5_add 121 = .ok (.dup_x1, 1) := by decide +kernel
theorem dX5_add_122 : decode cX5_add 122 = .ok (.iconst 1, 1) := by decide +kernel
theorem dX5_add_123 : decode cX5_add 123 = .ok (.iadd, 1) := by decide +kernel
theorem dX5_add_124 : decode cX5_add 124 = .ok (.putfield 43, 3) := by decide +kernel
theorem dX5_add_127 : decode cX5_add 127 = .ok (.ireturn, 1) := by decide +kernel
def F_X5_add (x1 : Int32) (x2 : Int32) (x3 : Int32) (x4 : Int32) (x5 : Int32) (M : eMem) : Option (Int32 × eMem) :=
  (F_X9_isIn (M.1 12 10) 20).bind fun q1 =>
  if q1 = 0 then
    some ((-1), M)
  else
    eG (eIn (M.1 12 10) 20) <|
    eG (eIn (M.1 12 10) 20) <|
    eG (eIn (M.1 12 10) 20) <|
    eG (eIn (M.1 12 10) 20) <|
    eG (eIn (M.1 12 10) 20) <|
    eG (eIn (M.1 12 10) 20) <|
    eG (eIn (M.1 12 10) 20) <|
    eG (eIn (M.1 12 10) 20) <|
    eG (eIn (M.1 12 10) 20) <|
    eG (eIn (M.1 12 10) 20) <|
    some ((M.1 12 10), (eI (eI (eI (eI (eI (eI (eI (eI (eI (eI (eI M 13 (M.1 12 10).toNatClampNeg x1) 14 (M.1 12 10).toNatClampNeg x2) 15 (M.1 12 10).toNatClampNeg x3) 16 (M.1 12 10).toNatClampNeg x4) 17 (M.1 12 10).toNatClampNeg x5) 18 (M.1 12 10).toNatClampNeg (vp_nar .boolean 0)) 19 (M.1 12 10).toNatClampNeg 0) 20 (M.1 12 10).toNatClampNeg (vp_nar .boolean 0)) 21 (M.1 12 10).toNatClampNeg 0) 22 (M.1 12 10).toNatClampNeg 0) 12 10 ((M.1 12 10) + 1)))
set_option maxRecDepth 100000 in
set_option maxHeartbeats 4000000 in
theorem ev_X5_add (x1 : Int32) (x2 : Int32) (x3 : Int32) (x4 : Int32) (x5 : Int32) (M : eMem) (q : (Int32 × eMem)) (h : F_X5_add x1 x2 x3 x4 x5 M = some q) : Ev layC 1 m_X5_add 0 [some (.ref 12), some (.int x1), some (.int x2), some (.int x3), some (.int x4), some (.int x5)] [] M (some (.int q.1), q.2) := by
  rw [F_X5_add] at h
  refine Ev.aload_n (pc := 0) dX5_add_0 rfl ?_
  refine Ev.getI (pc := 1) dX5_add_1 fl_RX5_43 lC_12 rfl ?_
  refine Ev.bipush (pc := 4) dX5_add_4 (v := 20) (by decide) ?_
  refine eBk h (fun q1 hq1 h => ?_)
  refine Ev.callSN (host := "GhostCoast") (pc := 6) (as := [.int (M.1 12 10), .int 20]) (st := []) (z := 0) dX5_add_6 wc_X9_isIn mn_RX5_47 sm_X9_isIn (ev_X9_isIn (M.1 12 10) 20 M _ hq1) rfl rfl (by decide) rfl rfl (Nat.le_of_ble_eq_true rfl) ?_
  refine Ev.if_ne (pc := 9) (tgt := 14) dX5_add_9 (by decide) (fun c9 => ?_) (fun c9 => ?_)
  · have h := eF h c9
    refine Ev.aload_n (pc := 14) dX5_add_14 rfl ?_
    refine Ev.getR (pc := 15) dX5_add_15 fl_RX5_9 lC_12 rfl ?_
    refine Ev.aload_n (pc := 18) dX5_add_18 rfl ?_
    refine Ev.getI (pc := 19) dX5_add_19 fl_RX5_43 lC_12 rfl ?_
    refine Ev.iload_n (pc := 22) dX5_add_22 rfl ?_
    obtain ⟨g9, h⟩ := eGdB h
    refine Ev.iastj (pc := 23) dX5_add_23 (j := (M.1 12 10).toNatClampNeg) lC_13 g9 rfl ?_
    refine Ev.aload_n (pc := 24) dX5_add_24 rfl ?_
    refine Ev.getR (pc := 25) dX5_add_25 fl_RX5_15 lC_12 rfl ?_
    refine Ev.aload_n (pc := 28) dX5_add_28 rfl ?_
    refine Ev.getIv (pc := 29) dX5_add_29 (v := (M.1 12 10)) fl_RX5_43 lC_12 rfl (eI_n (by decide)) ?_
    refine Ev.iload_n (pc := 32) dX5_add_32 rfl ?_
    obtain ⟨g9, h⟩ := eGdB h
    refine Ev.iastj (pc := 33) dX5_add_33 (j := (M.1 12 10).toNatClampNeg) lC_14 g9 rfl ?_
    refine Ev.aload_n (pc := 34) dX5_add_34 rfl ?_
    refine Ev.getR (pc := 35) dX5_add_35 fl_RX5_18 lC_12 rfl ?_
    refine Ev.aload_n (pc := 38) dX5_add_38 rfl ?_
    refine Ev.getIv (pc := 39) dX5_add_39 (v := (M.1 12 10)) fl_RX5_43 lC_12 rfl ((eI_n (by decide)).trans (eI_n (by decide))) ?_
    refine Ev.iload_n (pc := 42) dX5_add_42 rfl ?_
    obtain ⟨g9, h⟩ := eGdB h
    refine Ev.iastj (pc := 43) dX5_add_43 (j := (M.1 12 10).toNatClampNeg) lC_15 g9 rfl ?_
    refine Ev.aload_n (pc := 44) dX5_add_44 rfl ?_
    refine Ev.getR (pc := 45) dX5_add_45 fl_RX5_21 lC_12 rfl ?_
    refine Ev.aload_n (pc := 48) dX5_add_48 rfl ?_
    refine Ev.getIv (pc := 49) dX5_add_49 (v := (M.1 12 10)) fl_RX5_43 lC_12 rfl ((eI_n (by decide)).trans ((eI_n (by decide)).trans (eI_n (by decide)))) ?_
    refine Ev.iload (pc := 52) dX5_add_52 rfl ?_
    obtain ⟨g9, h⟩ := eGdB h
    refine Ev.iastj (pc := 54) dX5_add_54 (j := (M.1 12 10).toNatClampNeg) lC_16 g9 rfl ?_
    refine Ev.aload_n (pc := 55) dX5_add_55 rfl ?_
    refine Ev.getR (pc := 56) dX5_add_56 fl_RX5_24 lC_12 rfl ?_
    refine Ev.aload_n (pc := 59) dX5_add_59 rfl ?_
    refine Ev.getIv (pc := 60) dX5_add_60 (v := (M.1 12 10)) fl_RX5_43 lC_12 rfl ((eI_n (by decide)).trans ((eI_n (by decide)).trans ((eI_n (by decide)).trans (eI_n (by decide))))) ?_
    refine Ev.iload (pc := 63) dX5_add_63 rfl ?_
    obtain ⟨g9, h⟩ := eGdB h
    refine Ev.iastj (pc := 65) dX5_add_65 (j := (M.1 12 10).toNatClampNeg) lC_17 g9 rfl ?_
    refine Ev.aload_n (pc := 66) dX5_add_66 rfl ?_
    refine Ev.getR (pc := 67) dX5_add_67 fl_RX5_27 lC_12 rfl ?_
    refine Ev.aload_n (pc := 70) dX5_add_70 rfl ?_
    refine Ev.getIv (pc := 71) dX5_add_71 (v := (M.1 12 10)) fl_RX5_43 lC_12 rfl ((eI_n (by decide)).trans ((eI_n (by decide)).trans ((eI_n (by decide)).trans ((eI_n (by decide)).trans (eI_n (by decide)))))) ?_
    refine Ev.iconst (pc := 74) dX5_add_74 (v := 0) (by decide) ?_
    obtain ⟨g9, h⟩ := eGdB h
    refine Ev.zastj (pc := 75) dX5_add_75 (j := (M.1 12 10).toNatClampNeg) lC_18 g9 rfl ?_
    refine Ev.aload_n (pc := 76) dX5_add_76 rfl ?_
    refine Ev.getR (pc := 77) dX5_add_77 fl_RX5_31 lC_12 rfl ?_
    refine Ev.aload_n (pc := 80) dX5_add_80 rfl ?_
    refine Ev.getIv (pc := 81) dX5_add_81 (v := (M.1 12 10)) fl_RX5_43 lC_12 rfl ((eI_n (by decide)).trans ((eI_n (by decide)).trans ((eI_n (by decide)).trans ((eI_n (by decide)).trans ((eI_n (by decide)).trans (eI_n (by decide))))))) ?_
    refine Ev.iconst (pc := 84) dX5_add_84 (v := 0) (by decide) ?_
    obtain ⟨g9, h⟩ := eGdB h
    refine Ev.iastj (pc := 85) dX5_add_85 (j := (M.1 12 10).toNatClampNeg) lC_19 g9 rfl ?_
    refine Ev.aload_n (pc := 86) dX5_add_86 rfl ?_
    refine Ev.getR (pc := 87) dX5_add_87 fl_RX5_34 lC_12 rfl ?_
    refine Ev.aload_n (pc := 90) dX5_add_90 rfl ?_
    refine Ev.getIv (pc := 91) dX5_add_91 (v := (M.1 12 10)) fl_RX5_43 lC_12 rfl ((eI_n (by decide)).trans ((eI_n (by decide)).trans ((eI_n (by decide)).trans ((eI_n (by decide)).trans ((eI_n (by decide)).trans ((eI_n (by decide)).trans (eI_n (by decide)))))))) ?_
    refine Ev.iconst (pc := 94) dX5_add_94 (v := 0) (by decide) ?_
    obtain ⟨g9, h⟩ := eGdB h
    refine Ev.zastj (pc := 95) dX5_add_95 (j := (M.1 12 10).toNatClampNeg) lC_20 g9 rfl ?_
    refine Ev.aload_n (pc := 96) dX5_add_96 rfl ?_
    refine Ev.getR (pc := 97) dX5_add_97 fl_RX5_37 lC_12 rfl ?_
    refine Ev.aload_n (pc := 100) dX5_add_100 rfl ?_
    refine Ev.getIv (pc := 101) dX5_add_101 (v := (M.1 12 10)) fl_RX5_43 lC_12 rfl ((eI_n (by decide)).trans ((eI_n (by decide)).trans ((eI_n (by decide)).trans ((eI_n (by decide)).trans ((eI_n (by decide)).trans ((eI_n (by decide)).trans ((eI_n (by decide)).trans (eI_n (by decide))))))))) ?_
    refine Ev.iconst (pc := 104) dX5_add_104 (v := 0) (by decide) ?_
    obtain ⟨g9, h⟩ := eGdB h
    refine Ev.iastj (pc := 105) dX5_add_105 (j := (M.1 12 10).toNatClampNeg) lC_21 g9 rfl ?_
    refine Ev.aload_n (pc := 106) dX5_add_106 rfl ?_
    refine Ev.getR (pc := 107) dX5_add_107 fl_RX5_40 lC_12 rfl ?_
    refine Ev.aload_n (pc := 110) dX5_add_110 rfl ?_
    refine Ev.getIv (pc := 111) dX5_add_111 (v := (M.1 12 10)) fl_RX5_43 lC_12 rfl ((eI_n (by decide)).trans ((eI_n (by decide)).trans ((eI_n (by decide)).trans ((eI_n (by decide)).trans ((eI_n (by decide)).trans ((eI_n (by decide)).trans ((eI_n (by decide)).trans ((eI_n (by decide)).trans (eI_n (by decide)))))))))) ?_
    refine Ev.iconst (pc := 114) dX5_add_114 (v := 0) (by decide) ?_
    obtain ⟨g9, h⟩ := eGdB h
    refine Ev.iastj (pc := 115) dX5_add_115 (j := (M.1 12 10).toNatClampNeg) lC_22 g9 rfl ?_
    refine Ev.aload_n (pc := 116) dX5_add_116 rfl ?_
    refine Ev.dup (pc := 117) dX5_add_117 rfl ?_
    refine Ev.getIv (pc := 118) dX5_add_118 (v := (M.1 12 10)) fl_RX5_43 lC_12 rfl ((eI_n (by decide)).trans ((eI_n (by decide)).trans ((eI_n (by decide)).trans ((eI_n (by decide)).trans ((eI_n (by decide)).trans ((eI_n (by decide)).trans ((eI_n (by decide)).trans ((eI_n (by decide)).trans ((eI_n (by decide)).trans (eI_n (by decide))))))))))) ?_
    refine Ev.dup_x1 (pc := 121) dX5_add_121 rfl rfl ?_
    refine Ev.iconst (pc := 122) dX5_add_122 (v := 1) (by decide) ?_
    refine Ev.iadd (pc := 123) dX5_add_123 ?_
    refine Ev.putI (pc := 124) dX5_add_124 fp_RX5_43 lC_12 rfl rfl rfl ?_
    obtain rfl := Option.some.inj h
    exact Ev.iret (pc := 127) dX5_add_127 rfl rfl
  · have h := eT h c9
    refine Ev.iconst (pc := 12) dX5_add_12 (v := (-1)) (by decide) ?_
    obtain rfl := Option.some.inj h
    exact Ev.iret (pc := 13) dX5_add_13 rfl rfl
theorem dX9_show_0 : decode cX9_show 0 = .ok (.iload_n 1, 1) := by decide +kernel
theorem dX9_show_1 : decode cX9_show 1 = .ok (.bipush 7, 2) := by decide +kernel
theorem dX9_show_3 : decode cX9_show 3 = .ok (.invokestatic 37, 3) := by decide +kernel
theorem dX9_show_6 : decode cX9_show 6 = .ok (.ifCond .eq 11, 3) := by decide +kernel
theorem dX9_show_9 : decode cX9_show 9 = .ok (.iload_n 2, 1) := by decide +kernel
theorem dX9_show_10 : decode cX9_show 10 = .ok (.ifCond .lt 7, 3) := by decide +kernel
theorem dX9_show_13 : decode cX9_show 13 = .ok (.iload_n 3, 1) := by decide +kernel
theorem dX9_show_14 : decode cX9_show 14 = .ok (.ifCond .ge 10, 3) := by decide +kernel
theorem dX9_show_17 : decode cX9_show 17 = .ok (.aload_n 0, 1) := by decide +kernel
theorem dX9_show_18 : decode cX9_show 18 = .ok (.ldc 41, 2) := by decide +kernel
theorem dX9_show_20 : decode cX9_show 20 = .ok (.invokevirtual 42, 3) := by decide +kernel
theorem dX9_show_23 : decode cX9_show 23 = .ok (.ireturn, 1) := by decide +kernel
theorem dX9_show_24 : decode cX9_show 24 = .ok (.iload_n 2, 1) := by decide +kernel
theorem dX9_show_25 : decode cX9_show 25 = .ok (.bipush 100, 2) := by decide +kernel
theorem dX9_show_27 : decode cX9_show 27 = .ok (.idiv, 1) := by decide +kernel
theorem dX9_show_28 : decode cX9_show 28 = .ok (.istore 4, 2) := by decide +kernel
theorem dX9_show_30 : decode cX9_show 30 = .ok (.iload_n 2, 1) := by decide +kernel
theorem dX9_show_31 : decode cX9_show 31 = .ok (.bipush 100, 2) := by decide +kernel
theorem dX9_show_33 : decode cX9_show 33 = .ok (.irem, 1) := by decide +kernel
theorem dX9_show_34 : decode cX9_show 34 = .ok (.istore 5, 2) := by decide +kernel
theorem dX9_show_36 : decode cX9_show 36 = .ok (.iload_n 3, 1) := by decide +kernel
theorem dX9_show_37 : decode cX9_show 37 = .ok (.bipush 100, 2) := by decide +kernel
theorem dX9_show_39 : decode cX9_show 39 = .ok (.idiv, 1) := by decide +kernel
theorem dX9_show_40 : decode cX9_show 40 = .ok (.istore 6, 2) := by decide +kernel
theorem dX9_show_42 : decode cX9_show 42 = .ok (.iload_n 3, 1) := by decide +kernel
theorem dX9_show_43 : decode cX9_show 43 = .ok (.bipush 100, 2) := by decide +kernel
theorem dX9_show_45 : decode cX9_show 45 = .ok (.irem, 1) := by decide +kernel
theorem dX9_show_46 : decode cX9_show 46 = .ok (.istore 7, 2) := by decide +kernel
theorem dX9_show_48 : decode cX9_show 48 = .ok (.iload 4, 2) := by decide +kernel
theorem dX9_show_50 : decode cX9_show 50 = .ok (.iconst 4, 1) := by decide +kernel
theorem dX9_show_51 : decode cX9_show 51 = .ok (.invokestatic 37, 3) := by decide +kernel
theorem dX9_show_54 : decode cX9_show 54 = .ok (.ifCond .eq 13, 3) := by decide +kernel
theorem dX9_show_57 : decode cX9_show 57 = .ok (.iload 5, 2) := by decide +kernel
theorem dX9_show_59 : decode cX9_show 59 = .ok (.bipush 96, 2) := by decide +kernel
theorem dX9_show_61 : decode cX9_show 61 = .ok (.invokestatic 37, 3) := by decide +kernel
theorem dX9_show_64 : decode cX9_show 64 = .ok (.ifCond .ne 10, 3) := by decide +kernel
theorem dX9_show_67 : decode cX9_show 67 = .ok (.aload_n 0, 1) := by decide +kernel
theorem dX9_show_68 : decode cX9_show 68 = .ok (.ldc 41, 2) := by decide +kernel
theorem dX9_show_70 : decode cX9_show 70 = .ok (.invokevirtual 42, 3) := by decide +kernel
theorem dX9_show_73 : decode cX9_show 73 = .ok (.ireturn, 1) := by decide +kernel
theorem dX9_show_74 : decode cX9_show 74 = .ok (.iload 6, 2) := by decide +kernel
theorem dX9_show_76 : decode cX9_show 76 = .ok (.getstatic 124, 3) := by decide +kernel
theorem dX9_show_79 : decode cX9_show 79 = .ok (.iload_n 1, 1) := by decide +kernel
theorem dX9_show_80 : decode cX9_show 80 = .ok (.iaload, 1) := by decide +kernel
theorem dX9_show_81 : decode cX9_show 81 = .ok (.if_icmp .gt 13, 3) := by decide +kernel
theorem dX9_show_84 : decode cX9_show 84 = .ok (.iload 7, 2) := by decide +kernel
theorem dX9_show_86 : decode cX9_show 86 = .ok (.getstatic 127, 3) := by decide +kernel
theorem dX9_show_89 : decode cX9_show 89 = .ok (.iload_n 1, 1) := by decide +kernel
theorem dX9_show_90 : decode cX9_show 90 = .ok (.iaload, 1) := by decide +kernel
theorem dX9_show_91 : decode cX9_show 91 = .ok (.if_icmp .le 10, 3) := by decide +kernel
theorem dX9_show_94 : decode cX9_show 94 = .ok (.aload_n 0, 1) := by decide +kernel
theorem dX9_show_95 : decode cX9_show 95 = .ok (.ldc 41, 2) := by decide +kernel
theorem dX9_show_97 : decode cX9_show 97 = .ok (.invokevirtual 42, 3) := by decide +kernel
theorem dX9_show_100 : decode cX9_show 100 = .ok (.ireturn, 1) := by decide +kernel
theorem dX9_show_101 : decode cX9_show 101 = .ok (.iload_n 1, 1) := by decide +kernel
theorem dX9_show_102 : decode cX9_show 102 = .ok (.iconst 3, 1) := by decide +kernel
theorem dX9_show_103 : decode cX9_show 103 = .ok (.if_icmp .ne 17, 3) := by decide +kernel
theorem dX9_show_106 : decode cX9_show 106 = .ok (.iload 6, 2) := by decide +kernel
theorem dX9_show_108 : decode cX9_show 108 = .ok (.iload 7, 2) := by decide +kernel
theorem dX9_show_110 : decode cX9_show 110 = .ok (.if_icmp .le 10, 3) := by decide +kernel
theorem dX9_show_113 : decode cX9_show 113 = .ok (.aload_n 0, 1) := by decide +kernel
theorem dX9_show_114 : decode cX9_show 114 = .ok (.ldc 41, 2) := by decide +kernel
theorem dX9_show_116 : decode cX9_show 116 = .ok (.invokevirtual 42, 3) := by decide +kernel
theorem dX9_show_119 : decode cX9_show 119 = .ok (.ireturn, 1) := by decide +kernel
theorem dX9_show_120 : decode cX9_show 120 = .ok (.iload_n 1, 1) := by decide +kernel
theorem dX9_show_121 : decode cX9_show 121 = .ok (.bipush 6, 2) := by decide +kernel
theorem dX9_show_123 : decode cX9_show 123 = .ok (.if_icmp .ne 28, 3) := by decide +kernel
theorem dX9_show_126 : decode cX9_show 126 = .ok (.iload 6, 2) := by decide +kernel
theorem dX9_show_128 : decode cX9_show 128 = .ok (.aload_n 0, 1) := by decide +kernel
theorem dX9_show_129 : decode cX9_show 129 = .ok (.getfield 12, 3) := by decide +kernel
theorem dX9_show_132 : decode cX9_show 132 = .ok (.getfield 46, 3) := by decide +kernel
theorem dX9_show_135 : decode cX9_show 135 = .ok (.getfield 68, 3) := by decide +kernel
theorem dX9_show_138 : decode cX9_show 138 = .ok (.invokestatic 37, 3) := by decide +kernel
theorem dX9_show_141 : decode cX9_show 141 = .ok (.ifCond .ne 10, 3) := by decide +kernel
theorem dX9_show_144 : decode cX9_show 144 = .ok (.aload_n 0, 1) := by decide +kernel
theorem dX9_show_145 : decode cX9_show 145 = .ok (.ldc 41, 2) := by decide +kernel
theorem dX9_show_147 : decode cX9_show 147 = .ok (.invokevirtual 42, 3) := by decide +kernel
theorem dX9_show_150 : decode cX9_show 150 = .ok (.ireturn, 1) := by decide +kernel
theorem dX9_show_151 : decode cX9_show 151 = .ok (.aload_n 0, 1) := by decide +kernel
theorem dX9_show_152 : decode cX9_show 152 = .ok (.getfield 12, 3) := by decide +kernel
theorem dX9_show_155 : decode cX9_show 155 = .ok (.getfield 130, 3) := by decide +kernel
theorem dX9_show_158 : decode cX9_show 158 = .ok (.getfield 134, 3) := by decide +kernel
theorem dX9_show_161 : decode cX9_show 161 = .ok (.bipush 20, 2) := by decide +kernel
theorem dX9_show_163 : decode cX9_show 163 = .ok (.if_icmp .lt 10, 3) := by decide +kernel
theorem dX9_show_166 : decode cX9_show 166 = .ok (.aload_n 0, 1) := by decide +kernel
theorem dX9_show_167 : decode cX9_show 167 = .ok (.ldc 63, 2) := by decide +kernel
theorem dX9_show_169 : decode cX9_show 169 = .ok (.invokevirtual 42, 3) := by decide +kernel
theorem dX9_show_172 : decode cX9_show 172 = .ok (.ireturn, 1) := by decide +kernel
theorem dX9_show_173 : decode cX9_show 173 = .ok (.aload_n 0, 1) := by decide +kernel
theorem dX9_show_174 : decode cX9_show 174 = .ok (.getfield 12, 3) := by decide +kernel
theorem dX9_show_177 : decode cX9_show 177 = .ok (.getfield 130, 3) := by decide +kernel
theorem dX9_show_180 : decode cX9_show 180 = .ok (.iload_n 1, 1) := by decide +kernel
theorem dX9_show_181 : decode cX9_show 181 = .ok (.iload 4, 2) := by decide +kernel
theorem dX9_show_183 : decode cX9_show 183 = .ok (.iload 5, 2) := by decide +kernel
theorem dX9_show_185 : decode cX9_show 185 = .ok (.iload 6, 2) := by decide +kernel
theorem dX9_show_187 : decode cX9_show 187 = .ok (.iload 7, 2) := by decide +kernel
theorem dX9_show_189 : decode cX9_show 189 = .ok (.invokevirtual 139, 3) := by decide +kernel
theorem dX9_show_192 : decode cX9_show 192 = .ok (.ireturn, 1) := by decide +kernel
def F_X9_show_151  (v1 : Int32) (v4 : Int32) (v5 : Int32) (v6 : Int32) (v7 : Int32) (M : eMem) : Option (Int32 × eMem) :=
  if (M.1 12 10) < 20 then
    (F_X5_add v1 v4 v5 v6 v7 M).bind fun q8 =>
    some (q8.1, q8.2)
  else
    (F_X9_found (-1000002) M).bind fun q9 =>
    some (q9.1, q9.2)
set_option maxRecDepth 100000 in
set_option maxHeartbeats 4000000 in
theorem ev_X9_show_151  (q : (Int32 × eMem))  (v1 : Int32) (v4 : Int32) (v5 : Int32) (v6 : Int32) (v7 : Int32) (M : eMem) (h : F_X9_show_151 v1 v4 v5 v6 v7 M = some q) : Ev layC 2 m_X9_show 151 [some (.ref 0), some (.int v1), none, none, some (.int v4), some (.int v5), some (.int v6), some (.int v7)] [] M (some (.int q.1), q.2) := by
  rw [F_X9_show_151] at h
  refine Ev.aload_n (pc := 151) dX9_show_151 rfl ?_
  refine Ev.getR (pc := 152) dX9_show_152 fl_RX9_12 lC_0 rfl ?_
  refine Ev.getR (pc := 155) dX9_show_155 fl_RX9_130 lC_1 rfl ?_
  refine Ev.getI (pc := 158) dX9_show_158 fl_RX9_134 lC_12 rfl ?_
  refine Ev.bipush (pc := 161) dX9_show_161 (v := 20) (by decide) ?_
  refine Ev.icmp_lt (pc := 163) (tgt := 173) dX9_show_163 (by decide) (fun c9 => ?_) (fun c9 => ?_)
  · have h := eT h c9
    refine Ev.aload_n (pc := 173) dX9_show_173 rfl ?_
    refine Ev.getR (pc := 174) dX9_show_174 fl_RX9_12 lC_0 rfl ?_
    refine Ev.getR (pc := 177) dX9_show_177 fl_RX9_130 lC_1 rfl ?_
    refine Ev.iload_n (pc := 180) dX9_show_180 rfl ?_
    refine Ev.iload (pc := 181) dX9_show_181 rfl ?_
    refine Ev.iload (pc := 183) dX9_show_183 rfl ?_
    refine Ev.iload (pc := 185) dX9_show_185 rfl ?_
    refine Ev.iload (pc := 187) dX9_show_187 rfl ?_
    refine eBk h (fun q8 hq8 h => ?_)
    refine Ev.callV (pc := 189) (as := [.int v1, .int v4, .int v5, .int v6, .int v7]) (st := []) (z := 0) dX9_show_189 wc_X5_add ml_RX9_139 im_X5_add se_X5_add lC_12 rfl rfl (ev_X5_add v1 v4 v5 v6 v7 M _ hq8) rfl rfl (by decide) rfl rfl (Nat.le_of_ble_eq_true rfl) ?_
    obtain rfl := Option.some.inj h
    exact Ev.iret (pc := 192) dX9_show_192 rfl rfl
  · have h := eF h c9
    refine Ev.aload_n (pc := 166) dX9_show_166 rfl ?_
    refine Ev.ldc (pc := 167) dX9_show_167 ld_RX9_63 ?_
    refine eBk h (fun q9 hq9 h => ?_)
    refine Ev.callV (pc := 169) (as := [.int (-1000002)]) (st := []) (z := 1) dX9_show_169 wc_X9_found ml_RX9_42 im_X9_found se_X9_found lC_0 rfl rfl (ev_X9_found (-1000002) M _ hq9) rfl rfl (by decide) rfl rfl (Nat.le_of_ble_eq_true rfl) ?_
    obtain rfl := Option.some.inj h
    exact Ev.iret (pc := 172) dX9_show_172 rfl rfl
def F_X9_show_120  (v1 : Int32) (v4 : Int32) (v5 : Int32) (v6 : Int32) (v7 : Int32) (M : eMem) : Option (Int32 × eMem) :=
  if v1 = 6 then
    (F_X9_isIn v6 (M.1 2 9)).bind fun q10 =>
    if q10 = 0 then
      (F_X9_found (-1000001) M).bind fun q11 =>
      some (q11.1, q11.2)
    else
      F_X9_show_151 v1 v4 v5 v6 v7 M
  else
    F_X9_show_151 v1 v4 v5 v6 v7 M
set_option maxRecDepth 100000 in
set_option maxHeartbeats 4000000 in
theorem ev_X9_show_120  (q : (Int32 × eMem))  (v1 : Int32) (v4 : Int32) (v5 : Int32) (v6 : Int32) (v7 : Int32) (M : eMem) (h : F_X9_show_120 v1 v4 v5 v6 v7 M = some q) : Ev layC 2 m_X9_show 120 [some (.ref 0), some (.int v1), none, none, some (.int v4), some (.int v5), some (.int v6), some (.int v7)] [] M (some (.int q.1), q.2) := by
  rw [F_X9_show_120] at h
  refine Ev.iload_n (pc := 120) dX9_show_120 rfl ?_
  refine Ev.bipush (pc := 121) dX9_show_121 (v := 6) (by decide) ?_
  refine Ev.icmp_ne (pc := 123) (tgt := 151) dX9_show_123 (by decide) (fun c9 => ?_) (fun c9 => ?_)
  · have h := eF h c9
    exact Ev.fg (ev_X9_show_151 _ _ _ _ _ _ _ h) (And.intro rfl (And.intro rfl (And.intro rfl (And.intro rfl (And.intro rfl (And.intro rfl trivial))))))
  · have h := eT h c9
    refine Ev.iload (pc := 126) dX9_show_126 rfl ?_
    refine Ev.aload_n (pc := 128) dX9_show_128 rfl ?_
    refine Ev.getR (pc := 129) dX9_show_129 fl_RX9_12 lC_0 rfl ?_
    refine Ev.getR (pc := 132) dX9_show_132 fl_RX9_46 lC_1 rfl ?_
    refine Ev.getI (pc := 135) dX9_show_135 fl_RX9_68 lC_2 rfl ?_
    refine eBk h (fun q10 hq10 h => ?_)
    refine Ev.callS (pc := 138) (as := [.int v6, .int (M.1 2 9)]) (st := []) (z := 0) dX9_show_138 wc_X9_isIn ml_RX9_37 sm_X9_isIn (ev_X9_isIn v6 (M.1 2 9) M _ hq10) rfl rfl (by decide) rfl rfl (Nat.le_of_ble_eq_true rfl) ?_
    refine Ev.if_ne (pc := 141) (tgt := 151) dX9_show_141 (by decide) (fun c9 => ?_) (fun c9 => ?_)
    · have h := eF h c9
      exact Ev.fg (ev_X9_show_151 _ _ _ _ _ _ _ h) (And.intro rfl (And.intro rfl (And.intro rfl (And.intro rfl (And.intro rfl (And.intro rfl trivial))))))
    · have h := eT h c9
      refine Ev.aload_n (pc := 144) dX9_show_144 rfl ?_
      refine Ev.ldc (pc := 145) dX9_show_145 ld_RX9_41 ?_
      refine eBk h (fun q11 hq11 h => ?_)
      refine Ev.callV (pc := 147) (as := [.int (-1000001)]) (st := []) (z := 1) dX9_show_147 wc_X9_found ml_RX9_42 im_X9_found se_X9_found lC_0 rfl rfl (ev_X9_found (-1000001) M _ hq11) rfl rfl (by decide) rfl rfl (Nat.le_of_ble_eq_true rfl) ?_
      obtain rfl := Option.some.inj h
      exact Ev.iret (pc := 150) dX9_show_150 rfl rfl
def F_X9_show (x1 : Int32) (x2 : Int32) (x3 : Int32) (M : eMem) : Option (Int32 × eMem) :=
  (F_X9_isIn x1 7).bind fun q1 =>
  if q1 = 0 then
    (F_X9_found (-1000001) M).bind fun q2 =>
    some (q2.1, q2.2)
  else
    if x2 < 0 then
      (F_X9_found (-1000001) M).bind fun q3 =>
      some (q3.1, q3.2)
    else
      if x3 < 0 then
        (F_X9_found (-1000001) M).bind fun q15 =>
        some (q15.1, q15.2)
      else
        (F_X9_isIn (x2 / 100) 4).bind fun q4 =>
        if q4 = 0 then
          (F_X9_found (-1000001) M).bind fun q5 =>
          some (q5.1, q5.2)
        else
          (F_X9_isIn (x2 - x2 / 100 * 100) 96).bind fun q6 =>
          if q6 = 0 then
            (F_X9_found (-1000001) M).bind fun q14 =>
            some (q14.1, q14.2)
          else
            eG (eIn x1 7) <|
            if ((eKA.getD 2 []).getD x1.toNatClampNeg 0) < (x3 / 100) then
              (F_X9_found (-1000001) M).bind fun q7 =>
              some (q7.1, q7.2)
            else
              eG (eIn x1 7) <|
              if ((eKA.getD 3 []).getD x1.toNatClampNeg 0) < (x3 - x3 / 100 * 100) then
                (F_X9_found (-1000001) M).bind fun q13 =>
                some (q13.1, q13.2)
              else
                if x1 = 3 then
                  if (x3 - x3 / 100 * 100) < (x3 / 100) then
                    (F_X9_found (-1000001) M).bind fun q12 =>
                    some (q12.1, q12.2)
                  else
                    F_X9_show_120 x1 (x2 / 100) (x2 - x2 / 100 * 100) (x3 / 100) (x3 - x3 / 100 * 100) M
                else
                  F_X9_show_120 x1 (x2 / 100) (x2 - x2 / 100 * 100) (x3 / 100) (x3 - x3 / 100 * 100) M
set_option maxRecDepth 100000 in
set_option maxHeartbeats 4000000 in
theorem ev_X9_show (x1 : Int32) (x2 : Int32) (x3 : Int32) (M : eMem) (q : (Int32 × eMem)) (h : F_X9_show x1 x2 x3 M = some q) : Ev layC 2 m_X9_show 0 [some (.ref 0), some (.int x1), some (.int x2), some (.int x3), none, none, none, none] [] M (some (.int q.1), q.2) := by
  rw [F_X9_show] at h
  refine Ev.iload_n (pc := 0) dX9_show_0 rfl ?_
  refine Ev.bipush (pc := 1) dX9_show_1 (v := 7) (by decide) ?_
  refine eBk h (fun q1 hq1 h => ?_)
  refine Ev.callS (pc := 3) (as := [.int x1, .int 7]) (st := []) (z := 0) dX9_show_3 wc_X9_isIn ml_RX9_37 sm_X9_isIn (ev_X9_isIn x1 7 M _ hq1) rfl rfl (by decide) rfl rfl (Nat.le_of_ble_eq_true rfl) ?_
  refine Ev.if_eq (pc := 6) (tgt := 17) dX9_show_6 (by decide) (fun c9 => ?_) (fun c9 => ?_)
  · have h := eT h c9
    refine Ev.aload_n (pc := 17) dX9_show_17 rfl ?_
    refine Ev.ldc (pc := 18) dX9_show_18 ld_RX9_41 ?_
    refine eBk h (fun q2 hq2 h => ?_)
    refine Ev.callV (pc := 20) (as := [.int (-1000001)]) (st := []) (z := 1) dX9_show_20 wc_X9_found ml_RX9_42 im_X9_found se_X9_found lC_0 rfl rfl (ev_X9_found (-1000001) M _ hq2) rfl rfl (by decide) rfl rfl (Nat.le_of_ble_eq_true rfl) ?_
    obtain rfl := Option.some.inj h
    exact Ev.iret (pc := 23) dX9_show_23 rfl rfl
  · have h := eF h c9
    refine Ev.iload_n (pc := 9) dX9_show_9 rfl ?_
    refine Ev.if_lt (pc := 10) (tgt := 17) dX9_show_10 (by decide) (fun c9 => ?_) (fun c9 => ?_)
    · have h := eT h c9
      refine Ev.aload_n (pc := 17) dX9_show_17 rfl ?_
      refine Ev.ldc (pc := 18) dX9_show_18 ld_RX9_41 ?_
      refine eBk h (fun q3 hq3 h => ?_)
      refine Ev.callV (pc := 20) (as := [.int (-1000001)]) (st := []) (z := 1) dX9_show_20 wc_X9_found ml_RX9_42 im_X9_found se_X9_found lC_0 rfl rfl (ev_X9_found (-1000001) M _ hq3) rfl rfl (by decide) rfl rfl (Nat.le_of_ble_eq_true rfl) ?_
      obtain rfl := Option.some.inj h
      exact Ev.iret (pc := 23) dX9_show_23 rfl rfl
    · have h := eF h c9
      refine Ev.iload_n (pc := 13) dX9_show_13 rfl ?_
      refine Ev.if_ge (pc := 14) (tgt := 24) dX9_show_14 (by decide) (fun c9 => ?_) (fun c9 => ?_)
      · have h := eF h c9
        refine Ev.iload_n (pc := 24) dX9_show_24 rfl ?_
        refine Ev.bipush (pc := 25) dX9_show_25 (v := 100) (by decide) ?_
        refine Ev.idiv (pc := 27) dX9_show_27 (by decide) ?_
        refine Ev.istore (pc := 28) dX9_show_28 (by decide) rfl rfl ?_
        refine Ev.iload_n (pc := 30) dX9_show_30 rfl ?_
        refine Ev.bipush (pc := 31) dX9_show_31 (v := 100) (by decide) ?_
        refine Ev.irem (pc := 33) dX9_show_33 (by decide) ?_
        refine Ev.istore (pc := 34) dX9_show_34 (by decide) rfl rfl ?_
        refine Ev.iload_n (pc := 36) dX9_show_36 rfl ?_
        refine Ev.bipush (pc := 37) dX9_show_37 (v := 100) (by decide) ?_
        refine Ev.idiv (pc := 39) dX9_show_39 (by decide) ?_
        refine Ev.istore (pc := 40) dX9_show_40 (by decide) rfl rfl ?_
        refine Ev.iload_n (pc := 42) dX9_show_42 rfl ?_
        refine Ev.bipush (pc := 43) dX9_show_43 (v := 100) (by decide) ?_
        refine Ev.irem (pc := 45) dX9_show_45 (by decide) ?_
        refine Ev.istore (pc := 46) dX9_show_46 (by decide) rfl rfl ?_
        refine Ev.iload (pc := 48) dX9_show_48 rfl ?_
        refine Ev.iconst (pc := 50) dX9_show_50 (v := 4) (by decide) ?_
        refine eBk h (fun q4 hq4 h => ?_)
        refine Ev.callS (pc := 51) (as := [.int (x2 / 100), .int 4]) (st := []) (z := 0) dX9_show_51 wc_X9_isIn ml_RX9_37 sm_X9_isIn (ev_X9_isIn (x2 / 100) 4 M _ hq4) rfl rfl (by decide) rfl rfl (Nat.le_of_ble_eq_true rfl) ?_
        refine Ev.if_eq (pc := 54) (tgt := 67) dX9_show_54 (by decide) (fun c9 => ?_) (fun c9 => ?_)
        · have h := eT h c9
          refine Ev.aload_n (pc := 67) dX9_show_67 rfl ?_
          refine Ev.ldc (pc := 68) dX9_show_68 ld_RX9_41 ?_
          refine eBk h (fun q5 hq5 h => ?_)
          refine Ev.callV (pc := 70) (as := [.int (-1000001)]) (st := []) (z := 1) dX9_show_70 wc_X9_found ml_RX9_42 im_X9_found se_X9_found lC_0 rfl rfl (ev_X9_found (-1000001) M _ hq5) rfl rfl (by decide) rfl rfl (Nat.le_of_ble_eq_true rfl) ?_
          obtain rfl := Option.some.inj h
          exact Ev.iret (pc := 73) dX9_show_73 rfl rfl
        · have h := eF h c9
          refine Ev.iload (pc := 57) dX9_show_57 rfl ?_
          refine Ev.bipush (pc := 59) dX9_show_59 (v := 96) (by decide) ?_
          refine eBk h (fun q6 hq6 h => ?_)
          refine Ev.callS (pc := 61) (as := [.int (x2 - x2 / 100 * 100), .int 96]) (st := []) (z := 0) dX9_show_61 wc_X9_isIn ml_RX9_37 sm_X9_isIn (ev_X9_isIn (x2 - x2 / 100 * 100) 96 M _ hq6) rfl rfl (by decide) rfl rfl (Nat.le_of_ble_eq_true rfl) ?_
          refine Ev.if_ne (pc := 64) (tgt := 74) dX9_show_64 (by decide) (fun c9 => ?_) (fun c9 => ?_)
          · have h := eF h c9
            refine Ev.iload (pc := 74) dX9_show_74 rfl ?_
            refine Ev.getK (pc := 76) dX9_show_76 (j := 2) (by decide) fx_RX9_124 ?_
            refine Ev.iload_n (pc := 79) dX9_show_79 rfl ?_
            obtain ⟨g9, h⟩ := eGdB h
            refine Ev.kaldj (pc := 80) dX9_show_80 (j := 2) (n := x1.toNatClampNeg) (by decide) g9 rfl ?_
            refine Ev.icmp_gt (pc := 81) (tgt := 94) dX9_show_81 (by decide) (fun c9 => ?_) (fun c9 => ?_)
            · have h := eT h c9
              refine Ev.aload_n (pc := 94) dX9_show_94 rfl ?_
              refine Ev.ldc (pc := 95) dX9_show_95 ld_RX9_41 ?_
              refine eBk h (fun q7 hq7 h => ?_)
              refine Ev.callV (pc := 97) (as := [.int (-1000001)]) (st := []) (z := 1) dX9_show_97 wc_X9_found ml_RX9_42 im_X9_found se_X9_found lC_0 rfl rfl (ev_X9_found (-1000001) M _ hq7) rfl rfl (by decide) rfl rfl (Nat.le_of_ble_eq_true rfl) ?_
              obtain rfl := Option.some.inj h
              exact Ev.iret (pc := 100) dX9_show_100 rfl rfl
            · have h := eF h c9
              refine Ev.iload (pc := 84) dX9_show_84 rfl ?_
              refine Ev.getK (pc := 86) dX9_show_86 (j := 3) (by decide) fx_RX9_127 ?_
              refine Ev.iload_n (pc := 89) dX9_show_89 rfl ?_
              obtain ⟨g9, h⟩ := eGdB h
              refine Ev.kaldj (pc := 90) dX9_show_90 (j := 3) (n := x1.toNatClampNeg) (by decide) g9 rfl ?_
              refine Ev.icmp_le (pc := 91) (tgt := 101) dX9_show_91 (by decide) (fun c9 => ?_) (fun c9 => ?_)
              · have h := eF h c9
                refine Ev.iload_n (pc := 101) dX9_show_101 rfl ?_
                refine Ev.iconst (pc := 102) dX9_show_102 (v := 3) (by decide) ?_
                refine Ev.icmp_ne (pc := 103) (tgt := 120) dX9_show_103 (by decide) (fun c9 => ?_) (fun c9 => ?_)
                · have h := eF h c9
                  exact Ev.fg (ev_X9_show_120 _ _ _ _ _ _ _ h) (And.intro rfl (And.intro rfl (And.intro rfl (And.intro rfl (And.intro rfl (And.intro rfl trivial))))))
                · have h := eT h c9
                  refine Ev.iload (pc := 106) dX9_show_106 rfl ?_
                  refine Ev.iload (pc := 108) dX9_show_108 rfl ?_
                  refine Ev.icmp_le (pc := 110) (tgt := 120) dX9_show_110 (by decide) (fun c9 => ?_) (fun c9 => ?_)
                  · have h := eF h c9
                    exact Ev.fg (ev_X9_show_120 _ _ _ _ _ _ _ h) (And.intro rfl (And.intro rfl (And.intro rfl (And.intro rfl (And.intro rfl (And.intro rfl trivial))))))
                  · have h := eT h c9
                    refine Ev.aload_n (pc := 113) dX9_show_113 rfl ?_
                    refine Ev.ldc (pc := 114) dX9_show_114 ld_RX9_41 ?_
                    refine eBk h (fun q12 hq12 h => ?_)
                    refine Ev.callV (pc := 116) (as := [.int (-1000001)]) (st := []) (z := 1) dX9_show_116 wc_X9_found ml_RX9_42 im_X9_found se_X9_found lC_0 rfl rfl (ev_X9_found (-1000001) M _ hq12) rfl rfl (by decide) rfl rfl (Nat.le_of_ble_eq_true rfl) ?_
                    obtain rfl := Option.some.inj h
                    exact Ev.iret (pc := 119) dX9_show_119 rfl rfl
              · have h := eT h c9
                refine Ev.aload_n (pc := 94) dX9_show_94 rfl ?_
                refine Ev.ldc (pc := 95) dX9_show_95 ld_RX9_41 ?_
                refine eBk h (fun q13 hq13 h => ?_)
                refine Ev.callV (pc := 97) (as := [.int (-1000001)]) (st := []) (z := 1) dX9_show_97 wc_X9_found ml_RX9_42 im_X9_found se_X9_found lC_0 rfl rfl (ev_X9_found (-1000001) M _ hq13) rfl rfl (by decide) rfl rfl (Nat.le_of_ble_eq_true rfl) ?_
                obtain rfl := Option.some.inj h
                exact Ev.iret (pc := 100) dX9_show_100 rfl rfl
          · have h := eT h c9
            refine Ev.aload_n (pc := 67) dX9_show_67 rfl ?_
            refine Ev.ldc (pc := 68) dX9_show_68 ld_RX9_41 ?_
            refine eBk h (fun q14 hq14 h => ?_)
            refine Ev.callV (pc := 70) (as := [.int (-1000001)]) (st := []) (z := 1) dX9_show_70 wc_X9_found ml_RX9_42 im_X9_found se_X9_found lC_0 rfl rfl (ev_X9_found (-1000001) M _ hq14) rfl rfl (by decide) rfl rfl (Nat.le_of_ble_eq_true rfl) ?_
            obtain rfl := Option.some.inj h
            exact Ev.iret (pc := 73) dX9_show_73 rfl rfl
      · have h := eT h c9
        refine Ev.aload_n (pc := 17) dX9_show_17 rfl ?_
        refine Ev.ldc (pc := 18) dX9_show_18 ld_RX9_41 ?_
        refine eBk h (fun q15 hq15 h => ?_)
        refine Ev.callV (pc := 20) (as := [.int (-1000001)]) (st := []) (z := 1) dX9_show_20 wc_X9_found ml_RX9_42 im_X9_found se_X9_found lC_0 rfl rfl (ev_X9_found (-1000001) M _ hq15) rfl rfl (by decide) rfl rfl (Nat.le_of_ble_eq_true rfl) ?_
        obtain rfl := Option.some.inj h
        exact Ev.iret (pc := 23) dX9_show_23 rfl rfl
theorem dX10_areNumbers_0 : decode cX10_areNumbers 0 = .ok (.iload_n 1, 1) := by decide +kernel
theorem dX10_areNumbers_1 : decode cX10_areNumbers 1 = .ok (.tableswitch 136 3 6 #[31, 62, 87, 112], 31) := by decide +kernel
theorem dX10_areNumbers_32 : decode cX10_areNumbers 32 = .ok (.iload_n 2, 1) := by decide +kernel
theorem dX10_areNumbers_33 : decode cX10_areNumbers 33 = .ok (.iload_n 3, 1) := by decide +kernel
theorem dX10_areNumbers_34 : decode cX10_areNumbers 34 = .ok (.if_icmp .gt 27, 3) := by decide +kernel
theorem dX10_areNumbers_37 : decode cX10_areNumbers 37 = .ok (.iload_n 2, 1) := by decide +kernel
theorem dX10_areNumbers_38 : decode cX10_areNumbers 38 = .ok (.iconst 0, 1) := by decide +kernel
theorem dX10_areNumbers_39 : decode cX10_areNumbers 39 = .ok (.bipush 23, 2) := by decide +kernel
theorem dX10_areNumbers_41 : decode cX10_areNumbers 41 = .ok (.invokestatic 58, 3) := by decide +kernel
theorem dX10_areNumbers_44 : decode cX10_areNumbers 44 = .ok (.ifCond .eq 17, 3) := by decide +kernel
theorem dX10_areNumbers_47 : decode cX10_areNumbers 47 = .ok (.iload_n 3, 1) := by decide +kernel
theorem dX10_areNumbers_48 : decode cX10_areNumbers 48 = .ok (.iconst 0, 1) := by decide +kernel
theorem dX10_areNumbers_49 : decode cX10_areNumbers 49 = .ok (.bipush 23, 2) := by decide +kernel
theorem dX10_areNumbers_51 : decode cX10_areNumbers 51 = .ok (.invokestatic 58, 3) := by decide +kernel
theorem dX10_areNumbers_54 : decode cX10_areNumbers 54 = .ok (.ifCond .eq 7, 3) := by decide +kernel
theorem dX10_areNumbers_57 : decode cX10_areNumbers 57 = .ok (.iconst 1, 1) := by decide +kernel
theorem dX10_areNumbers_58 : decode cX10_areNumbers 58 = .ok (.goto 4, 3) := by decide +kernel
theorem dX10_areNumbers_61 : decode cX10_areNumbers 61 = .ok (.iconst 0, 1) := by decide +kernel
theorem dX10_areNumbers_62 : decode cX10_areNumbers 62 = .ok (.ireturn, 1) := by decide +kernel
theorem dX10_areNumbers_63 : decode cX10_areNumbers 63 = .ok (.iload_n 2, 1) := by decide +kernel
theorem dX10_areNumbers_64 : decode cX10_areNumbers 64 = .ok (.iconst 0, 1) := by decide +kernel
theorem dX10_areNumbers_65 : decode cX10_areNumbers 65 = .ok (.iconst 4, 1) := by decide +kernel
theorem dX10_areNumbers_66 : decode cX10_areNumbers 66 = .ok (.invokestatic 58, 3) := by decide +kernel
theorem dX10_areNumbers_69 : decode cX10_areNumbers 69 = .ok (.ifCond .eq 17, 3) := by decide +kernel
theorem dX10_areNumbers_72 : decode cX10_areNumbers 72 = .ok (.iload_n 3, 1) := by decide +kernel
theorem dX10_areNumbers_73 : decode cX10_areNumbers 73 = .ok (.iconst 0, 1) := by decide +kernel
theorem dX10_areNumbers_74 : decode cX10_areNumbers 74 = .ok (.bipush 9, 2) := by decide +kernel
theorem dX10_areNumbers_76 : decode cX10_areNumbers 76 = .ok (.invokestatic 58, 3) := by decide +kernel
theorem dX10_areNumbers_79 : decode cX10_areNumbers 79 = .ok (.ifCond .eq 7, 3) := by decide +kernel
theorem dX10_areNumbers_82 : decode cX10_areNumbers 82 = .ok (.iconst 1, 1) := by decide +kernel
theorem dX10_areNumbers_83 : decode cX10_areNumbers 83 = .ok (.goto 4, 3) := by decide +kernel
theorem dX10_areNumbers_86 : decode cX10_areNumbers 86 = .ok (.iconst 0, 1) := by decide +kernel
theorem dX10_areNumbers_87 : decode cX10_areNumbers 87 = .ok (.ireturn, 1) := by decide +kernel
theorem dX10_areNumbers_88 : decode cX10_areNumbers 88 = .ok (.iload_n 2, 1) := by decide +kernel
theorem dX10_areNumbers_89 : decode cX10_areNumbers 89 = .ok (.iconst 0, 1) := by decide +kernel
theorem dX10_areNumbers_90 : decode cX10_areNumbers 90 = .ok (.iconst 4, 1) := by decide +kernel
theorem dX10_areNumbers_91 : decode cX10_areNumbers 91 = .ok (.invokestatic 58, 3) := by decide +kernel
theorem dX10_areNumbers_94 : decode cX10_areNumbers 94 = .ok (.ifCond .eq 17, 3) := by decide +kernel
theorem dX10_areNumbers_97 : decode cX10_areNumbers 97 = .ok (.iload_n 3, 1) := by decide +kernel
theorem dX10_areNumbers_98 : decode cX10_areNumbers 98 = .ok (.iconst 0, 1) := by decide +kernel
theorem dX10_areNumbers_99 : decode cX10_areNumbers 99 = .ok (.bipush 99, 2) := by decide +kernel
theorem dX10_areNumbers_101 : decode cX10_areNumbers 101 = .ok (.invokestatic 58, 3) := by decide +kernel
theorem dX10_areNumbers_104 : decode cX10_areNumbers 104 = .ok (.ifCond .eq 7, 3) := by decide +kernel
theorem dX10_areNumbers_107 : decode cX10_areNumbers 107 = .ok (.iconst 1, 1) := by decide +kernel
theorem dX10_areNumbers_108 : decode cX10_areNumbers 108 = .ok (.goto 4, 3) := by decide +kernel
theorem dX10_areNumbers_111 : decode cX10_areNumbers 111 = .ok (.iconst 0, 1) := by decide +kernel
theorem dX10_areNumbers_112 : decode cX10_areNumbers 112 = .ok (.ireturn, 1) := by decide +kernel
theorem dX10_areNumbers_113 : decode cX10_areNumbers 113 = .ok (.aload_n 0, 1) := by decide +kernel
theorem dX10_areNumbers_114 : decode cX10_areNumbers 114 = .ok (.iload_n 2, 1) := by decide +kernel
theorem dX10_areNumbers_115 : decode cX10_areNumbers 115 = .ok (.invokevirtual 83, 3) := by decide +kernel
theorem dX10_areNumbers_118 : decode cX10_areNumbers 118 = .ok (.ifCond .eq 17, 3) := by decide +kernel
theorem dX10_areNumbers_121 : decode cX10_areNumbers 121 = .ok (.iload_n 3, 1) := by decide +kernel
theorem dX10_areNumbers_122 : decode cX10_areNumbers 122 = .ok (.iconst 0, 1) := by decide +kernel
theorem dX10_areNumbers_123 : decode cX10_areNumbers 123 = .ok (.bipush 9, 2) := by decide +kernel
theorem dX10_areNumbers_125 : decode cX10_areNumbers 125 = .ok (.invokestatic 58, 3) := by decide +kernel
theorem dX10_areNumbers_128 : decode cX10_areNumbers 128 = .ok (.ifCond .eq 7, 3) := by decide +kernel
theorem dX10_areNumbers_131 : decode cX10_areNumbers 131 = .ok (.iconst 1, 1) := by decide +kernel
theorem dX10_areNumbers_132 : decode cX10_areNumbers 132 = .ok (.goto 4, 3) := by decide +kernel
theorem dX10_areNumbers_135 : decode cX10_areNumbers 135 = .ok (.iconst 0, 1) := by decide +kernel
theorem dX10_areNumbers_136 : decode cX10_areNumbers 136 = .ok (.ireturn, 1) := by decide +kernel
theorem dX10_areNumbers_137 : decode cX10_areNumbers 137 = .ok (.iload_n 2, 1) := by decide +kernel
theorem dX10_areNumbers_138 : decode cX10_areNumbers 138 = .ok (.iconst 0, 1) := by decide +kernel
theorem dX10_areNumbers_139 : decode cX10_areNumbers 139 = .ok (.bipush 9, 2) := by decide +kernel
theorem dX10_areNumbers_141 : decode cX10_areNumbers 141 = .ok (.invokestatic 58, 3) := by decide +kernel
theorem dX10_areNumbers_144 : decode cX10_areNumbers 144 = .ok (.ifCond .eq 17, 3) := by decide +kernel
theorem dX10_areNumbers_147 : decode cX10_areNumbers 147 = .ok (.iload_n 3, 1) := by decide +kernel
theorem dX10_areNumbers_148 : decode cX10_areNumbers 148 = .ok (.iconst 0, 1) := by decide +kernel
theorem dX10_areNumbers_149 : decode cX10_areNumbers 149 = .ok (.bipush 9, 2) := by decide +kernel
theorem dX10_areNumbers_151 : decode cX10_areNumbers 151 = .ok (.invokestatic 58, 3) := by decide +kernel
theorem dX10_areNumbers_154 : decode cX10_areNumbers 154 = .ok (.ifCond .eq 7, 3) := by decide +kernel
theorem dX10_areNumbers_157 : decode cX10_areNumbers 157 = .ok (.iconst 1, 1) := by decide +kernel
theorem dX10_areNumbers_158 : decode cX10_areNumbers 158 = .ok (.goto 4, 3) := by decide +kernel
theorem dX10_areNumbers_161 : decode cX10_areNumbers 161 = .ok (.iconst 0, 1) := by decide +kernel
theorem dX10_areNumbers_162 : decode cX10_areNumbers 162 = .ok (.ireturn, 1) := by decide +kernel
def F_X10_areNumbers (x1 : Int32) (x2 : Int32) (x3 : Int32) (M : eMem) : Option Int32 :=
  if x1 = 3 then
    if x3 < x2 then
      some 0
    else
      (F_X10_in x2 0 23).bind fun q1 =>
      if q1 = 0 then
        some 0
      else
        (F_X10_in x3 0 23).bind fun q2 =>
        if q2 = 0 then
          some 0
        else
          some 1
  else
  if x1 = 4 then
    (F_X10_in x2 0 4).bind fun q4 =>
    if q4 = 0 then
      some 0
    else
      (F_X10_in x3 0 9).bind fun q5 =>
      if q5 = 0 then
        some 0
      else
        some 1
  else
  if x1 = 5 then
    (F_X10_in x2 0 4).bind fun q7 =>
    if q7 = 0 then
      some 0
    else
      (F_X10_in x3 0 99).bind fun q8 =>
      if q8 = 0 then
        some 0
      else
        some 1
  else
  if x1 = 6 then
    (F_X10_isUnit x2 M).bind fun q10 =>
    if q10 = 0 then
      some 0
    else
      (F_X10_in x3 0 9).bind fun q11 =>
      if q11 = 0 then
        some 0
      else
        some 1
  else
  (F_X10_in x2 0 9).bind fun q13 =>
  if q13 = 0 then
    some 0
  else
    (F_X10_in x3 0 9).bind fun q14 =>
    if q14 = 0 then
      some 0
    else
      some 1
set_option maxRecDepth 100000 in
set_option maxHeartbeats 4000000 in
theorem ev_X10_areNumbers (x1 : Int32) (x2 : Int32) (x3 : Int32) (M : eMem) (q : Int32) (h : F_X10_areNumbers x1 x2 x3 M = some q) : Ev layR 2 m_X10_areNumbers 0 [some (.ref 0), some (.int x1), some (.int x2), some (.int x3)] [] M (some (.int q), M) := by
  rw [F_X10_areNumbers] at h
  refine Ev.iload_n (pc := 0) dX10_areNumbers_0 rfl ?_
  by_cases cs3 : x1 = 3
  · have h := eT h cs3
    refine Ev.tsIn (pc := 1) (tgt := 32) (off := 31) dX10_areNumbers_1 (by rw [cs3]; decide) (by rw [cs3]; decide) (by rw [cs3]; rfl) (by decide) ?_
    refine Ev.iload_n (pc := 32) dX10_areNumbers_32 rfl ?_
    refine Ev.iload_n (pc := 33) dX10_areNumbers_33 rfl ?_
    refine Ev.icmp_gt (pc := 34) (tgt := 61) dX10_areNumbers_34 (by decide) (fun c9 => ?_) (fun c9 => ?_)
    · have h := eT h c9
      refine Ev.iconst (pc := 61) dX10_areNumbers_61 (v := 0) (by decide) ?_
      obtain rfl := Option.some.inj h
      exact Ev.iret (pc := 62) dX10_areNumbers_62 rfl rfl
    · have h := eF h c9
      refine Ev.iload_n (pc := 37) dX10_areNumbers_37 rfl ?_
      refine Ev.iconst (pc := 38) dX10_areNumbers_38 (v := 0) (by decide) ?_
      refine Ev.bipush (pc := 39) dX10_areNumbers_39 (v := 23) (by decide) ?_
      refine eBk h (fun q1 hq1 h => ?_)
      refine Ev.callS (pc := 41) (as := [.int x2, .int 0, .int 23]) (st := []) (z := 0) dX10_areNumbers_41 wc_X10_in ml_RX10_58 sm_X10_in (ev_X10_in x2 0 23 M _ hq1) rfl rfl (by decide) rfl rfl (Nat.le_of_ble_eq_true rfl) ?_
      refine Ev.if_eq (pc := 44) (tgt := 61) dX10_areNumbers_44 (by decide) (fun c9 => ?_) (fun c9 => ?_)
      · have h := eT h c9
        refine Ev.iconst (pc := 61) dX10_areNumbers_61 (v := 0) (by decide) ?_
        obtain rfl := Option.some.inj h
        exact Ev.iret (pc := 62) dX10_areNumbers_62 rfl rfl
      · have h := eF h c9
        refine Ev.iload_n (pc := 47) dX10_areNumbers_47 rfl ?_
        refine Ev.iconst (pc := 48) dX10_areNumbers_48 (v := 0) (by decide) ?_
        refine Ev.bipush (pc := 49) dX10_areNumbers_49 (v := 23) (by decide) ?_
        refine eBk h (fun q2 hq2 h => ?_)
        refine Ev.callS (pc := 51) (as := [.int x3, .int 0, .int 23]) (st := []) (z := 0) dX10_areNumbers_51 wc_X10_in ml_RX10_58 sm_X10_in (ev_X10_in x3 0 23 M _ hq2) rfl rfl (by decide) rfl rfl (Nat.le_of_ble_eq_true rfl) ?_
        refine Ev.if_eq (pc := 54) (tgt := 61) dX10_areNumbers_54 (by decide) (fun c9 => ?_) (fun c9 => ?_)
        · have h := eT h c9
          refine Ev.iconst (pc := 61) dX10_areNumbers_61 (v := 0) (by decide) ?_
          obtain rfl := Option.some.inj h
          exact Ev.iret (pc := 62) dX10_areNumbers_62 rfl rfl
        · have h := eF h c9
          refine Ev.iconst (pc := 57) dX10_areNumbers_57 (v := 1) (by decide) ?_
          refine Ev.goto (pc := 58) (tgt := 62) dX10_areNumbers_58 (by decide) ?_
          obtain rfl := Option.some.inj h
          exact Ev.iret (pc := 62) dX10_areNumbers_62 rfl rfl
  have h := eF h cs3
  by_cases cs6 : x1 = 4
  · have h := eT h cs6
    refine Ev.tsIn (pc := 1) (tgt := 63) (off := 62) dX10_areNumbers_1 (by rw [cs6]; decide) (by rw [cs6]; decide) (by rw [cs6]; rfl) (by decide) ?_
    refine Ev.iload_n (pc := 63) dX10_areNumbers_63 rfl ?_
    refine Ev.iconst (pc := 64) dX10_areNumbers_64 (v := 0) (by decide) ?_
    refine Ev.iconst (pc := 65) dX10_areNumbers_65 (v := 4) (by decide) ?_
    refine eBk h (fun q4 hq4 h => ?_)
    refine Ev.callS (pc := 66) (as := [.int x2, .int 0, .int 4]) (st := []) (z := 0) dX10_areNumbers_66 wc_X10_in ml_RX10_58 sm_X10_in (ev_X10_in x2 0 4 M _ hq4) rfl rfl (by decide) rfl rfl (Nat.le_of_ble_eq_true rfl) ?_
    refine Ev.if_eq (pc := 69) (tgt := 86) dX10_areNumbers_69 (by decide) (fun c9 => ?_) (fun c9 => ?_)
    · have h := eT h c9
      refine Ev.iconst (pc := 86) dX10_areNumbers_86 (v := 0) (by decide) ?_
      obtain rfl := Option.some.inj h
      exact Ev.iret (pc := 87) dX10_areNumbers_87 rfl rfl
    · have h := eF h c9
      refine Ev.iload_n (pc := 72) dX10_areNumbers_72 rfl ?_
      refine Ev.iconst (pc := 73) dX10_areNumbers_73 (v := 0) (by decide) ?_
      refine Ev.bipush (pc := 74) dX10_areNumbers_74 (v := 9) (by decide) ?_
      refine eBk h (fun q5 hq5 h => ?_)
      refine Ev.callS (pc := 76) (as := [.int x3, .int 0, .int 9]) (st := []) (z := 0) dX10_areNumbers_76 wc_X10_in ml_RX10_58 sm_X10_in (ev_X10_in x3 0 9 M _ hq5) rfl rfl (by decide) rfl rfl (Nat.le_of_ble_eq_true rfl) ?_
      refine Ev.if_eq (pc := 79) (tgt := 86) dX10_areNumbers_79 (by decide) (fun c9 => ?_) (fun c9 => ?_)
      · have h := eT h c9
        refine Ev.iconst (pc := 86) dX10_areNumbers_86 (v := 0) (by decide) ?_
        obtain rfl := Option.some.inj h
        exact Ev.iret (pc := 87) dX10_areNumbers_87 rfl rfl
      · have h := eF h c9
        refine Ev.iconst (pc := 82) dX10_areNumbers_82 (v := 1) (by decide) ?_
        refine Ev.goto (pc := 83) (tgt := 87) dX10_areNumbers_83 (by decide) ?_
        obtain rfl := Option.some.inj h
        exact Ev.iret (pc := 87) dX10_areNumbers_87 rfl rfl
  have h := eF h cs6
  by_cases cs9 : x1 = 5
  · have h := eT h cs9
    refine Ev.tsIn (pc := 1) (tgt := 88) (off := 87) dX10_areNumbers_1 (by rw [cs9]; decide) (by rw [cs9]; decide) (by rw [cs9]; rfl) (by decide) ?_
    refine Ev.iload_n (pc := 88) dX10_areNumbers_88 rfl ?_
    refine Ev.iconst (pc := 89) dX10_areNumbers_89 (v := 0) (by decide) ?_
    refine Ev.iconst (pc := 90) dX10_areNumbers_90 (v := 4) (by decide) ?_
    refine eBk h (fun q7 hq7 h => ?_)
    refine Ev.callS (pc := 91) (as := [.int x2, .int 0, .int 4]) (st := []) (z := 0) dX10_areNumbers_91 wc_X10_in ml_RX10_58 sm_X10_in (ev_X10_in x2 0 4 M _ hq7) rfl rfl (by decide) rfl rfl (Nat.le_of_ble_eq_true rfl) ?_
    refine Ev.if_eq (pc := 94) (tgt := 111) dX10_areNumbers_94 (by decide) (fun c9 => ?_) (fun c9 => ?_)
    · have h := eT h c9
      refine Ev.iconst (pc := 111) dX10_areNumbers_111 (v := 0) (by decide) ?_
      obtain rfl := Option.some.inj h
      exact Ev.iret (pc := 112) dX10_areNumbers_112 rfl rfl
    · have h := eF h c9
      refine Ev.iload_n (pc := 97) dX10_areNumbers_97 rfl ?_
      refine Ev.iconst (pc := 98) dX10_areNumbers_98 (v := 0) (by decide) ?_
      refine Ev.bipush (pc := 99) dX10_areNumbers_99 (v := 99) (by decide) ?_
      refine eBk h (fun q8 hq8 h => ?_)
      refine Ev.callS (pc := 101) (as := [.int x3, .int 0, .int 99]) (st := []) (z := 0) dX10_areNumbers_101 wc_X10_in ml_RX10_58 sm_X10_in (ev_X10_in x3 0 99 M _ hq8) rfl rfl (by decide) rfl rfl (Nat.le_of_ble_eq_true rfl) ?_
      refine Ev.if_eq (pc := 104) (tgt := 111) dX10_areNumbers_104 (by decide) (fun c9 => ?_) (fun c9 => ?_)
      · have h := eT h c9
        refine Ev.iconst (pc := 111) dX10_areNumbers_111 (v := 0) (by decide) ?_
        obtain rfl := Option.some.inj h
        exact Ev.iret (pc := 112) dX10_areNumbers_112 rfl rfl
      · have h := eF h c9
        refine Ev.iconst (pc := 107) dX10_areNumbers_107 (v := 1) (by decide) ?_
        refine Ev.goto (pc := 108) (tgt := 112) dX10_areNumbers_108 (by decide) ?_
        obtain rfl := Option.some.inj h
        exact Ev.iret (pc := 112) dX10_areNumbers_112 rfl rfl
  have h := eF h cs9
  by_cases cs12 : x1 = 6
  · have h := eT h cs12
    refine Ev.tsIn (pc := 1) (tgt := 113) (off := 112) dX10_areNumbers_1 (by rw [cs12]; decide) (by rw [cs12]; decide) (by rw [cs12]; rfl) (by decide) ?_
    refine Ev.aload_n (pc := 113) dX10_areNumbers_113 rfl ?_
    refine Ev.iload_n (pc := 114) dX10_areNumbers_114 rfl ?_
    refine eBk h (fun q10 hq10 h => ?_)
    refine Ev.callV (pc := 115) (as := [.int x2]) (st := []) (z := 0) dX10_areNumbers_115 wc_X10_isUnit ml_RX10_83 im_X10_isUnit se_X10_isUnit lR_0 rfl rfl (ev_X10_isUnit x2 M _ hq10) rfl rfl (by decide) rfl rfl (Nat.le_of_ble_eq_true rfl) ?_
    refine Ev.if_eq (pc := 118) (tgt := 135) dX10_areNumbers_118 (by decide) (fun c9 => ?_) (fun c9 => ?_)
    · have h := eT h c9
      refine Ev.iconst (pc := 135) dX10_areNumbers_135 (v := 0) (by decide) ?_
      obtain rfl := Option.some.inj h
      exact Ev.iret (pc := 136) dX10_areNumbers_136 rfl rfl
    · have h := eF h c9
      refine Ev.iload_n (pc := 121) dX10_areNumbers_121 rfl ?_
      refine Ev.iconst (pc := 122) dX10_areNumbers_122 (v := 0) (by decide) ?_
      refine Ev.bipush (pc := 123) dX10_areNumbers_123 (v := 9) (by decide) ?_
      refine eBk h (fun q11 hq11 h => ?_)
      refine Ev.callS (pc := 125) (as := [.int x3, .int 0, .int 9]) (st := []) (z := 0) dX10_areNumbers_125 wc_X10_in ml_RX10_58 sm_X10_in (ev_X10_in x3 0 9 M _ hq11) rfl rfl (by decide) rfl rfl (Nat.le_of_ble_eq_true rfl) ?_
      refine Ev.if_eq (pc := 128) (tgt := 135) dX10_areNumbers_128 (by decide) (fun c9 => ?_) (fun c9 => ?_)
      · have h := eT h c9
        refine Ev.iconst (pc := 135) dX10_areNumbers_135 (v := 0) (by decide) ?_
        obtain rfl := Option.some.inj h
        exact Ev.iret (pc := 136) dX10_areNumbers_136 rfl rfl
      · have h := eF h c9
        refine Ev.iconst (pc := 131) dX10_areNumbers_131 (v := 1) (by decide) ?_
        refine Ev.goto (pc := 132) (tgt := 136) dX10_areNumbers_132 (by decide) ?_
        obtain rfl := Option.some.inj h
        exact Ev.iret (pc := 136) dX10_areNumbers_136 rfl rfl
  have h := eF h cs12
  refine Ev.tsOut (pc := 1) (tgt := 137) dX10_areNumbers_1 (eTsO 4 (by decide) (by decide) (by decide) (by
    intro k hk
    rcases (show k = 0 ∨ k = 1 ∨ k = 2 ∨ k = 3 by omega) with rfl | rfl | rfl | rfl
    · exact cs3
    · exact cs6
    · exact cs9
    · exact cs12
    )) (by decide) ?_
  refine Ev.iload_n (pc := 137) dX10_areNumbers_137 rfl ?_
  refine Ev.iconst (pc := 138) dX10_areNumbers_138 (v := 0) (by decide) ?_
  refine Ev.bipush (pc := 139) dX10_areNumbers_139 (v := 9) (by decide) ?_
  refine eBk h (fun q13 hq13 h => ?_)
  refine Ev.callS (pc := 141) (as := [.int x2, .int 0, .int 9]) (st := []) (z := 0) dX10_areNumbers_141 wc_X10_in ml_RX10_58 sm_X10_in (ev_X10_in x2 0 9 M _ hq13) rfl rfl (by decide) rfl rfl (Nat.le_of_ble_eq_true rfl) ?_
  refine Ev.if_eq (pc := 144) (tgt := 161) dX10_areNumbers_144 (by decide) (fun c9 => ?_) (fun c9 => ?_)
  · have h := eT h c9
    refine Ev.iconst (pc := 161) dX10_areNumbers_161 (v := 0) (by decide) ?_
    obtain rfl := Option.some.inj h
    exact Ev.iret (pc := 162) dX10_areNumbers_162 rfl rfl
  · have h := eF h c9
    refine Ev.iload_n (pc := 147) dX10_areNumbers_147 rfl ?_
    refine Ev.iconst (pc := 148) dX10_areNumbers_148 (v := 0) (by decide) ?_
    refine Ev.bipush (pc := 149) dX10_areNumbers_149 (v := 9) (by decide) ?_
    refine eBk h (fun q14 hq14 h => ?_)
    refine Ev.callS (pc := 151) (as := [.int x3, .int 0, .int 9]) (st := []) (z := 0) dX10_areNumbers_151 wc_X10_in ml_RX10_58 sm_X10_in (ev_X10_in x3 0 9 M _ hq14) rfl rfl (by decide) rfl rfl (Nat.le_of_ble_eq_true rfl) ?_
    refine Ev.if_eq (pc := 154) (tgt := 161) dX10_areNumbers_154 (by decide) (fun c9 => ?_) (fun c9 => ?_)
    · have h := eT h c9
      refine Ev.iconst (pc := 161) dX10_areNumbers_161 (v := 0) (by decide) ?_
      obtain rfl := Option.some.inj h
      exact Ev.iret (pc := 162) dX10_areNumbers_162 rfl rfl
    · have h := eF h c9
      refine Ev.iconst (pc := 157) dX10_areNumbers_157 (v := 1) (by decide) ?_
      refine Ev.goto (pc := 158) (tgt := 162) dX10_areNumbers_158 (by decide) ?_
      obtain rfl := Option.some.inj h
      exact Ev.iret (pc := 162) dX10_areNumbers_162 rfl rfl
theorem dX10_setShow_0 : decode cX10_setShow 0 = .ok (.aload_n 0, 1) := by decide +kernel
theorem dX10_setShow_1 : decode cX10_setShow 1 = .ok (.getfield 7, 3) := by decide +kernel
theorem dX10_setShow_4 : decode cX10_setShow 4 = .ok (.sipush 298, 3) := by decide +kernel
theorem dX10_setShow_7 : decode cX10_setShow 7 = .ok (.bipush 10, 2) := by decide +kernel
theorem dX10_setShow_9 : decode cX10_setShow 9 = .ok (.iload_n 1, 1) := by decide +kernel
theorem dX10_setShow_10 : decode cX10_setShow 10 = .ok (.imul, 1) := by decide +kernel
theorem dX10_setShow_11 : decode cX10_setShow 11 = .ok (.iadd, 1) := by decide +kernel
theorem dX10_setShow_12 : decode cX10_setShow 12 = .ok (.iload_n 2, 1) := by decide +kernel
theorem dX10_setShow_13 : decode cX10_setShow 13 = .ok (.iadd, 1) := by decide +kernel
theorem dX10_setShow_14 : decode cX10_setShow 14 = .ok (.iload_n 3, 1) := by decide +kernel
theorem dX10_setShow_15 : decode cX10_setShow 15 = .ok (.iastore, 1) := by decide +kernel
theorem dX10_setShow_16 : decode cX10_setShow 16 = .ok (.return_, 1) := by decide +kernel
def F_X10_setShow (x1 : Int32) (x2 : Int32) (x3 : Int32) (M : eMem) : Option eMem :=
  eG (eIn ((298 + (10 * x1)) + x2) 2900) <|
  some (eI M 1 ((298 + (10 * x1)) + x2).toNatClampNeg x3)
set_option maxRecDepth 100000 in
set_option maxHeartbeats 4000000 in
theorem ev_X10_setShow (x1 : Int32) (x2 : Int32) (x3 : Int32) (M : eMem) (q : eMem) (h : F_X10_setShow x1 x2 x3 M = some q) : Ev layR 0 m_X10_setShow 0 [some (.ref 0), some (.int x1), some (.int x2), some (.int x3)] [] M (none, q) := by
  rw [F_X10_setShow] at h
  refine Ev.aload_n (pc := 0) dX10_setShow_0 rfl ?_
  refine Ev.getR (pc := 1) dX10_setShow_1 fl_RX10_7 lR_0 rfl ?_
  refine Ev.sipush (pc := 4) dX10_setShow_4 (v := 298) (by decide) ?_
  refine Ev.bipush (pc := 7) dX10_setShow_7 (v := 10) (by decide) ?_
  refine Ev.iload_n (pc := 9) dX10_setShow_9 rfl ?_
  refine Ev.imul (pc := 10) dX10_setShow_10 ?_
  refine Ev.iadd (pc := 11) dX10_setShow_11 ?_
  refine Ev.iload_n (pc := 12) dX10_setShow_12 rfl ?_
  refine Ev.iadd (pc := 13) dX10_setShow_13 ?_
  refine Ev.iload_n (pc := 14) dX10_setShow_14 rfl ?_
  obtain ⟨g9, h⟩ := eGdB h
  refine Ev.iastj (pc := 15) dX10_setShow_15 (j := ((298 + (10 * x1)) + x2).toNatClampNeg) lR_1 g9 rfl ?_
  obtain rfl := Option.some.inj h
  exact Ev.vret (pc := 16) dX10_setShow_16 rfl
theorem dX10_show__0 : decode cX10_show_ 0 = .ok (.iload_n 1, 1) := by decide +kernel
theorem dX10_show__1 : decode cX10_show_ 1 = .ok (.iconst 0, 1) := by decide +kernel
theorem dX10_show__2 : decode cX10_show_ 2 = .ok (.bipush 6, 2) := by decide +kernel
theorem dX10_show__4 : decode cX10_show_ 4 = .ok (.invokestatic 58, 3) := by decide +kernel
theorem dX10_show__7 : decode cX10_show_ 7 = .ok (.ifCond .eq 47, 3) := by decide +kernel
theorem dX10_show__10 : decode cX10_show_ 10 = .ok (.iload_n 2, 1) := by decide +kernel
theorem dX10_show__11 : decode cX10_show_ 11 = .ok (.ifCond .lt 43, 3) := by decide +kernel
theorem dX10_show__14 : decode cX10_show_ 14 = .ok (.iload_n 2, 1) := by decide +kernel
theorem dX10_show__15 : decode cX10_show_ 15 = .ok (.bipush 100, 2) := by decide +kernel
theorem dX10_show__17 : decode cX10_show_ 17 = .ok (.idiv, 1) := by decide +kernel
theorem dX10_show__18 : decode cX10_show_ 18 = .ok (.invokestatic 99, 3) := by decide +kernel
theorem dX10_show__21 : decode cX10_show_ 21 = .ok (.ifCond .eq 33, 3) := by decide +kernel
theorem dX10_show__24 : decode cX10_show_ 24 = .ok (.iload_n 2, 1) := by decide +kernel
theorem dX10_show__25 : decode cX10_show_ 25 = .ok (.bipush 100, 2) := by decide +kernel
theorem dX10_show__27 : decode cX10_show_ 27 = .ok (.irem, 1) := by decide +kernel
theorem dX10_show__28 : decode cX10_show_ 28 = .ok (.invokestatic 62, 3) := by decide +kernel
theorem dX10_show__31 : decode cX10_show_ 31 = .ok (.ifCond .eq 23, 3) := by decide +kernel
theorem dX10_show__34 : decode cX10_show_ 34 = .ok (.iload_n 3, 1) := by decide +kernel
theorem dX10_show__35 : decode cX10_show_ 35 = .ok (.ifCond .lt 19, 3) := by decide +kernel
theorem dX10_show__38 : decode cX10_show_ 38 = .ok (.aload_n 0, 1) := by decide +kernel
theorem dX10_show__39 : decode cX10_show_ 39 = .ok (.iload_n 1, 1) := by decide +kernel
theorem dX10_show__40 : decode cX10_show_ 40 = .ok (.iload_n 3, 1) := by decide +kernel
theorem dX10_show__41 : decode cX10_show_ 41 = .ok (.bipush 100, 2) := by decide +kernel
theorem dX10_show__43 : decode cX10_show_ 43 = .ok (.idiv, 1) := by decide +kernel
theorem dX10_show__44 : decode cX10_show_ 44 = .ok (.iload_n 3, 1) := by decide +kernel
theorem dX10_show__45 : decode cX10_show_ 45 = .ok (.bipush 100, 2) := by decide +kernel
theorem dX10_show__47 : decode cX10_show_ 47 = .ok (.irem, 1) := by decide +kernel
theorem dX10_show__48 : decode cX10_show_ 48 = .ok (.invokevirtual 102, 3) := by decide +kernel
theorem dX10_show__51 : decode cX10_show_ 51 = .ok (.ifCond .ne 9, 3) := by decide +kernel
theorem dX10_show__54 : decode cX10_show_ 54 = .ok (.aload_n 0, 1) := by decide +kernel
theorem dX10_show__55 : decode cX10_show_ 55 = .ok (.iconst 1, 1) := by decide +kernel
theorem dX10_show__56 : decode cX10_show_ 56 = .ok (.invokevirtual 66, 3) := by decide +kernel
theorem dX10_show__59 : decode cX10_show_ 59 = .ok (.ireturn, 1) := by decide +kernel
theorem dX10_show__60 : decode cX10_show_ 60 = .ok (.aload_n 0, 1) := by decide +kernel
theorem dX10_show__61 : decode cX10_show_ 61 = .ok (.getfield 7, 3) := by decide +kernel
theorem dX10_show__64 : decode cX10_show_ 64 = .ok (.bipush 9, 2) := by decide +kernel
theorem dX10_show__66 : decode cX10_show_ 66 = .ok (.iaload, 1) := by decide +kernel
theorem dX10_show__67 : decode cX10_show_ 67 = .ok (.bipush 20, 2) := by decide +kernel
theorem dX10_show__69 : decode cX10_show_ 69 = .ok (.if_icmp .ne 9, 3) := by decide +kernel
theorem dX10_show__72 : decode cX10_show_ 72 = .ok (.aload_n 0, 1) := by decide +kernel
theorem dX10_show__73 : decode cX10_show_ 73 = .ok (.iconst 2, 1) := by decide +kernel
theorem dX10_show__74 : decode cX10_show_ 74 = .ok (.invokevirtual 66, 3) := by decide +kernel
theorem dX10_show__77 : decode cX10_show_ 77 = .ok (.ireturn, 1) := by decide +kernel
theorem dX10_show__78 : decode cX10_show_ 78 = .ok (.aload_n 0, 1) := by decide +kernel
theorem dX10_show__79 : decode cX10_show_ 79 = .ok (.getfield 7, 3) := by decide +kernel
theorem dX10_show__82 : decode cX10_show_ 82 = .ok (.bipush 9, 2) := by decide +kernel
theorem dX10_show__84 : decode cX10_show_ 84 = .ok (.iaload, 1) := by decide +kernel
theorem dX10_show__85 : decode cX10_show_ 85 = .ok (.istore 4, 2) := by decide +kernel
theorem dX10_show__87 : decode cX10_show_ 87 = .ok (.aload_n 0, 1) := by decide +kernel
theorem dX10_show__88 : decode cX10_show_ 88 = .ok (.getfield 7, 3) := by decide +kernel
theorem dX10_show__91 : decode cX10_show_ 91 = .ok (.bipush 9, 2) := by decide +kernel
theorem dX10_show__93 : decode cX10_show_ 93 = .ok (.dup2, 1) := by decide +kernel
theorem dX10_show__94 : decode cX10_show_ 94 = .ok (.iaload, 1) := by decide +kernel
theorem dX10_show__95 : decode cX10_show_ 95 = .ok (.iconst 1, 1) := by decide +kernel
theorem dX10_show__96 : decode cX10_show_ 96 = .ok (.iadd, 1) := by decide +kernel
theorem dX10_show__97 : decode cX10_show_ 97 = .ok (.iastore, 1) := by decide +kernel
theorem dX10_show__98 : decode cX10_show_ 98 = .ok (.iconst 0, 1) := by decide +kernel
theorem dX10_show__99 : decode cX10_show_ 99 = .ok (.istore 5, 2) := by decide +kernel
theorem dX10_show__101 : decode cX10_show_ 101 = .ok (.iload 5, 2) := by decide +kernel
theorem dX10_show__103 : decode cX10_show_ 103 = .ok (.bipush 10, 2) := by decide +kernel
theorem dX10_show__105 : decode cX10_show_ 105 = .ok (.if_icmp .ge 18, 3) := by decide +kernel
theorem dX10_show__108 : decode cX10_show_ 108 = .ok (.aload_n 0, 1) := by decide +kernel
theorem dX10_show__109 : decode cX10_show_ 109 = .ok (.iload 4, 2) := by decide +kernel
theorem dX10_show__111 : decode cX10_show_ 111 = .ok (.iload 5, 2) := by decide +kernel
theorem dX10_show__113 : decode cX10_show_ 113 = .ok (.iconst 0, 1) := by decide +kernel
theorem dX10_show__114 : decode cX10_show_ 114 = .ok (.invokevirtual 105, 3) := by decide +kernel
theorem dX10_show__117 : decode cX10_show_ 117 = .ok (.iinc 5 1, 3) := by decide +kernel
theorem dX10_show__120 : decode cX10_show_ 120 = .ok (.goto (-19), 3) := by decide +kernel
theorem dX10_show__123 : decode cX10_show_ 123 = .ok (.aload_n 0, 1) := by decide +kernel
theorem dX10_show__124 : decode cX10_show_ 124 = .ok (.iload 4, 2) := by decide +kernel
theorem dX10_show__126 : decode cX10_show_ 126 = .ok (.iconst 0, 1) := by decide +kernel
theorem dX10_show__127 : decode cX10_show_ 127 = .ok (.iload_n 1, 1) := by decide +kernel
theorem dX10_show__128 : decode cX10_show_ 128 = .ok (.invokevirtual 105, 3) := by decide +kernel
theorem dX10_show__131 : decode cX10_show_ 131 = .ok (.aload_n 0, 1) := by decide +kernel
theorem dX10_show__132 : decode cX10_show_ 132 = .ok (.iload 4, 2) := by decide +kernel
theorem dX10_show__134 : decode cX10_show_ 134 = .ok (.iconst 1, 1) := by decide +kernel
theorem dX10_show__135 : decode cX10_show_ 135 = .ok (.iload_n 2, 1) := by decide +kernel
theorem dX10_show__136 : decode cX10_show_ 136 = .ok (.bipush 100, 2) := by decide +kernel
theorem dX10_show__138 : decode cX10_show_ 138 = .ok (.idiv, 1) := by decide +kernel
theorem dX10_show__139 : decode cX10_show_ 139 = .ok (.invokevirtual 105, 3) := by decide +kernel
theorem dX10_show__142 : decode cX10_show_ 142 = .ok (.aload_n 0, 1) := by decide +kernel
theorem dX10_show__143 : decode cX10_show_ 143 = .ok (.iload 4, 2) := by decide +kernel
theorem dX10_show__145 : decode cX10_show_ 145 = .ok (.iconst 2, 1) := by decide +kernel
theorem dX10_show__146 : decode cX10_show_ 146 = .ok (.iload_n 2, 1) := by decide +kernel
theorem dX10_show__147 : decode cX10_show_ 147 = .ok (.bipush 100, 2) := by decide +kernel
theorem dX10_show__149 : decode cX10_show_ 149 = .ok (.irem, 1) := by decide +kernel
theorem dX10_show__150 : decode cX10_show_ 150 = .ok (.invokevirtual 105, 3) := by decide +kernel
theorem dX10_show__153 : decode cX10_show_ 153 = .ok (.aload_n 0, 1) := by decide +kernel
theorem dX10_show__154 : decode cX10_show_ 154 = .ok (.iload 4, 2) := by decide +kernel
theorem dX10_show__156 : decode cX10_show_ 156 = .ok (.iconst 3, 1) := by decide +kernel
theorem dX10_show__157 : decode cX10_show_ 157 = .ok (.iload_n 3, 1) := by decide +kernel
theorem dX10_show__158 : decode cX10_show_ 158 = .ok (.bipush 100, 2) := by decide +kernel
theorem dX10_show__160 : decode cX10_show_ 160 = .ok (.idiv, 1) := by decide +kernel
theorem dX10_show__161 : decode cX10_show_ 161 = .ok (.invokevirtual 105, 3) := by decide +kernel
theorem dX10_show__164 : decode cX10_show_ 164 = .ok (.aload_n 0, 1) := by decide +kernel
theorem dX10_show__165 : decode cX10_show_ 165 = .ok (.iload 4, 2) := by decide +kernel
theorem dX10_show__167 : decode cX10_show_ 167 = .ok (.iconst 4, 1) := by decide +kernel
theorem dX10_show__168 : decode cX10_show_ 168 = .ok (.iload_n 3, 1) := by decide +kernel
theorem dX10_show__169 : decode cX10_show_ 169 = .ok (.bipush 100, 2) := by decide +kernel
theorem dX10_show__171 : decode cX10_show_ 171 = .ok (.irem, 1) := by decide +kernel
theorem dX10_show__172 : decode cX10_show_ 172 = .ok (.invokevirtual 105, 3) := by decide +kernel
theorem dX10_show__175 : decode cX10_show_ 175 = .ok (.iload 4, 2) := by decide +kernel
theorem dX10_show__177 : decode cX10_show_ 177 = .ok (.ireturn, 1) := by decide +kernel
def F_X10_show__101 (K123 : Int32 → Int32 → Int32 → Int32 → eMem → Option (Int32 × eMem)) : Nat → Int32 → Int32 → Int32 → Int32 → Int32 → eMem → Option (Int32 × eMem)
  | 0, _, _, _, _, _, _ => none
  | n + 1, v1, v2, v3, v4, v5, M =>
    if v5 < 10 then
      (F_X10_setShow v4 v5 0 M).bind fun q10 =>
      F_X10_show__101 K123 n v1 v2 v3 v4 (v5 + 1) q10
    else
      K123 v1 v2 v3 v4 M
set_option maxRecDepth 100000 in
set_option maxHeartbeats 4000000 in
theorem ev_X10_show__101 (K123 : Int32 → Int32 → Int32 → Int32 → eMem → Option (Int32 × eMem)) (q : (Int32 × eMem)) (hK123 : ∀ (v1 : Int32) (v2 : Int32) (v3 : Int32) (v4 : Int32) (M : eMem), K123 v1 v2 v3 v4 M = some q → Ev layR 3 m_X10_show_ 123 [some (.ref 0), some (.int v1), some (.int v2), some (.int v3), some (.int v4), none] [] M (some (.int q.1), q.2)) : ∀ (fuel : Nat) (v1 : Int32) (v2 : Int32) (v3 : Int32) (v4 : Int32) (v5 : Int32) (M : eMem), F_X10_show__101 K123 fuel v1 v2 v3 v4 v5 M = some q → Ev layR 3 m_X10_show_ 101 [some (.ref 0), some (.int v1), some (.int v2), some (.int v3), some (.int v4), some (.int v5)] [] M (some (.int q.1), q.2) := by
  intro fuel
  induction fuel with
  | zero => intro v1 v2 v3 v4 v5 M h; rw [F_X10_show__101] at h; cases h
  | succ n ih =>
    intro v1 v2 v3 v4 v5 M h
    rw [F_X10_show__101] at h
    refine Ev.iload (pc := 101) dX10_show__101 rfl ?_
    refine Ev.bipush (pc := 103) dX10_show__103 (v := 10) (by decide) ?_
    refine Ev.icmp_ge (pc := 105) (tgt := 123) dX10_show__105 (by decide) (fun c9 => ?_) (fun c9 => ?_)
    · have h := eF h c9
      exact Ev.fg (hK123 _ _ _ _ _ h) (And.intro rfl (And.intro rfl (And.intro rfl (And.intro rfl (And.intro rfl trivial)))))
    · have h := eT h c9
      refine Ev.aload_n (pc := 108) dX10_show__108 rfl ?_
      refine Ev.iload (pc := 109) dX10_show__109 rfl ?_
      refine Ev.iload (pc := 111) dX10_show__111 rfl ?_
      refine Ev.iconst (pc := 113) dX10_show__113 (v := 0) (by decide) ?_
      refine eBk h (fun q10 hq10 h => ?_)
      refine Ev.callV (pc := 114) (as := [.int v4, .int v5, .int 0]) (st := []) (z := 0) dX10_show__114 wc_X10_setShow ml_RX10_105 im_X10_setShow se_X10_setShow lR_0 rfl rfl (ev_X10_setShow v4 v5 0 M _ hq10) rfl rfl (by decide) rfl rfl (Nat.le_of_ble_eq_true rfl) ?_
      refine Ev.iincv (pc := 117) dX10_show__117 (v := 1) (by decide) rfl (by decide) rfl rfl ?_
      refine Ev.goto (pc := 120) (tgt := 101) dX10_show__120 (by decide) ?_
      exact Ev.fg (ih _ _ _ _ _ _ h) (And.intro rfl (And.intro rfl (And.intro rfl (And.intro rfl (And.intro rfl (And.intro rfl trivial))))))
def F_X10_show_ (x1 : Int32) (x2 : Int32) (x3 : Int32) (M : eMem) : Option (Int32 × eMem) :=
  (F_X10_in x1 0 6).bind fun q1 =>
  if q1 = 0 then
    (F_X10_finding 1 M).bind fun q2 =>
    some (q2.1, q2.2)
  else
    if x2 < 0 then
      (F_X10_finding 1 M).bind fun q3 =>
      some (q3.1, q3.2)
    else
      (F_X10_isStory (x2 / 100)).bind fun q4 =>
      if q4 = 0 then
        (F_X10_finding 1 M).bind fun q5 =>
        some (q5.1, q5.2)
      else
        (F_X10_isCell (x2 - x2 / 100 * 100)).bind fun q6 =>
        if q6 = 0 then
          (F_X10_finding 1 M).bind fun q7 =>
          some (q7.1, q7.2)
        else
          if x3 < 0 then
            (F_X10_finding 1 M).bind fun q8 =>
            some (q8.1, q8.2)
          else
            (F_X10_areNumbers x1 (x3 / 100) (x3 - x3 / 100 * 100) M).bind fun q9 =>
            if q9 = 0 then
              (F_X10_finding 1 M).bind fun q17 =>
              some (q17.1, q17.2)
            else
              if (M.1 1 9) = 20 then
                (F_X10_finding 2 M).bind fun q16 =>
                some (q16.1, q16.2)
              else
                F_X10_show__101
                  (fun v1 v2 v3 v4 M =>
                    (F_X10_setShow v4 0 v1 M).bind fun q11 =>
                    (F_X10_setShow v4 1 (v2 / 100) q11).bind fun q12 =>
                    (F_X10_setShow v4 2 (v2 - v2 / 100 * 100) q12).bind fun q13 =>
                    (F_X10_setShow v4 3 (v3 / 100) q13).bind fun q14 =>
                    (F_X10_setShow v4 4 (v3 - v3 / 100 * 100) q14).bind fun q15 =>
                    some (v4, q15))
                  eFuel x1 x2 x3 (M.1 1 9) 0 (eI M 1 9 ((M.1 1 9) + 1))
set_option maxRecDepth 100000 in
set_option maxHeartbeats 4000000 in
theorem ev_X10_show_ (x1 : Int32) (x2 : Int32) (x3 : Int32) (M : eMem) (q : (Int32 × eMem)) (h : F_X10_show_ x1 x2 x3 M = some q) : Ev layR 3 m_X10_show_ 0 [some (.ref 0), some (.int x1), some (.int x2), some (.int x3), none, none] [] M (some (.int q.1), q.2) := by
  rw [F_X10_show_] at h
  refine Ev.iload_n (pc := 0) dX10_show__0 rfl ?_
  refine Ev.iconst (pc := 1) dX10_show__1 (v := 0) (by decide) ?_
  refine Ev.bipush (pc := 2) dX10_show__2 (v := 6) (by decide) ?_
  refine eBk h (fun q1 hq1 h => ?_)
  refine Ev.callS (pc := 4) (as := [.int x1, .int 0, .int 6]) (st := []) (z := 0) dX10_show__4 wc_X10_in ml_RX10_58 sm_X10_in (ev_X10_in x1 0 6 M _ hq1) rfl rfl (by decide) rfl rfl (Nat.le_of_ble_eq_true rfl) ?_
  refine Ev.if_eq (pc := 7) (tgt := 54) dX10_show__7 (by decide) (fun c9 => ?_) (fun c9 => ?_)
  · have h := eT h c9
    refine Ev.aload_n (pc := 54) dX10_show__54 rfl ?_
    refine Ev.iconst (pc := 55) dX10_show__55 (v := 1) (by decide) ?_
    refine eBk h (fun q2 hq2 h => ?_)
    refine Ev.callV (pc := 56) (as := [.int 1]) (st := []) (z := 0) dX10_show__56 wc_X10_finding ml_RX10_66 im_X10_finding se_X10_finding lR_0 rfl rfl (ev_X10_finding 1 M _ hq2) rfl rfl (by decide) rfl rfl (Nat.le_of_ble_eq_true rfl) ?_
    obtain rfl := Option.some.inj h
    exact Ev.iret (pc := 59) dX10_show__59 rfl rfl
  · have h := eF h c9
    refine Ev.iload_n (pc := 10) dX10_show__10 rfl ?_
    refine Ev.if_lt (pc := 11) (tgt := 54) dX10_show__11 (by decide) (fun c9 => ?_) (fun c9 => ?_)
    · have h := eT h c9
      refine Ev.aload_n (pc := 54) dX10_show__54 rfl ?_
      refine Ev.iconst (pc := 55) dX10_show__55 (v := 1) (by decide) ?_
      refine eBk h (fun q3 hq3 h => ?_)
      refine Ev.callV (pc := 56) (as := [.int 1]) (st := []) (z := 0) dX10_show__56 wc_X10_finding ml_RX10_66 im_X10_finding se_X10_finding lR_0 rfl rfl (ev_X10_finding 1 M _ hq3) rfl rfl (by decide) rfl rfl (Nat.le_of_ble_eq_true rfl) ?_
      obtain rfl := Option.some.inj h
      exact Ev.iret (pc := 59) dX10_show__59 rfl rfl
    · have h := eF h c9
      refine Ev.iload_n (pc := 14) dX10_show__14 rfl ?_
      refine Ev.bipush (pc := 15) dX10_show__15 (v := 100) (by decide) ?_
      refine Ev.idiv (pc := 17) dX10_show__17 (by decide) ?_
      refine eBk h (fun q4 hq4 h => ?_)
      refine Ev.callS (pc := 18) (as := [.int (x2 / 100)]) (st := []) (z := 0) dX10_show__18 wc_X10_isStory ml_RX10_99 sm_X10_isStory (ev_X10_isStory (x2 / 100) M _ hq4) rfl rfl (by decide) rfl rfl (Nat.le_of_ble_eq_true rfl) ?_
      refine Ev.if_eq (pc := 21) (tgt := 54) dX10_show__21 (by decide) (fun c9 => ?_) (fun c9 => ?_)
      · have h := eT h c9
        refine Ev.aload_n (pc := 54) dX10_show__54 rfl ?_
        refine Ev.iconst (pc := 55) dX10_show__55 (v := 1) (by decide) ?_
        refine eBk h (fun q5 hq5 h => ?_)
        refine Ev.callV (pc := 56) (as := [.int 1]) (st := []) (z := 0) dX10_show__56 wc_X10_finding ml_RX10_66 im_X10_finding se_X10_finding lR_0 rfl rfl (ev_X10_finding 1 M _ hq5) rfl rfl (by decide) rfl rfl (Nat.le_of_ble_eq_true rfl) ?_
        obtain rfl := Option.some.inj h
        exact Ev.iret (pc := 59) dX10_show__59 rfl rfl
      · have h := eF h c9
        refine Ev.iload_n (pc := 24) dX10_show__24 rfl ?_
        refine Ev.bipush (pc := 25) dX10_show__25 (v := 100) (by decide) ?_
        refine Ev.irem (pc := 27) dX10_show__27 (by decide) ?_
        refine eBk h (fun q6 hq6 h => ?_)
        refine Ev.callS (pc := 28) (as := [.int (x2 - x2 / 100 * 100)]) (st := []) (z := 0) dX10_show__28 wc_X10_isCell ml_RX10_62 sm_X10_isCell (ev_X10_isCell (x2 - x2 / 100 * 100) M _ hq6) rfl rfl (by decide) rfl rfl (Nat.le_of_ble_eq_true rfl) ?_
        refine Ev.if_eq (pc := 31) (tgt := 54) dX10_show__31 (by decide) (fun c9 => ?_) (fun c9 => ?_)
        · have h := eT h c9
          refine Ev.aload_n (pc := 54) dX10_show__54 rfl ?_
          refine Ev.iconst (pc := 55) dX10_show__55 (v := 1) (by decide) ?_
          refine eBk h (fun q7 hq7 h => ?_)
          refine Ev.callV (pc := 56) (as := [.int 1]) (st := []) (z := 0) dX10_show__56 wc_X10_finding ml_RX10_66 im_X10_finding se_X10_finding lR_0 rfl rfl (ev_X10_finding 1 M _ hq7) rfl rfl (by decide) rfl rfl (Nat.le_of_ble_eq_true rfl) ?_
          obtain rfl := Option.some.inj h
          exact Ev.iret (pc := 59) dX10_show__59 rfl rfl
        · have h := eF h c9
          refine Ev.iload_n (pc := 34) dX10_show__34 rfl ?_
          refine Ev.if_lt (pc := 35) (tgt := 54) dX10_show__35 (by decide) (fun c9 => ?_) (fun c9 => ?_)
          · have h := eT h c9
            refine Ev.aload_n (pc := 54) dX10_show__54 rfl ?_
            refine Ev.iconst (pc := 55) dX10_show__55 (v := 1) (by decide) ?_
            refine eBk h (fun q8 hq8 h => ?_)
            refine Ev.callV (pc := 56) (as := [.int 1]) (st := []) (z := 0) dX10_show__56 wc_X10_finding ml_RX10_66 im_X10_finding se_X10_finding lR_0 rfl rfl (ev_X10_finding 1 M _ hq8) rfl rfl (by decide) rfl rfl (Nat.le_of_ble_eq_true rfl) ?_
            obtain rfl := Option.some.inj h
            exact Ev.iret (pc := 59) dX10_show__59 rfl rfl
          · have h := eF h c9
            refine Ev.aload_n (pc := 38) dX10_show__38 rfl ?_
            refine Ev.iload_n (pc := 39) dX10_show__39 rfl ?_
            refine Ev.iload_n (pc := 40) dX10_show__40 rfl ?_
            refine Ev.bipush (pc := 41) dX10_show__41 (v := 100) (by decide) ?_
            refine Ev.idiv (pc := 43) dX10_show__43 (by decide) ?_
            refine Ev.iload_n (pc := 44) dX10_show__44 rfl ?_
            refine Ev.bipush (pc := 45) dX10_show__45 (v := 100) (by decide) ?_
            refine Ev.irem (pc := 47) dX10_show__47 (by decide) ?_
            refine eBk h (fun q9 hq9 h => ?_)
            refine Ev.callV (pc := 48) (as := [.int x1, .int (x3 / 100), .int (x3 - x3 / 100 * 100)]) (st := []) (z := 0) dX10_show__48 wc_X10_areNumbers ml_RX10_102 im_X10_areNumbers se_X10_areNumbers lR_0 rfl rfl (ev_X10_areNumbers x1 (x3 / 100) (x3 - x3 / 100 * 100) M _ hq9) rfl rfl (by decide) rfl rfl (Nat.le_of_ble_eq_true rfl) ?_
            refine Ev.if_ne (pc := 51) (tgt := 60) dX10_show__51 (by decide) (fun c9 => ?_) (fun c9 => ?_)
            · have h := eF h c9
              refine Ev.aload_n (pc := 60) dX10_show__60 rfl ?_
              refine Ev.getR (pc := 61) dX10_show__61 fl_RX10_7 lR_0 rfl ?_
              refine Ev.bipush (pc := 64) dX10_show__64 (v := 9) (by decide) ?_
              refine Ev.ialdj (pc := 66) dX10_show__66 (j := 9) lR_1 (by decide) (by decide) ?_
              refine Ev.bipush (pc := 67) dX10_show__67 (v := 20) (by decide) ?_
              refine Ev.icmp_ne (pc := 69) (tgt := 78) dX10_show__69 (by decide) (fun c9 => ?_) (fun c9 => ?_)
              · have h := eF h c9
                refine Ev.aload_n (pc := 78) dX10_show__78 rfl ?_
                refine Ev.getR (pc := 79) dX10_show__79 fl_RX10_7 lR_0 rfl ?_
                refine Ev.bipush (pc := 82) dX10_show__82 (v := 9) (by decide) ?_
                refine Ev.ialdj (pc := 84) dX10_show__84 (j := 9) lR_1 (by decide) (by decide) ?_
                refine Ev.istore (pc := 85) dX10_show__85 (by decide) rfl rfl ?_
                refine Ev.aload_n (pc := 87) dX10_show__87 rfl ?_
                refine Ev.getR (pc := 88) dX10_show__88 fl_RX10_7 lR_0 rfl ?_
                refine Ev.bipush (pc := 91) dX10_show__91 (v := 9) (by decide) ?_
                refine Ev.dup2 (pc := 93) dX10_show__93 rfl rfl ?_
                refine Ev.ialdj (pc := 94) dX10_show__94 (j := 9) lR_1 (by decide) (by decide) ?_
                refine Ev.iconst (pc := 95) dX10_show__95 (v := 1) (by decide) ?_
                refine Ev.iadd (pc := 96) dX10_show__96 ?_
                refine Ev.iastj (pc := 97) dX10_show__97 (j := 9) lR_1 (by decide) (by decide) ?_
                refine Ev.iconst (pc := 98) dX10_show__98 (v := 0) (by decide) ?_
                refine Ev.istore (pc := 99) dX10_show__99 (by decide) rfl rfl ?_
                refine Ev.fg (ev_X10_show__101 _ _ ?_ _ _ _ _ _ _ _ h) (And.intro rfl (And.intro rfl (And.intro rfl (And.intro rfl (And.intro rfl (And.intro rfl trivial))))))
                · intro v1 v2 v3 v4 M h
                  refine Ev.aload_n (pc := 123) dX10_show__123 rfl ?_
                  refine Ev.iload (pc := 124) dX10_show__124 rfl ?_
                  refine Ev.iconst (pc := 126) dX10_show__126 (v := 0) (by decide) ?_
                  refine Ev.iload_n (pc := 127) dX10_show__127 rfl ?_
                  refine eBk h (fun q11 hq11 h => ?_)
                  refine Ev.callV (pc := 128) (as := [.int v4, .int 0, .int v1]) (st := []) (z := 0) dX10_show__128 wc_X10_setShow ml_RX10_105 im_X10_setShow se_X10_setShow lR_0 rfl rfl (ev_X10_setShow v4 0 v1 M _ hq11) rfl rfl (by decide) rfl rfl (Nat.le_of_ble_eq_true rfl) ?_
                  refine Ev.aload_n (pc := 131) dX10_show__131 rfl ?_
                  refine Ev.iload (pc := 132) dX10_show__132 rfl ?_
                  refine Ev.iconst (pc := 134) dX10_show__134 (v := 1) (by decide) ?_
                  refine Ev.iload_n (pc := 135) dX10_show__135 rfl ?_
                  refine Ev.bipush (pc := 136) dX10_show__136 (v := 100) (by decide) ?_
                  refine Ev.idiv (pc := 138) dX10_show__138 (by decide) ?_
                  refine eBk h (fun q12 hq12 h => ?_)
                  refine Ev.callV (pc := 139) (as := [.int v4, .int 1, .int (v2 / 100)]) (st := []) (z := 0) dX10_show__139 wc_X10_setShow ml_RX10_105 im_X10_setShow se_X10_setShow lR_0 rfl rfl (ev_X10_setShow v4 1 (v2 / 100) q11 _ hq12) rfl rfl (by decide) rfl rfl (Nat.le_of_ble_eq_true rfl) ?_
                  refine Ev.aload_n (pc := 142) dX10_show__142 rfl ?_
                  refine Ev.iload (pc := 143) dX10_show__143 rfl ?_
                  refine Ev.iconst (pc := 145) dX10_show__145 (v := 2) (by decide) ?_
                  refine Ev.iload_n (pc := 146) dX10_show__146 rfl ?_
                  refine Ev.bipush (pc := 147) dX10_show__147 (v := 100) (by decide) ?_
                  refine Ev.irem (pc := 149) dX10_show__149 (by decide) ?_
                  refine eBk h (fun q13 hq13 h => ?_)
                  refine Ev.callV (pc := 150) (as := [.int v4, .int 2, .int (v2 - v2 / 100 * 100)]) (st := []) (z := 0) dX10_show__150 wc_X10_setShow ml_RX10_105 im_X10_setShow se_X10_setShow lR_0 rfl rfl (ev_X10_setShow v4 2 (v2 - v2 / 100 * 100) q12 _ hq13) rfl rfl (by decide) rfl rfl (Nat.le_of_ble_eq_true rfl) ?_
                  refine Ev.aload_n (pc := 153) dX10_show__153 rfl ?_
                  refine Ev.iload (pc := 154) dX10_show__154 rfl ?_
                  refine Ev.iconst (pc := 156) dX10_show__156 (v := 3) (by decide) ?_
                  refine Ev.iload_n (pc := 157) dX10_show__157 rfl ?_
                  refine Ev.bipush (pc := 158) dX10_show__158 (v := 100) (by decide) ?_
                  refine Ev.idiv (pc := 160) dX10_show__160 (by decide) ?_
                  refine eBk h (fun q14 hq14 h => ?_)
                  refine Ev.callV (pc := 161) (as := [.int v4, .int 3, .int (v3 / 100)]) (st := []) (z := 0) dX10_show__161 wc_X10_setShow ml_RX10_105 im_X10_setShow se_X10_setShow lR_0 rfl rfl (ev_X10_setShow v4 3 (v3 / 100) q13 _ hq14) rfl rfl (by decide) rfl rfl (Nat.le_of_ble_eq_true rfl) ?_
                  refine Ev.aload_n (pc := 164) dX10_show__164 rfl ?_
                  refine Ev.iload (pc := 165) dX10_show__165 rfl ?_
                  refine Ev.iconst (pc := 167) dX10_show__167 (v := 4) (by decide) ?_
                  refine Ev.iload_n (pc := 168) dX10_show__168 rfl ?_
                  refine Ev.bipush (pc := 169) dX10_show__169 (v := 100) (by decide) ?_
                  refine Ev.irem (pc := 171) dX10_show__171 (by decide) ?_
                  refine eBk h (fun q15 hq15 h => ?_)
                  refine Ev.callV (pc := 172) (as := [.int v4, .int 4, .int (v3 - v3 / 100 * 100)]) (st := []) (z := 0) dX10_show__172 wc_X10_setShow ml_RX10_105 im_X10_setShow se_X10_setShow lR_0 rfl rfl (ev_X10_setShow v4 4 (v3 - v3 / 100 * 100) q14 _ hq15) rfl rfl (by decide) rfl rfl (Nat.le_of_ble_eq_true rfl) ?_
                  refine Ev.iload (pc := 175) dX10_show__175 rfl ?_
                  obtain rfl := Option.some.inj h
                  exact Ev.iret (pc := 177) dX10_show__177 rfl rfl
              · have h := eT h c9
                refine Ev.aload_n (pc := 72) dX10_show__72 rfl ?_
                refine Ev.iconst (pc := 73) dX10_show__73 (v := 2) (by decide) ?_
                refine eBk h (fun q16 hq16 h => ?_)
                refine Ev.callV (pc := 74) (as := [.int 2]) (st := []) (z := 0) dX10_show__74 wc_X10_finding ml_RX10_66 im_X10_finding se_X10_finding lR_0 rfl rfl (ev_X10_finding 2 M _ hq16) rfl rfl (by decide) rfl rfl (Nat.le_of_ble_eq_true rfl) ?_
                obtain rfl := Option.some.inj h
                exact Ev.iret (pc := 77) dX10_show__77 rfl rfl
            · have h := eT h c9
              refine Ev.aload_n (pc := 54) dX10_show__54 rfl ?_
              refine Ev.iconst (pc := 55) dX10_show__55 (v := 1) (by decide) ?_
              refine eBk h (fun q17 hq17 h => ?_)
              refine Ev.callV (pc := 56) (as := [.int 1]) (st := []) (z := 0) dX10_show__56 wc_X10_finding ml_RX10_66 im_X10_finding se_X10_finding lR_0 rfl rfl (ev_X10_finding 1 M _ hq17) rfl rfl (by decide) rfl rfl (Nat.le_of_ble_eq_true rfl) ?_
              obtain rfl := Option.some.inj h
              exact Ev.iret (pc := 59) dX10_show__59 rfl rfl
theorem dX5_has_0 : decode cX5_has 0 = .ok (.iload_n 1, 1) := by decide +kernel
theorem dX5_has_1 : decode cX5_has 1 = .ok (.aload_n 0, 1) := by decide +kernel
theorem dX5_has_2 : decode cX5_has 2 = .ok (.getfield 43, 3) := by decide +kernel
theorem dX5_has_5 : decode cX5_has 5 = .ok (.invokestatic 47, 3) := by decide +kernel
theorem dX5_has_8 : decode cX5_has 8 = .ok (.ireturn, 1) := by decide +kernel
def F_X5_has (x1 : Int32) (M : eMem) : Option Int32 :=
  (F_X9_isIn x1 (M.1 12 10)).bind fun q1 =>
  eG (decide (vp_nar .boolean q1 = q1)) <|
  some q1
set_option maxRecDepth 100000 in
set_option maxHeartbeats 4000000 in
theorem ev_X5_has (x1 : Int32) (M : eMem) (q : Int32) (h : F_X5_has x1 M = some q) : Ev layC 1 m_X5_has 0 [some (.ref 12), some (.int x1)] [] M (some (.int q), M) := by
  rw [F_X5_has] at h
  refine Ev.iload_n (pc := 0) dX5_has_0 rfl ?_
  refine Ev.aload_n (pc := 1) dX5_has_1 rfl ?_
  refine Ev.getI (pc := 2) dX5_has_2 fl_RX5_43 lC_12 rfl ?_
  refine eBk h (fun q1 hq1 h => ?_)
  refine Ev.callSN (host := "GhostCoast") (pc := 5) (as := [.int x1, .int (M.1 12 10)]) (st := []) (z := 0) dX5_has_5 wc_X9_isIn mn_RX5_47 sm_X9_isIn (ev_X9_isIn x1 (M.1 12 10) M _ hq1) rfl rfl (by decide) rfl rfl (Nat.le_of_ble_eq_true rfl) ?_
  obtain ⟨g9, h⟩ := eGdB h
  have g9 := of_decide_eq_true g9
  obtain rfl := Option.some.inj h
  exact Ev.iret (pc := 8) dX5_has_8 rfl (eNar_boolean g9)
