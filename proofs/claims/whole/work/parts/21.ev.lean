theorem dX3_putDaily_0 : decode cX3_putDaily 0 = .ok (.bipush 12, 2) := by decide +kernel
theorem dX3_putDaily_2 : decode cX3_putDaily 2 = .ok (.iload_n 1, 1) := by decide +kernel
theorem dX3_putDaily_3 : decode cX3_putDaily 3 = .ok (.invokestatic 78, 3) := by decide +kernel
theorem dX3_putDaily_6 : decode cX3_putDaily 6 = .ok (.iload_n 2, 1) := by decide +kernel
theorem dX3_putDaily_7 : decode cX3_putDaily 7 = .ok (.imul, 1) := by decide +kernel
theorem dX3_putDaily_8 : decode cX3_putDaily 8 = .ok (.invokestatic 69, 3) := by decide +kernel
theorem dX3_putDaily_11 : decode cX3_putDaily 11 = .ok (.istore 4, 2) := by decide +kernel
theorem dX3_putDaily_13 : decode cX3_putDaily 13 = .ok (.aload_n 0, 1) := by decide +kernel
theorem dX3_putDaily_14 : decode cX3_putDaily 14 = .ok (.iload 4, 2) := by decide +kernel
theorem dX3_putDaily_16 : decode cX3_putDaily 16 = .ok (.invokevirtual 84, 3) := by decide +kernel
theorem dX3_putDaily_19 : decode cX3_putDaily 19 = .ok (.iconst 0, 1) := by decide +kernel
theorem dX3_putDaily_20 : decode cX3_putDaily 20 = .ok (.istore 5, 2) := by decide +kernel
theorem dX3_putDaily_22 : decode cX3_putDaily 22 = .ok (.iload 5, 2) := by decide +kernel
theorem dX3_putDaily_24 : decode cX3_putDaily 24 = .ok (.iload_n 2, 1) := by decide +kernel
theorem dX3_putDaily_25 : decode cX3_putDaily 25 = .ok (.if_icmp .ge 71, 3) := by decide +kernel
theorem dX3_putDaily_28 : decode cX3_putDaily 28 = .ok (.iload 4, 2) := by decide +kernel
theorem dX3_putDaily_30 : decode cX3_putDaily 30 = .ok (.ifCond .le 66, 3) := by decide +kernel
theorem dX3_putDaily_33 : decode cX3_putDaily 33 = .ok (.aload_n 3, 1) := by decide +kernel
theorem dX3_putDaily_34 : decode cX3_putDaily 34 = .ok (.getfield 88, 3) := by decide +kernel
theorem dX3_putDaily_37 : decode cX3_putDaily 37 = .ok (.iconst 1, 1) := by decide +kernel
theorem dX3_putDaily_38 : decode cX3_putDaily 38 = .ok (.isub, 1) := by decide +kernel
theorem dX3_putDaily_39 : decode cX3_putDaily 39 = .ok (.istore 6, 2) := by decide +kernel
theorem dX3_putDaily_41 : decode cX3_putDaily 41 = .ok (.iload 6, 2) := by decide +kernel
theorem dX3_putDaily_43 : decode cX3_putDaily 43 = .ok (.ifCond .lt 47, 3) := by decide +kernel
theorem dX3_putDaily_46 : decode cX3_putDaily 46 = .ok (.iload 4, 2) := by decide +kernel
theorem dX3_putDaily_48 : decode cX3_putDaily 48 = .ok (.ifCond .le 42, 3) := by decide +kernel
theorem dX3_putDaily_51 : decode cX3_putDaily 51 = .ok (.iload_n 1, 1) := by decide +kernel
theorem dX3_putDaily_52 : decode cX3_putDaily 52 = .ok (.iload 6, 2) := by decide +kernel
theorem dX3_putDaily_54 : decode cX3_putDaily 54 = .ok (.ishr, 1) := by decide +kernel
theorem dX3_putDaily_55 : decode cX3_putDaily 55 = .ok (.iconst 1, 1) := by decide +kernel
theorem dX3_putDaily_56 : decode cX3_putDaily 56 = .ok (.iand, 1) := by decide +kernel
theorem dX3_putDaily_57 : decode cX3_putDaily 57 = .ok (.ifCond .ne 6, 3) := by decide +kernel
theorem dX3_putDaily_60 : decode cX3_putDaily 60 = .ok (.goto 24, 3) := by decide +kernel
theorem dX3_putDaily_63 : decode cX3_putDaily 63 = .ok (.aload_n 0, 1) := by decide +kernel
theorem dX3_putDaily_64 : decode cX3_putDaily 64 = .ok (.aload_n 3, 1) := by decide +kernel
theorem dX3_putDaily_65 : decode cX3_putDaily 65 = .ok (.getfield 91, 3) := by decide +kernel
theorem dX3_putDaily_68 : decode cX3_putDaily 68 = .ok (.iload 6, 2) := by decide +kernel
theorem dX3_putDaily_70 : decode cX3_putDaily 70 = .ok (.iaload, 1) := by decide +kernel
theorem dX3_putDaily_71 : decode cX3_putDaily 71 = .ok (.iconst 1, 1) := by decide +kernel
theorem dX3_putDaily_72 : decode cX3_putDaily 72 = .ok (.aload_n 3, 1) := by decide +kernel
theorem dX3_putDaily_73 : decode cX3_putDaily 73 = .ok (.iload 6, 2) := by decide +kernel
theorem dX3_putDaily_75 : decode cX3_putDaily 75 = .ok (.invokevirtual 92, 3) := by decide +kernel
theorem dX3_putDaily_78 : decode cX3_putDaily 78 = .ok (.invokevirtual 62, 3) := by decide +kernel
theorem dX3_putDaily_81 : decode cX3_putDaily 81 = .ok (.iinc 4 (-1), 3) := by decide +kernel
theorem dX3_putDaily_84 : decode cX3_putDaily 84 = .ok (.iinc 6 (-1), 3) := by decide +kernel
theorem dX3_putDaily_87 : decode cX3_putDaily 87 = .ok (.goto (-46), 3) := by decide +kernel
theorem dX3_putDaily_90 : decode cX3_putDaily 90 = .ok (.iinc 5 1, 3) := by decide +kernel
theorem dX3_putDaily_93 : decode cX3_putDaily 93 = .ok (.goto (-71), 3) := by decide +kernel
theorem dX3_putDaily_96 : decode cX3_putDaily 96 = .ok (.return_, 1) := by decide +kernel
def F_X3_putDaily_41 (K90 : Int32 → Int32 → Int32 → Int32 → eMem → Option eMem) : Nat → Int32 → Int32 → Int32 → Int32 → Int32 → eMem → Option eMem
  | 0, _, _, _, _, _, _ => none
  | n + 1, v1, v2, v4, v5, v6, M =>
    if v6 < 0 then
      K90 v1 v2 v4 v5 M
    else
      if 0 < v4 then
        if ((v1 >>> (v6 &&& 31)) &&& 1) = 0 then
          F_X3_putDaily_41 K90 n v1 v2 v4 v5 (v6 + (-1)) M
        else
          eG (eIn v6 20) <|
          (F_X5_credit v6 M).bind fun q3 =>
          (F_X3_put (M.1 14 v6.toNatClampNeg) 1 q3 M).bind fun q4 =>
          F_X3_putDaily_41 K90 n v1 v2 (v4 + (-1)) v5 (v6 + (-1)) q4
      else
        K90 v1 v2 v4 v5 M
set_option maxRecDepth 100000 in
set_option maxHeartbeats 4000000 in
theorem ev_X3_putDaily_41 (K90 : Int32 → Int32 → Int32 → Int32 → eMem → Option eMem) (q : eMem) (hK90 : ∀ (v1 : Int32) (v2 : Int32) (v4 : Int32) (v5 : Int32) (M : eMem), K90 v1 v2 v4 v5 M = some q → Ev layC 2 m_X3_putDaily 90 [some (.ref 55), some (.int v1), some (.int v2), some (.ref 12), some (.int v4), some (.int v5), none] [] M (none, q)) : ∀ (fuel : Nat) (v1 : Int32) (v2 : Int32) (v4 : Int32) (v5 : Int32) (v6 : Int32) (M : eMem), F_X3_putDaily_41 K90 fuel v1 v2 v4 v5 v6 M = some q → Ev layC 2 m_X3_putDaily 41 [some (.ref 55), some (.int v1), some (.int v2), some (.ref 12), some (.int v4), some (.int v5), some (.int v6)] [] M (none, q) := by
  intro fuel
  induction fuel with
  | zero => intro v1 v2 v4 v5 v6 M h; rw [F_X3_putDaily_41] at h; cases h
  | succ n ih =>
    intro v1 v2 v4 v5 v6 M h
    rw [F_X3_putDaily_41] at h
    refine Ev.iload (pc := 41) dX3_putDaily_41 rfl ?_
    refine Ev.if_lt (pc := 43) (tgt := 90) dX3_putDaily_43 (by decide) (fun c9 => ?_) (fun c9 => ?_)
    · have h := eT h c9
      exact Ev.fg (hK90 _ _ _ _ _ h) (And.intro rfl (And.intro rfl (And.intro rfl (And.intro rfl (And.intro rfl (And.intro rfl trivial))))))
    · have h := eF h c9
      refine Ev.iload (pc := 46) dX3_putDaily_46 rfl ?_
      refine Ev.if_le (pc := 48) (tgt := 90) dX3_putDaily_48 (by decide) (fun c9 => ?_) (fun c9 => ?_)
      · have h := eF h c9
        exact Ev.fg (hK90 _ _ _ _ _ h) (And.intro rfl (And.intro rfl (And.intro rfl (And.intro rfl (And.intro rfl (And.intro rfl trivial))))))
      · have h := eT h c9
        refine Ev.iload_n (pc := 51) dX3_putDaily_51 rfl ?_
        refine Ev.iload (pc := 52) dX3_putDaily_52 rfl ?_
        refine Ev.ishr (pc := 54) dX3_putDaily_54 ?_
        refine Ev.iconst (pc := 55) dX3_putDaily_55 (v := 1) (by decide) ?_
        refine Ev.iand (pc := 56) dX3_putDaily_56 ?_
        refine Ev.if_ne (pc := 57) (tgt := 63) dX3_putDaily_57 (by decide) (fun c9 => ?_) (fun c9 => ?_)
        · have h := eF h c9
          refine Ev.aload_n (pc := 63) dX3_putDaily_63 rfl ?_
          refine Ev.aload_n (pc := 64) dX3_putDaily_64 rfl ?_
          refine Ev.getR (pc := 65) dX3_putDaily_65 fl_RX3_91 lC_12 rfl ?_
          refine Ev.iload (pc := 68) dX3_putDaily_68 rfl ?_
          obtain ⟨g9, h⟩ := eGdB h
          refine Ev.ialdj (pc := 70) dX3_putDaily_70 (j := v6.toNatClampNeg) lC_14 g9 rfl ?_
          refine Ev.iconst (pc := 71) dX3_putDaily_71 (v := 1) (by decide) ?_
          refine Ev.aload_n (pc := 72) dX3_putDaily_72 rfl ?_
          refine Ev.iload (pc := 73) dX3_putDaily_73 rfl ?_
          refine eBk h (fun q3 hq3 h => ?_)
          refine Ev.callV (pc := 75) (as := [.int v6]) (st := [.int 1, .int (M.1 14 v6.toNatClampNeg), .ref 55]) (z := 0) dX3_putDaily_75 wc_X5_credit ml_RX3_92 im_X5_credit se_X5_credit lC_12 rfl rfl (ev_X5_credit v6 M _ hq3) rfl rfl (by decide) rfl rfl (Nat.le_of_ble_eq_true rfl) ?_
          refine eBk h (fun q4 hq4 h => ?_)
          refine Ev.callV (pc := 78) (as := [.int (M.1 14 v6.toNatClampNeg), .int 1, .int q3]) (st := []) (z := 1) dX3_putDaily_78 wc_X3_put ml_RX3_62 im_X3_put se_X3_put lC_55 rfl rfl (ev_X3_put (M.1 14 v6.toNatClampNeg) 1 q3 M _ hq4) rfl rfl (by decide) rfl rfl (Nat.le_of_ble_eq_true rfl) ?_
          refine Ev.iincv (pc := 81) dX3_putDaily_81 (v := (-1)) (by decide) rfl (by decide) rfl rfl ?_
          refine Ev.iincv (pc := 84) dX3_putDaily_84 (v := (-1)) (by decide) rfl (by decide) rfl rfl ?_
          refine Ev.goto (pc := 87) (tgt := 41) dX3_putDaily_87 (by decide) ?_
          exact Ev.fg (ih _ _ _ _ _ _ h) (And.intro rfl (And.intro rfl (And.intro rfl (And.intro rfl (And.intro rfl (And.intro rfl (And.intro rfl trivial)))))))
        · have h := eT h c9
          refine Ev.goto (pc := 60) (tgt := 84) dX3_putDaily_60 (by decide) ?_
          refine Ev.iincv (pc := 84) dX3_putDaily_84 (v := (-1)) (by decide) rfl (by decide) rfl rfl ?_
          refine Ev.goto (pc := 87) (tgt := 41) dX3_putDaily_87 (by decide) ?_
          exact Ev.fg (ih _ _ _ _ _ _ h) (And.intro rfl (And.intro rfl (And.intro rfl (And.intro rfl (And.intro rfl (And.intro rfl (And.intro rfl trivial)))))))
def F_X3_putDaily_22  : Nat → Int32 → Int32 → Int32 → Int32 → eMem → Option eMem
  | 0, _, _, _, _, _ => none
  | n + 1, v1, v2, v4, v5, M =>
    if v5 < v2 then
      if 0 < v4 then
        F_X3_putDaily_41
          (fun v1 v2 v4 v5 M =>
            F_X3_putDaily_22 n v1 v2 v4 (v5 + 1) M)
          eFuel v1 v2 v4 v5 ((M.1 12 10) - 1) M
      else
        some M
    else
      some M
set_option maxRecDepth 100000 in
set_option maxHeartbeats 4000000 in
theorem ev_X3_putDaily_22  (q : eMem)  : ∀ (fuel : Nat) (v1 : Int32) (v2 : Int32) (v4 : Int32) (v5 : Int32) (M : eMem), F_X3_putDaily_22 fuel v1 v2 v4 v5 M = some q → Ev layC 2 m_X3_putDaily 22 [some (.ref 55), some (.int v1), some (.int v2), some (.ref 12), some (.int v4), some (.int v5), none] [] M (none, q) := by
  intro fuel
  induction fuel with
  | zero => intro v1 v2 v4 v5 M h; rw [F_X3_putDaily_22] at h; cases h
  | succ n ih =>
    intro v1 v2 v4 v5 M h
    rw [F_X3_putDaily_22] at h
    refine Ev.iload (pc := 22) dX3_putDaily_22 rfl ?_
    refine Ev.iload_n (pc := 24) dX3_putDaily_24 rfl ?_
    refine Ev.icmp_ge (pc := 25) (tgt := 96) dX3_putDaily_25 (by decide) (fun c9 => ?_) (fun c9 => ?_)
    · have h := eF h c9
      obtain rfl := Option.some.inj h
      exact Ev.vret (pc := 96) dX3_putDaily_96 rfl
    · have h := eT h c9
      refine Ev.iload (pc := 28) dX3_putDaily_28 rfl ?_
      refine Ev.if_le (pc := 30) (tgt := 96) dX3_putDaily_30 (by decide) (fun c9 => ?_) (fun c9 => ?_)
      · have h := eF h c9
        obtain rfl := Option.some.inj h
        exact Ev.vret (pc := 96) dX3_putDaily_96 rfl
      · have h := eT h c9
        refine Ev.aload_n (pc := 33) dX3_putDaily_33 rfl ?_
        refine Ev.getI (pc := 34) dX3_putDaily_34 fl_RX3_88 lC_12 rfl ?_
        refine Ev.iconst (pc := 37) dX3_putDaily_37 (v := 1) (by decide) ?_
        refine Ev.isub (pc := 38) dX3_putDaily_38 ?_
        refine Ev.istore (pc := 39) dX3_putDaily_39 (by decide) rfl rfl ?_
        refine Ev.fg (ev_X3_putDaily_41 _ _ ?_ _ _ _ _ _ _ _ h) (And.intro rfl (And.intro rfl (And.intro rfl (And.intro rfl (And.intro rfl (And.intro rfl (And.intro rfl trivial)))))))
        · intro v1 v2 v4 v5 M h
          refine Ev.iincv (pc := 90) dX3_putDaily_90 (v := 1) (by decide) rfl (by decide) rfl rfl ?_
          refine Ev.goto (pc := 93) (tgt := 22) dX3_putDaily_93 (by decide) ?_
          exact Ev.fg (ih _ _ _ _ _ h) (And.intro rfl (And.intro rfl (And.intro rfl (And.intro rfl (And.intro rfl (And.intro rfl trivial))))))
def F_X3_putDaily (x1 : Int32) (x2 : Int32) (M : eMem) : Option eMem :=
  (F_J6_bitCount_0f7a4 x1).bind fun q1 =>
  (F_X3_leaveRoomFor (eMin 12 (q1 * x2)) M).bind fun q2 =>
  F_X3_putDaily_22 eFuel x1 x2 (eMin 12 (q1 * x2)) 0 q2
set_option maxRecDepth 100000 in
set_option maxHeartbeats 4000000 in
theorem ev_X3_putDaily (x1 : Int32) (x2 : Int32) (M : eMem) (q : eMem) (h : F_X3_putDaily x1 x2 M = some q) : Ev layC 2 m_X3_putDaily 0 [some (.ref 55), some (.int x1), some (.int x2), some (.ref 12), none, none, none] [] M (none, q) := by
  rw [F_X3_putDaily] at h
  refine Ev.bipush (pc := 0) dX3_putDaily_0 (v := 12) (by decide) ?_
  refine Ev.iload_n (pc := 2) dX3_putDaily_2 rfl ?_
  refine eBk h (fun q1 hq1 h => ?_)
  refine Ev.callS (pc := 3) (as := [.int x1]) (st := [.int 12]) (z := 0) dX3_putDaily_3 wc_J6_bitCount_0f7a4 ml_RX3_78 sm_J6_bitCount_0f7a4 (ev_J6_bitCount_0f7a4 x1 M _ hq1) rfl rfl (by decide) rfl rfl (Nat.le_of_ble_eq_true rfl) ?_
  refine Ev.iload_n (pc := 6) dX3_putDaily_6 rfl ?_
  refine Ev.imul (pc := 7) dX3_putDaily_7 ?_
  refine Ev.mmin (pc := 8) dX3_putDaily_8 mm_RX3_69 (by decide) (Nat.le_of_ble_eq_true rfl) ?_
  refine Ev.istore (pc := 11) dX3_putDaily_11 (by decide) rfl rfl ?_
  refine Ev.aload_n (pc := 13) dX3_putDaily_13 rfl ?_
  refine Ev.iload (pc := 14) dX3_putDaily_14 rfl ?_
  refine eBk h (fun q2 hq2 h => ?_)
  refine Ev.callV (pc := 16) (as := [.int (eMin 12 (q1 * x2))]) (st := []) (z := 1) dX3_putDaily_16 wc_X3_leaveRoomFor ml_RX3_84 im_X3_leaveRoomFor se_X3_leaveRoomFor lC_55 rfl rfl (ev_X3_leaveRoomFor (eMin 12 (q1 * x2)) M _ hq2) rfl rfl (by decide) rfl rfl (Nat.le_of_ble_eq_true rfl) ?_
  refine Ev.iconst (pc := 19) dX3_putDaily_19 (v := 0) (by decide) ?_
  refine Ev.istore (pc := 20) dX3_putDaily_20 (by decide) rfl rfl ?_
  exact Ev.fg (ev_X3_putDaily_22 _ _ _ _ _ _ _ h) (And.intro rfl (And.intro rfl (And.intro rfl (And.intro rfl (And.intro rfl (And.intro rfl trivial))))))
theorem dX8_firstDayWithout_0 : decode cX8_firstDayWithout 0 = .ok (.iconst 1, 1) := by decide +kernel
theorem dX8_firstDayWithout_1 : decode cX8_firstDayWithout 1 = .ok (.istore_n 3, 1) := by decide +kernel
theorem dX8_firstDayWithout_2 : decode cX8_firstDayWithout 2 = .ok (.iload_n 3, 1) := by decide +kernel
theorem dX8_firstDayWithout_3 : decode cX8_firstDayWithout 3 = .ok (.bipush 30, 2) := by decide +kernel
theorem dX8_firstDayWithout_5 : decode cX8_firstDayWithout 5 = .ok (.if_icmp .gt 74, 3) := by decide +kernel
theorem dX8_firstDayWithout_8 : decode cX8_firstDayWithout 8 = .ok (.aload_n 0, 1) := by decide +kernel
theorem dX8_firstDayWithout_9 : decode cX8_firstDayWithout 9 = .ok (.getfield 56, 3) := by decide +kernel
theorem dX8_firstDayWithout_12 : decode cX8_firstDayWithout 12 = .ok (.aload_n 0, 1) := by decide +kernel
theorem dX8_firstDayWithout_13 : decode cX8_firstDayWithout 13 = .ok (.getfield 35, 3) := by decide +kernel
theorem dX8_firstDayWithout_16 : decode cX8_firstDayWithout 16 = .ok (.aload_n 0, 1) := by decide +kernel
theorem dX8_firstDayWithout_17 : decode cX8_firstDayWithout 17 = .ok (.getfield 21, 3) := by decide +kernel
theorem dX8_firstDayWithout_20 : decode cX8_firstDayWithout 20 = .ok (.aload_n 0, 1) := by decide +kernel
theorem dX8_firstDayWithout_21 : decode cX8_firstDayWithout 21 = .ok (.getfield 12, 3) := by decide +kernel
theorem dX8_firstDayWithout_24 : decode cX8_firstDayWithout 24 = .ok (.getfield 85, 3) := by decide +kernel
theorem dX8_firstDayWithout_27 : decode cX8_firstDayWithout 27 = .ok (.bipush 24, 2) := by decide +kernel
theorem dX8_firstDayWithout_29 : decode cX8_firstDayWithout 29 = .ok (.iload_n 3, 1) := by decide +kernel
theorem dX8_firstDayWithout_30 : decode cX8_firstDayWithout 30 = .ok (.imul, 1) := by decide +kernel
theorem dX8_firstDayWithout_31 : decode cX8_firstDayWithout 31 = .ok (.iadd, 1) := by decide +kernel
theorem dX8_firstDayWithout_32 : decode cX8_firstDayWithout 32 = .ok (.invokevirtual 150, 3) := by decide +kernel
theorem dX8_firstDayWithout_35 : decode cX8_firstDayWithout 35 = .ok (.aload_n 0, 1) := by decide +kernel
theorem dX8_firstDayWithout_36 : decode cX8_firstDayWithout 36 = .ok (.getfield 56, 3) := by decide +kernel
theorem dX8_firstDayWithout_39 : decode cX8_firstDayWithout 39 = .ok (.iload_n 2, 1) := by decide +kernel
theorem dX8_firstDayWithout_40 : decode cX8_firstDayWithout 40 = .ok (.iload_n 3, 1) := by decide +kernel
theorem dX8_firstDayWithout_41 : decode cX8_firstDayWithout 41 = .ok (.aload_n 0, 1) := by decide +kernel
theorem dX8_firstDayWithout_42 : decode cX8_firstDayWithout 42 = .ok (.getfield 35, 3) := by decide +kernel
theorem dX8_firstDayWithout_45 : decode cX8_firstDayWithout 45 = .ok (.getfield 191, 3) := by decide +kernel
theorem dX8_firstDayWithout_48 : decode cX8_firstDayWithout 48 = .ok (.iconst 1, 1) := by decide +kernel
theorem dX8_firstDayWithout_49 : decode cX8_firstDayWithout 49 = .ok (.iadd, 1) := by decide +kernel
theorem dX8_firstDayWithout_50 : decode cX8_firstDayWithout 50 = .ok (.invokestatic 194, 3) := by decide +kernel
theorem dX8_firstDayWithout_53 : decode cX8_firstDayWithout 53 = .ok (.aload_n 0, 1) := by decide +kernel
theorem dX8_firstDayWithout_54 : decode cX8_firstDayWithout 54 = .ok (.getfield 21, 3) := by decide +kernel
theorem dX8_firstDayWithout_57 : decode cX8_firstDayWithout 57 = .ok (.invokevirtual 199, 3) := by decide +kernel
theorem dX8_firstDayWithout_60 : decode cX8_firstDayWithout 60 = .ok (.aload_n 0, 1) := by decide +kernel
theorem dX8_firstDayWithout_61 : decode cX8_firstDayWithout 61 = .ok (.getfield 56, 3) := by decide +kernel
theorem dX8_firstDayWithout_64 : decode cX8_firstDayWithout 64 = .ok (.invokevirtual 203, 3) := by decide +kernel
theorem dX8_firstDayWithout_67 : decode cX8_firstDayWithout 67 = .ok (.iload_n 1, 1) := by decide +kernel
theorem dX8_firstDayWithout_68 : decode cX8_firstDayWithout 68 = .ok (.if_icmp .eq 5, 3) := by decide +kernel
theorem dX8_firstDayWithout_71 : decode cX8_firstDayWithout 71 = .ok (.iload_n 3, 1) := by decide +kernel
theorem dX8_firstDayWithout_72 : decode cX8_firstDayWithout 72 = .ok (.ireturn, 1) := by decide +kernel
theorem dX8_firstDayWithout_73 : decode cX8_firstDayWithout 73 = .ok (.iinc 3 1, 3) := by decide +kernel
theorem dX8_firstDayWithout_76 : decode cX8_firstDayWithout 76 = .ok (.goto (-74), 3) := by decide +kernel
theorem dX8_firstDayWithout_79 : decode cX8_firstDayWithout 79 = .ok (.iconst (-1), 1) := by decide +kernel
theorem dX8_firstDayWithout_80 : decode cX8_firstDayWithout 80 = .ok (.ireturn, 1) := by decide +kernel
def F_X8_firstDayWithout_2  : Nat → Int32 → Int32 → Int32 → eMem → Option (Int32 × eMem)
  | 0, _, _, _, _ => none
  | n + 1, v1, v2, v3, M =>
    if 30 < v3 then
      some ((-1), M)
    else
      (F_X3_load ((M.1 2 11) + (24 * v3)) M).bind fun q1 =>
      (F_X3_putDaily v2 (eMin v3 ((q1.1 29 8) + 1)) q1).bind fun q2 =>
      (F_X3_heaviest q2).bind fun q3 =>
      if q3 = v1 then
        F_X8_firstDayWithout_2 n v1 v2 (v3 + 1) q2
      else
        some (v3, q2)
set_option maxRecDepth 100000 in
set_option maxHeartbeats 4000000 in
theorem ev_X8_firstDayWithout_2  (q : (Int32 × eMem))  : ∀ (fuel : Nat) (v1 : Int32) (v2 : Int32) (v3 : Int32) (M : eMem), F_X8_firstDayWithout_2 fuel v1 v2 v3 M = some q → Ev layC 4 m_X8_firstDayWithout 2 [some (.ref 1), some (.int v1), some (.int v2), some (.int v3)] [] M (some (.int q.1), q.2) := by
  intro fuel
  induction fuel with
  | zero => intro v1 v2 v3 M h; rw [F_X8_firstDayWithout_2] at h; cases h
  | succ n ih =>
    intro v1 v2 v3 M h
    rw [F_X8_firstDayWithout_2] at h
    refine Ev.iload_n (pc := 2) dX8_firstDayWithout_2 rfl ?_
    refine Ev.bipush (pc := 3) dX8_firstDayWithout_3 (v := 30) (by decide) ?_
    refine Ev.icmp_gt (pc := 5) (tgt := 79) dX8_firstDayWithout_5 (by decide) (fun c9 => ?_) (fun c9 => ?_)
    · have h := eT h c9
      refine Ev.iconst (pc := 79) dX8_firstDayWithout_79 (v := (-1)) (by decide) ?_
      obtain rfl := Option.some.inj h
      exact Ev.iret (pc := 80) dX8_firstDayWithout_80 rfl rfl
    · have h := eF h c9
      refine Ev.aload_n (pc := 8) dX8_firstDayWithout_8 rfl ?_
      refine Ev.getR (pc := 9) dX8_firstDayWithout_9 fl_RX8_56 lC_1 rfl ?_
      refine Ev.aload_n (pc := 12) dX8_firstDayWithout_12 rfl ?_
      refine Ev.getR (pc := 13) dX8_firstDayWithout_13 fl_RX8_35 lC_1 rfl ?_
      refine Ev.aload_n (pc := 16) dX8_firstDayWithout_16 rfl ?_
      refine Ev.getR (pc := 17) dX8_firstDayWithout_17 fl_RX8_21 lC_1 rfl ?_
      refine Ev.aload_n (pc := 20) dX8_firstDayWithout_20 rfl ?_
      refine Ev.getR (pc := 21) dX8_firstDayWithout_21 fl_RX8_12 lC_1 rfl ?_
      refine Ev.getI (pc := 24) dX8_firstDayWithout_24 fl_RX8_85 lC_2 rfl ?_
      refine Ev.bipush (pc := 27) dX8_firstDayWithout_27 (v := 24) (by decide) ?_
      refine Ev.iload_n (pc := 29) dX8_firstDayWithout_29 rfl ?_
      refine Ev.imul (pc := 30) dX8_firstDayWithout_30 ?_
      refine Ev.iadd (pc := 31) dX8_firstDayWithout_31 ?_
      refine eBk h (fun q1 hq1 h => ?_)
      refine Ev.callV (pc := 32) (as := [.ref 29, .ref 12, .int ((M.1 2 11) + (24 * v3))]) (st := []) (z := 2) dX8_firstDayWithout_32 wc_X3_load ml_RX8_150 im_X3_load se_X3_load lC_55 rfl rfl (ev_X3_load ((M.1 2 11) + (24 * v3)) M _ hq1) rfl rfl (by decide) rfl rfl (Nat.le_of_ble_eq_true rfl) ?_
      refine Ev.aload_n (pc := 35) dX8_firstDayWithout_35 rfl ?_
      refine Ev.getR (pc := 36) dX8_firstDayWithout_36 fl_RX8_56 lC_1 rfl ?_
      refine Ev.iload_n (pc := 39) dX8_firstDayWithout_39 rfl ?_
      refine Ev.iload_n (pc := 40) dX8_firstDayWithout_40 rfl ?_
      refine Ev.aload_n (pc := 41) dX8_firstDayWithout_41 rfl ?_
      refine Ev.getR (pc := 42) dX8_firstDayWithout_42 fl_RX8_35 lC_1 rfl ?_
      refine Ev.getI (pc := 45) dX8_firstDayWithout_45 fl_RX8_191 lC_29 rfl ?_
      refine Ev.iconst (pc := 48) dX8_firstDayWithout_48 (v := 1) (by decide) ?_
      refine Ev.iadd (pc := 49) dX8_firstDayWithout_49 ?_
      refine Ev.mmin (pc := 50) dX8_firstDayWithout_50 mm_RX8_194 (by decide) (Nat.le_of_ble_eq_true rfl) ?_
      refine Ev.aload_n (pc := 53) dX8_firstDayWithout_53 rfl ?_
      refine Ev.getR (pc := 54) dX8_firstDayWithout_54 fl_RX8_21 lC_1 rfl ?_
      refine eBk h (fun q2 hq2 h => ?_)
      refine Ev.callV (pc := 57) (as := [.int v2, .int (eMin v3 ((q1.1 29 8) + 1)), .ref 12]) (st := []) (z := 3) dX8_firstDayWithout_57 wc_X3_putDaily ml_RX8_199 im_X3_putDaily se_X3_putDaily lC_55 rfl rfl (ev_X3_putDaily v2 (eMin v3 ((q1.1 29 8) + 1)) q1 _ hq2) rfl rfl (by decide) rfl rfl (Nat.le_of_ble_eq_true rfl) ?_
      refine Ev.aload_n (pc := 60) dX8_firstDayWithout_60 rfl ?_
      refine Ev.getR (pc := 61) dX8_firstDayWithout_61 fl_RX8_56 lC_1 rfl ?_
      refine eBk h (fun q3 hq3 h => ?_)
      refine Ev.callV (pc := 64) (as := []) (st := []) (z := 2) dX8_firstDayWithout_64 wc_X3_heaviest ml_RX8_203 im_X3_heaviest se_X3_heaviest lC_55 rfl rfl (ev_X3_heaviest  q2 _ hq3) rfl rfl (by decide) rfl rfl (Nat.le_of_ble_eq_true rfl) ?_
      refine Ev.iload_n (pc := 67) dX8_firstDayWithout_67 rfl ?_
      refine Ev.icmp_eq (pc := 68) (tgt := 73) dX8_firstDayWithout_68 (by decide) (fun c9 => ?_) (fun c9 => ?_)
      · have h := eT h c9
        refine Ev.iincv (pc := 73) dX8_firstDayWithout_73 (v := 1) (by decide) rfl (by decide) rfl rfl ?_
        refine Ev.goto (pc := 76) (tgt := 2) dX8_firstDayWithout_76 (by decide) ?_
        exact Ev.fg (ih _ _ _ _ h) (And.intro rfl (And.intro rfl (And.intro rfl (And.intro rfl trivial))))
      · have h := eF h c9
        refine Ev.iload_n (pc := 71) dX8_firstDayWithout_71 rfl ?_
        obtain rfl := Option.some.inj h
        exact Ev.iret (pc := 72) dX8_firstDayWithout_72 rfl rfl
def F_X8_firstDayWithout (x1 : Int32) (x2 : Int32) (M : eMem) : Option (Int32 × eMem) :=
  F_X8_firstDayWithout_2 eFuel x1 x2 1 M
set_option maxRecDepth 100000 in
set_option maxHeartbeats 4000000 in
theorem ev_X8_firstDayWithout (x1 : Int32) (x2 : Int32) (M : eMem) (q : (Int32 × eMem)) (h : F_X8_firstDayWithout x1 x2 M = some q) : Ev layC 4 m_X8_firstDayWithout 0 [some (.ref 1), some (.int x1), some (.int x2), none] [] M (some (.int q.1), q.2) := by
  rw [F_X8_firstDayWithout] at h
  refine Ev.iconst (pc := 0) dX8_firstDayWithout_0 (v := 1) (by decide) ?_
  refine Ev.istore_n (pc := 1) dX8_firstDayWithout_1 (by decide) rfl rfl ?_
  exact Ev.fg (ev_X8_firstDayWithout_2 _ _ _ _ _ _ h) (And.intro rfl (And.intro rfl (And.intro rfl (And.intro rfl trivial))))
theorem dX9_last_0 : decode cX9_last 0 = .ok (.iload_n 1, 1) := by decide +kernel
theorem dX9_last_1 : decode cX9_last 1 = .ok (.iconst 4, 1) := by decide +kernel
theorem dX9_last_2 : decode cX9_last 2 = .ok (.invokestatic 37, 3) := by decide +kernel
theorem dX9_last_5 : decode cX9_last 5 = .ok (.ifCond .eq 17, 3) := by decide +kernel
theorem dX9_last_8 : decode cX9_last 8 = .ok (.aload_n 0, 1) := by decide +kernel
theorem dX9_last_9 : decode cX9_last 9 = .ok (.getfield 12, 3) := by decide +kernel
theorem dX9_last_12 : decode cX9_last 12 = .ok (.getfield 130, 3) := by decide +kernel
theorem dX9_last_15 : decode cX9_last 15 = .ok (.iload_n 2, 1) := by decide +kernel
theorem dX9_last_16 : decode cX9_last 16 = .ok (.invokevirtual 350, 3) := by decide +kernel
theorem dX9_last_19 : decode cX9_last 19 = .ok (.ifCond .ne 10, 3) := by decide +kernel
theorem dX9_last_22 : decode cX9_last 22 = .ok (.aload_n 0, 1) := by decide +kernel
theorem dX9_last_23 : decode cX9_last 23 = .ok (.ldc 41, 2) := by decide +kernel
theorem dX9_last_25 : decode cX9_last 25 = .ok (.invokevirtual 42, 3) := by decide +kernel
theorem dX9_last_28 : decode cX9_last 28 = .ok (.ireturn, 1) := by decide +kernel
theorem dX9_last_29 : decode cX9_last 29 = .ok (.iload_n 2, 1) := by decide +kernel
theorem dX9_last_30 : decode cX9_last 30 = .ok (.invokestatic 353, 3) := by decide +kernel
theorem dX9_last_33 : decode cX9_last 33 = .ok (.bipush 9, 2) := by decide +kernel
theorem dX9_last_35 : decode cX9_last 35 = .ok (.if_icmp .le 10, 3) := by decide +kernel
theorem dX9_last_38 : decode cX9_last 38 = .ok (.aload_n 0, 1) := by decide +kernel
theorem dX9_last_39 : decode cX9_last 39 = .ok (.ldc 192, 2) := by decide +kernel
theorem dX9_last_41 : decode cX9_last 41 = .ok (.invokevirtual 42, 3) := by decide +kernel
theorem dX9_last_44 : decode cX9_last 44 = .ok (.ireturn, 1) := by decide +kernel
theorem dX9_last_45 : decode cX9_last 45 = .ok (.aload_n 0, 1) := by decide +kernel
theorem dX9_last_46 : decode cX9_last 46 = .ok (.getfield 12, 3) := by decide +kernel
theorem dX9_last_49 : decode cX9_last 49 = .ok (.iload_n 1, 1) := by decide +kernel
theorem dX9_last_50 : decode cX9_last 50 = .ok (.iload_n 2, 1) := by decide +kernel
theorem dX9_last_51 : decode cX9_last 51 = .ok (.aload_n 0, 1) := by decide +kernel
theorem dX9_last_52 : decode cX9_last 52 = .ok (.getfield 12, 3) := by decide +kernel
theorem dX9_last_55 : decode cX9_last 55 = .ok (.invokevirtual 365, 3) := by decide +kernel
theorem dX9_last_58 : decode cX9_last 58 = .ok (.iand, 1) := by decide +kernel
theorem dX9_last_59 : decode cX9_last 59 = .ok (.invokevirtual 368, 3) := by decide +kernel
theorem dX9_last_62 : decode cX9_last 62 = .ok (.istore_n 3, 1) := by decide +kernel
theorem dX9_last_63 : decode cX9_last 63 = .ok (.iload_n 3, 1) := by decide +kernel
theorem dX9_last_64 : decode cX9_last 64 = .ok (.iconst (-1), 1) := by decide +kernel
theorem dX9_last_65 : decode cX9_last 65 = .ok (.if_icmp .ne 12, 3) := by decide +kernel
theorem dX9_last_68 : decode cX9_last 68 = .ok (.aload_n 0, 1) := by decide +kernel
theorem dX9_last_69 : decode cX9_last 69 = .ok (.ldc 108, 2) := by decide +kernel
theorem dX9_last_71 : decode cX9_last 71 = .ok (.invokevirtual 42, 3) := by decide +kernel
theorem dX9_last_74 : decode cX9_last 74 = .ok (.goto 4, 3) := by decide +kernel
theorem dX9_last_77 : decode cX9_last 77 = .ok (.iload_n 3, 1) := by decide +kernel
theorem dX9_last_78 : decode cX9_last 78 = .ok (.ireturn, 1) := by decide +kernel
def F_X9_last (x1 : Int32) (x2 : Int32) (M : eMem) : Option (Int32 × eMem) :=
  (F_X9_isIn x1 4).bind fun q1 =>
  if q1 = 0 then
    (F_X9_found (-1000001) M).bind fun q2 =>
    some (q2.1, q2.2)
  else
    (F_X5_hasAll x2 M).bind fun q3 =>
    if q3 = 0 then
      (F_X9_found (-1000001) M).bind fun q9 =>
      some (q9.1, q9.2)
    else
      (F_J6_bitCount_0f7a4 x2).bind fun q4 =>
      if 9 < q4 then
        (F_X9_found (-1000007) M).bind fun q8 =>
        some (q8.1, q8.2)
      else
        (F_X8_shownSet M).bind fun q5 =>
        (F_X8_firstDayWithout x1 (x2 &&& q5.1) q5.2).bind fun q6 =>
        if q6.1 = (-1) then
          (F_X9_found (-1000004) q6.2).bind fun q7 =>
          some (q7.1, q7.2)
        else
          some (q6.1, q6.2)
set_option maxRecDepth 100000 in
set_option maxHeartbeats 4000000 in
theorem ev_X9_last (x1 : Int32) (x2 : Int32) (M : eMem) (q : (Int32 × eMem)) (h : F_X9_last x1 x2 M = some q) : Ev layC 5 m_X9_last 0 [some (.ref 0), some (.int x1), some (.int x2), none] [] M (some (.int q.1), q.2) := by
  rw [F_X9_last] at h
  refine Ev.iload_n (pc := 0) dX9_last_0 rfl ?_
  refine Ev.iconst (pc := 1) dX9_last_1 (v := 4) (by decide) ?_
  refine eBk h (fun q1 hq1 h => ?_)
  refine Ev.callS (pc := 2) (as := [.int x1, .int 4]) (st := []) (z := 0) dX9_last_2 wc_X9_isIn ml_RX9_37 sm_X9_isIn (ev_X9_isIn x1 4 M _ hq1) rfl rfl (by decide) rfl rfl (Nat.le_of_ble_eq_true rfl) ?_
  refine Ev.if_eq (pc := 5) (tgt := 22) dX9_last_5 (by decide) (fun c9 => ?_) (fun c9 => ?_)
  · have h := eT h c9
    refine Ev.aload_n (pc := 22) dX9_last_22 rfl ?_
    refine Ev.ldc (pc := 23) dX9_last_23 ld_RX9_41 ?_
    refine eBk h (fun q2 hq2 h => ?_)
    refine Ev.callV (pc := 25) (as := [.int (-1000001)]) (st := []) (z := 1) dX9_last_25 wc_X9_found ml_RX9_42 im_X9_found se_X9_found lC_0 rfl rfl (ev_X9_found (-1000001) M _ hq2) rfl rfl (by decide) rfl rfl (Nat.le_of_ble_eq_true rfl) ?_
    obtain rfl := Option.some.inj h
    exact Ev.iret (pc := 28) dX9_last_28 rfl rfl
  · have h := eF h c9
    refine Ev.aload_n (pc := 8) dX9_last_8 rfl ?_
    refine Ev.getR (pc := 9) dX9_last_9 fl_RX9_12 lC_0 rfl ?_
    refine Ev.getR (pc := 12) dX9_last_12 fl_RX9_130 lC_1 rfl ?_
    refine Ev.iload_n (pc := 15) dX9_last_15 rfl ?_
    refine eBk h (fun q3 hq3 h => ?_)
    refine Ev.callV (pc := 16) (as := [.int x2]) (st := []) (z := 0) dX9_last_16 wc_X5_hasAll ml_RX9_350 im_X5_hasAll se_X5_hasAll lC_12 rfl rfl (ev_X5_hasAll x2 M _ hq3) rfl rfl (by decide) rfl rfl (Nat.le_of_ble_eq_true rfl) ?_
    refine Ev.if_ne (pc := 19) (tgt := 29) dX9_last_19 (by decide) (fun c9 => ?_) (fun c9 => ?_)
    · have h := eF h c9
      refine Ev.iload_n (pc := 29) dX9_last_29 rfl ?_
      refine eBk h (fun q4 hq4 h => ?_)
      refine Ev.callS (pc := 30) (as := [.int x2]) (st := []) (z := 0) dX9_last_30 wc_J6_bitCount_0f7a4 ml_RX9_353 sm_J6_bitCount_0f7a4 (ev_J6_bitCount_0f7a4 x2 M _ hq4) rfl rfl (by decide) rfl rfl (Nat.le_of_ble_eq_true rfl) ?_
      refine Ev.bipush (pc := 33) dX9_last_33 (v := 9) (by decide) ?_
      refine Ev.icmp_le (pc := 35) (tgt := 45) dX9_last_35 (by decide) (fun c9 => ?_) (fun c9 => ?_)
      · have h := eF h c9
        refine Ev.aload_n (pc := 45) dX9_last_45 rfl ?_
        refine Ev.getR (pc := 46) dX9_last_46 fl_RX9_12 lC_0 rfl ?_
        refine Ev.iload_n (pc := 49) dX9_last_49 rfl ?_
        refine Ev.iload_n (pc := 50) dX9_last_50 rfl ?_
        refine Ev.aload_n (pc := 51) dX9_last_51 rfl ?_
        refine Ev.getR (pc := 52) dX9_last_52 fl_RX9_12 lC_0 rfl ?_
        refine eBk h (fun q5 hq5 h => ?_)
        refine Ev.callV (pc := 55) (as := []) (st := [.int x2, .int x1, .ref 1]) (z := 2) dX9_last_55 wc_X8_shownSet ml_RX9_365 im_X8_shownSet se_X8_shownSet lC_1 rfl rfl (ev_X8_shownSet  M _ hq5) rfl rfl (by decide) rfl rfl (Nat.le_of_ble_eq_true rfl) ?_
        refine Ev.iand (pc := 58) dX9_last_58 ?_
        refine eBk h (fun q6 hq6 h => ?_)
        refine Ev.callV (pc := 59) (as := [.int x1, .int (x2 &&& q5.1)]) (st := []) (z := 1) dX9_last_59 wc_X8_firstDayWithout ml_RX9_368 im_X8_firstDayWithout se_X8_firstDayWithout lC_1 rfl rfl (ev_X8_firstDayWithout x1 (x2 &&& q5.1) q5.2 _ hq6) rfl rfl (by decide) rfl rfl (Nat.le_of_ble_eq_true rfl) ?_
        refine Ev.istore_n (pc := 62) dX9_last_62 (by decide) rfl rfl ?_
        refine Ev.iload_n (pc := 63) dX9_last_63 rfl ?_
        refine Ev.iconst (pc := 64) dX9_last_64 (v := (-1)) (by decide) ?_
        refine Ev.icmp_ne (pc := 65) (tgt := 77) dX9_last_65 (by decide) (fun c9 => ?_) (fun c9 => ?_)
        · have h := eF h c9
          refine Ev.iload_n (pc := 77) dX9_last_77 rfl ?_
          obtain rfl := Option.some.inj h
          exact Ev.iret (pc := 78) dX9_last_78 rfl rfl
        · have h := eT h c9
          refine Ev.aload_n (pc := 68) dX9_last_68 rfl ?_
          refine Ev.ldc (pc := 69) dX9_last_69 ld_RX9_108 ?_
          refine eBk h (fun q7 hq7 h => ?_)
          refine Ev.callV (pc := 71) (as := [.int (-1000004)]) (st := []) (z := 1) dX9_last_71 wc_X9_found ml_RX9_42 im_X9_found se_X9_found lC_0 rfl rfl (ev_X9_found (-1000004) q6.2 _ hq7) rfl rfl (by decide) rfl rfl (Nat.le_of_ble_eq_true rfl) ?_
          refine Ev.goto (pc := 74) (tgt := 78) dX9_last_74 (by decide) ?_
          obtain rfl := Option.some.inj h
          exact Ev.iret (pc := 78) dX9_last_78 rfl rfl
      · have h := eT h c9
        refine Ev.aload_n (pc := 38) dX9_last_38 rfl ?_
        refine Ev.ldc (pc := 39) dX9_last_39 ld_RX9_192 ?_
        refine eBk h (fun q8 hq8 h => ?_)
        refine Ev.callV (pc := 41) (as := [.int (-1000007)]) (st := []) (z := 1) dX9_last_41 wc_X9_found ml_RX9_42 im_X9_found se_X9_found lC_0 rfl rfl (ev_X9_found (-1000007) M _ hq8) rfl rfl (by decide) rfl rfl (Nat.le_of_ble_eq_true rfl) ?_
        obtain rfl := Option.some.inj h
        exact Ev.iret (pc := 44) dX9_last_44 rfl rfl
    · have h := eT h c9
      refine Ev.aload_n (pc := 22) dX9_last_22 rfl ?_
      refine Ev.ldc (pc := 23) dX9_last_23 ld_RX9_41 ?_
      refine eBk h (fun q9 hq9 h => ?_)
      refine Ev.callV (pc := 25) (as := [.int (-1000001)]) (st := []) (z := 1) dX9_last_25 wc_X9_found ml_RX9_42 im_X9_found se_X9_found lC_0 rfl rfl (ev_X9_found (-1000001) M _ hq9) rfl rfl (by decide) rfl rfl (Nat.le_of_ble_eq_true rfl) ?_
      obtain rfl := Option.some.inj h
      exact Ev.iret (pc := 28) dX9_last_28 rfl rfl
theorem dX10_last_0 : decode cX10_last 0 = .ok (.iload_n 1, 1) := by decide +kernel
theorem dX10_last_1 : decode cX10_last 1 = .ok (.invokestatic 99, 3) := by decide +kernel
theorem dX10_last_4 : decode cX10_last 4 = .ok (.ifCond .eq 11, 3) := by decide +kernel
theorem dX10_last_7 : decode cX10_last 7 = .ok (.aload_n 0, 1) := by decide +kernel
theorem dX10_last_8 : decode cX10_last 8 = .ok (.iload_n 2, 1) := by decide +kernel
theorem dX10_last_9 : decode cX10_last 9 = .ok (.invokevirtual 252, 3) := by decide +kernel
theorem dX10_last_12 : decode cX10_last 12 = .ok (.ifCond .ne 9, 3) := by decide +kernel
theorem dX10_last_15 : decode cX10_last 15 = .ok (.aload_n 0, 1) := by decide +kernel
theorem dX10_last_16 : decode cX10_last 16 = .ok (.iconst 1, 1) := by decide +kernel
theorem dX10_last_17 : decode cX10_last 17 = .ok (.invokevirtual 66, 3) := by decide +kernel
theorem dX10_last_20 : decode cX10_last 20 = .ok (.ireturn, 1) := by decide +kernel
theorem dX10_last_21 : decode cX10_last 21 = .ok (.iload_n 2, 1) := by decide +kernel
theorem dX10_last_22 : decode cX10_last 22 = .ok (.invokestatic 255, 3) := by decide +kernel
theorem dX10_last_25 : decode cX10_last 25 = .ok (.bipush 9, 2) := by decide +kernel
theorem dX10_last_27 : decode cX10_last 27 = .ok (.if_icmp .le 10, 3) := by decide +kernel
theorem dX10_last_30 : decode cX10_last 30 = .ok (.aload_n 0, 1) := by decide +kernel
theorem dX10_last_31 : decode cX10_last 31 = .ok (.bipush 7, 2) := by decide +kernel
theorem dX10_last_33 : decode cX10_last 33 = .ok (.invokevirtual 66, 3) := by decide +kernel
theorem dX10_last_36 : decode cX10_last 36 = .ok (.ireturn, 1) := by decide +kernel
theorem dX10_last_37 : decode cX10_last 37 = .ok (.iconst 0, 1) := by decide +kernel
theorem dX10_last_38 : decode cX10_last 38 = .ok (.istore_n 3, 1) := by decide +kernel
theorem dX10_last_39 : decode cX10_last 39 = .ok (.iconst 0, 1) := by decide +kernel
theorem dX10_last_40 : decode cX10_last 40 = .ok (.istore 4, 2) := by decide +kernel
theorem dX10_last_42 : decode cX10_last 42 = .ok (.iload 4, 2) := by decide +kernel
theorem dX10_last_44 : decode cX10_last 44 = .ok (.aload_n 0, 1) := by decide +kernel
theorem dX10_last_45 : decode cX10_last 45 = .ok (.getfield 7, 3) := by decide +kernel
theorem dX10_last_48 : decode cX10_last 48 = .ok (.bipush 9, 2) := by decide +kernel
theorem dX10_last_50 : decode cX10_last 50 = .ok (.iaload, 1) := by decide +kernel
theorem dX10_last_51 : decode cX10_last 51 = .ok (.if_icmp .ge 39, 3) := by decide +kernel
theorem dX10_last_54 : decode cX10_last 54 = .ok (.iload_n 3, 1) := by decide +kernel
theorem dX10_last_55 : decode cX10_last 55 = .ok (.iload_n 2, 1) := by decide +kernel
theorem dX10_last_56 : decode cX10_last 56 = .ok (.iload 4, 2) := by decide +kernel
theorem dX10_last_58 : decode cX10_last 58 = .ok (.ishr, 1) := by decide +kernel
theorem dX10_last_59 : decode cX10_last 59 = .ok (.iconst 1, 1) := by decide +kernel
theorem dX10_last_60 : decode cX10_last 60 = .ok (.iand, 1) := by decide +kernel
theorem dX10_last_61 : decode cX10_last 61 = .ok (.iconst 1, 1) := by decide +kernel
theorem dX10_last_62 : decode cX10_last 62 = .ok (.if_icmp .ne 19, 3) := by decide +kernel
theorem dX10_last_65 : decode cX10_last 65 = .ok (.aload_n 0, 1) := by decide +kernel
theorem dX10_last_66 : decode cX10_last 66 = .ok (.iload 4, 2) := by decide +kernel
theorem dX10_last_68 : decode cX10_last 68 = .ok (.invokevirtual 80, 3) := by decide +kernel
theorem dX10_last_71 : decode cX10_last 71 = .ok (.ifCond .eq 10, 3) := by decide +kernel
theorem dX10_last_74 : decode cX10_last 74 = .ok (.iconst 1, 1) := by decide +kernel
theorem dX10_last_75 : decode cX10_last 75 = .ok (.iload 4, 2) := by decide +kernel
theorem dX10_last_77 : decode cX10_last 77 = .ok (.ishl, 1) := by decide +kernel
theorem dX10_last_78 : decode cX10_last 78 = .ok (.goto 4, 3) := by decide +kernel
theorem dX10_last_81 : decode cX10_last 81 = .ok (.iconst 0, 1) := by decide +kernel
theorem dX10_last_82 : decode cX10_last 82 = .ok (.ior, 1) := by decide +kernel
theorem dX10_last_83 : decode cX10_last 83 = .ok (.istore_n 3, 1) := by decide +kernel
theorem dX10_last_84 : decode cX10_last 84 = .ok (.iinc 4 1, 3) := by decide +kernel
theorem dX10_last_87 : decode cX10_last 87 = .ok (.goto (-45), 3) := by decide +kernel
theorem dX10_last_90 : decode cX10_last 90 = .ok (.iconst 1, 1) := by decide +kernel
theorem dX10_last_91 : decode cX10_last 91 = .ok (.istore 4, 2) := by decide +kernel
theorem dX10_last_93 : decode cX10_last 93 = .ok (.iload 4, 2) := by decide +kernel
theorem dX10_last_95 : decode cX10_last 95 = .ok (.bipush 30, 2) := by decide +kernel
theorem dX10_last_97 : decode cX10_last 97 = .ok (.if_icmp .gt 104, 3) := by decide +kernel
theorem dX10_last_100 : decode cX10_last 100 = .ok (.aload_n 0, 1) := by decide +kernel
theorem dX10_last_101 : decode cX10_last 101 = .ok (.getfield 7, 3) := by decide +kernel
theorem dX10_last_104 : decode cX10_last 104 = .ok (.iconst 0, 1) := by decide +kernel
theorem dX10_last_105 : decode cX10_last 105 = .ok (.iaload, 1) := by decide +kernel
theorem dX10_last_106 : decode cX10_last 106 = .ok (.bipush 24, 2) := by decide +kernel
theorem dX10_last_108 : decode cX10_last 108 = .ok (.iload 4, 2) := by decide +kernel
theorem dX10_last_110 : decode cX10_last 110 = .ok (.imul, 1) := by decide +kernel
theorem dX10_last_111 : decode cX10_last 111 = .ok (.iadd, 1) := by decide +kernel
theorem dX10_last_112 : decode cX10_last 112 = .ok (.istore 5, 2) := by decide +kernel
theorem dX10_last_114 : decode cX10_last 114 = .ok (.aload_n 0, 1) := by decide +kernel
theorem dX10_last_115 : decode cX10_last 115 = .ok (.iload 5, 2) := by decide +kernel
theorem dX10_last_117 : decode cX10_last 117 = .ok (.invokevirtual 154, 3) := by decide +kernel
theorem dX10_last_120 : decode cX10_last 120 = .ok (.iconst 1, 1) := by decide +kernel
theorem dX10_last_121 : decode cX10_last 121 = .ok (.istore 6, 2) := by decide +kernel
theorem dX10_last_123 : decode cX10_last 123 = .ok (.iload 6, 2) := by decide +kernel
theorem dX10_last_125 : decode cX10_last 125 = .ok (.iload 4, 2) := by decide +kernel
theorem dX10_last_127 : decode cX10_last 127 = .ok (.if_icmp .gt 53, 3) := by decide +kernel
theorem dX10_last_130 : decode cX10_last 130 = .ok (.aload_n 0, 1) := by decide +kernel
theorem dX10_last_131 : decode cX10_last 131 = .ok (.getfield 7, 3) := by decide +kernel
theorem dX10_last_134 : decode cX10_last 134 = .ok (.iconst 0, 1) := by decide +kernel
theorem dX10_last_135 : decode cX10_last 135 = .ok (.iaload, 1) := by decide +kernel
theorem dX10_last_136 : decode cX10_last 136 = .ok (.bipush 24, 2) := by decide +kernel
theorem dX10_last_138 : decode cX10_last 138 = .ok (.iload 6, 2) := by decide +kernel
theorem dX10_last_140 : decode cX10_last 140 = .ok (.imul, 1) := by decide +kernel
theorem dX10_last_141 : decode cX10_last 141 = .ok (.iadd, 1) := by decide +kernel
theorem dX10_last_142 : decode cX10_last 142 = .ok (.iload 5, 2) := by decide +kernel
theorem dX10_last_144 : decode cX10_last 144 = .ok (.bipush 24, 2) := by decide +kernel
theorem dX10_last_146 : decode cX10_last 146 = .ok (.aload_n 0, 1) := by decide +kernel
theorem dX10_last_147 : decode cX10_last 147 = .ok (.getfield 7, 3) := by decide +kernel
theorem dX10_last_150 : decode cX10_last 150 = .ok (.iconst 5, 1) := by decide +kernel
theorem dX10_last_151 : decode cX10_last 151 = .ok (.iaload, 1) := by decide +kernel
theorem dX10_last_152 : decode cX10_last 152 = .ok (.imul, 1) := by decide +kernel
theorem dX10_last_153 : decode cX10_last 153 = .ok (.isub, 1) := by decide +kernel
theorem dX10_last_154 : decode cX10_last 154 = .ok (.if_icmp .lt 20, 3) := by decide +kernel
theorem dX10_last_157 : decode cX10_last 157 = .ok (.aload_n 0, 1) := by decide +kernel
theorem dX10_last_158 : decode cX10_last 158 = .ok (.iload_n 3, 1) := by decide +kernel
theorem dX10_last_159 : decode cX10_last 159 = .ok (.aload_n 0, 1) := by decide +kernel
theorem dX10_last_160 : decode cX10_last 160 = .ok (.getfield 7, 3) := by decide +kernel
theorem dX10_last_163 : decode cX10_last 163 = .ok (.iconst 0, 1) := by decide +kernel
theorem dX10_last_164 : decode cX10_last 164 = .ok (.iaload, 1) := by decide +kernel
theorem dX10_last_165 : decode cX10_last 165 = .ok (.bipush 24, 2) := by decide +kernel
theorem dX10_last_167 : decode cX10_last 167 = .ok (.iload 6, 2) := by decide +kernel
theorem dX10_last_169 : decode cX10_last 169 = .ok (.imul, 1) := by decide +kernel
theorem dX10_last_170 : decode cX10_last 170 = .ok (.iadd, 1) := by decide +kernel
theorem dX10_last_171 : decode cX10_last 171 = .ok (.invokevirtual 261, 3) := by decide +kernel
theorem dX10_last_174 : decode cX10_last 174 = .ok (.iinc 6 1, 3) := by decide +kernel
theorem dX10_last_177 : decode cX10_last 177 = .ok (.goto (-54), 3) := by decide +kernel
theorem dX10_last_180 : decode cX10_last 180 = .ok (.aload_n 0, 1) := by decide +kernel
theorem dX10_last_181 : decode cX10_last 181 = .ok (.invokevirtual 158, 3) := by decide +kernel
theorem dX10_last_184 : decode cX10_last 184 = .ok (.aload_n 0, 1) := by decide +kernel
theorem dX10_last_185 : decode cX10_last 185 = .ok (.invokevirtual 173, 3) := by decide +kernel
theorem dX10_last_188 : decode cX10_last 188 = .ok (.iload_n 1, 1) := by decide +kernel
theorem dX10_last_189 : decode cX10_last 189 = .ok (.if_icmp .eq 6, 3) := by decide +kernel
theorem dX10_last_192 : decode cX10_last 192 = .ok (.iload 4, 2) := by decide +kernel
theorem dX10_last_194 : decode cX10_last 194 = .ok (.ireturn, 1) := by decide +kernel
theorem dX10_last_195 : decode cX10_last 195 = .ok (.iinc 4 1, 3) := by decide +kernel
theorem dX10_last_198 : decode cX10_last 198 = .ok (.goto (-105), 3) := by decide +kernel
theorem dX10_last_201 : decode cX10_last 201 = .ok (.aload_n 0, 1) := by decide +kernel
theorem dX10_last_202 : decode cX10_last 202 = .ok (.iconst 4, 1) := by decide +kernel
theorem dX10_last_203 : decode cX10_last 203 = .ok (.invokevirtual 66, 3) := by decide +kernel
theorem dX10_last_206 : decode cX10_last 206 = .ok (.ireturn, 1) := by decide +kernel
def F_X10_last_42 (K90 : Int32 → Int32 → eMem → Option (Int32 × eMem)) : Nat → Int32 → Int32 → Int32 → Int32 → eMem → Option (Int32 × eMem)
  | 0, _, _, _, _, _ => none
  | n + 1, v1, v2, v3, v4, M =>
    if v4 < (M.1 1 9) then
      if ((v2 >>> (v4 &&& 31)) &&& 1) = 1 then
        (F_X10_isShown v4 M).bind fun q5 =>
        if q5 = 0 then
          F_X10_last_42 K90 n v1 v2 (v3 ||| 0) (v4 + 1) M
        else
          F_X10_last_42 K90 n v1 v2 (v3 ||| (1 <<< (v4 &&& 31))) (v4 + 1) M
      else
        F_X10_last_42 K90 n v1 v2 (v3 ||| 0) (v4 + 1) M
    else
      K90 v1 v3 M
set_option maxRecDepth 100000 in
set_option maxHeartbeats 4000000 in
theorem ev_X10_last_42 (K90 : Int32 → Int32 → eMem → Option (Int32 × eMem)) (q : (Int32 × eMem)) (hK90 : ∀ (v1 : Int32) (v3 : Int32) (M : eMem), K90 v1 v3 M = some q → Ev layR 7 m_X10_last 90 [some (.ref 0), some (.int v1), none, some (.int v3), none, none, none] [] M (some (.int q.1), q.2)) : ∀ (fuel : Nat) (v1 : Int32) (v2 : Int32) (v3 : Int32) (v4 : Int32) (M : eMem), F_X10_last_42 K90 fuel v1 v2 v3 v4 M = some q → Ev layR 7 m_X10_last 42 [some (.ref 0), some (.int v1), some (.int v2), some (.int v3), some (.int v4), none, none] [] M (some (.int q.1), q.2) := by
  intro fuel
  induction fuel with
  | zero => intro v1 v2 v3 v4 M h; rw [F_X10_last_42] at h; cases h
  | succ n ih =>
    intro v1 v2 v3 v4 M h
    rw [F_X10_last_42] at h
    refine Ev.iload (pc := 42) dX10_last_42 rfl ?_
    refine Ev.aload_n (pc := 44) dX10_last_44 rfl ?_
    refine Ev.getR (pc := 45) dX10_last_45 fl_RX10_7 lR_0 rfl ?_
    refine Ev.bipush (pc := 48) dX10_last_48 (v := 9) (by decide) ?_
    refine Ev.ialdj (pc := 50) dX10_last_50 (j := 9) lR_1 (by decide) (by decide) ?_
    refine Ev.icmp_ge (pc := 51) (tgt := 90) dX10_last_51 (by decide) (fun c9 => ?_) (fun c9 => ?_)
    · have h := eF h c9
      exact Ev.fg (hK90 _ _ _ h) (And.intro rfl (And.intro rfl (And.intro rfl trivial)))
    · have h := eT h c9
      refine Ev.iload_n (pc := 54) dX10_last_54 rfl ?_
      refine Ev.iload_n (pc := 55) dX10_last_55 rfl ?_
      refine Ev.iload (pc := 56) dX10_last_56 rfl ?_
      refine Ev.ishr (pc := 58) dX10_last_58 ?_
      refine Ev.iconst (pc := 59) dX10_last_59 (v := 1) (by decide) ?_
      refine Ev.iand (pc := 60) dX10_last_60 ?_
      refine Ev.iconst (pc := 61) dX10_last_61 (v := 1) (by decide) ?_
      refine Ev.icmp_ne (pc := 62) (tgt := 81) dX10_last_62 (by decide) (fun c9 => ?_) (fun c9 => ?_)
      · have h := eF h c9
        refine Ev.iconst (pc := 81) dX10_last_81 (v := 0) (by decide) ?_
        refine Ev.ior (pc := 82) dX10_last_82 ?_
        refine Ev.istore_n (pc := 83) dX10_last_83 (by decide) rfl rfl ?_
        refine Ev.iincv (pc := 84) dX10_last_84 (v := 1) (by decide) rfl (by decide) rfl rfl ?_
        refine Ev.goto (pc := 87) (tgt := 42) dX10_last_87 (by decide) ?_
        exact Ev.fg (ih _ _ _ _ _ h) (And.intro rfl (And.intro rfl (And.intro rfl (And.intro rfl (And.intro rfl trivial)))))
      · have h := eT h c9
        refine Ev.aload_n (pc := 65) dX10_last_65 rfl ?_
        refine Ev.iload (pc := 66) dX10_last_66 rfl ?_
        refine eBk h (fun q5 hq5 h => ?_)
        refine Ev.callV (pc := 68) (as := [.int v4]) (st := [.int v3]) (z := 0) dX10_last_68 wc_X10_isShown ml_RX10_80 im_X10_isShown se_X10_isShown lR_0 rfl rfl (ev_X10_isShown v4 M _ hq5) rfl rfl (by decide) rfl rfl (Nat.le_of_ble_eq_true rfl) ?_
        refine Ev.if_eq (pc := 71) (tgt := 81) dX10_last_71 (by decide) (fun c9 => ?_) (fun c9 => ?_)
        · have h := eT h c9
          refine Ev.iconst (pc := 81) dX10_last_81 (v := 0) (by decide) ?_
          refine Ev.ior (pc := 82) dX10_last_82 ?_
          refine Ev.istore_n (pc := 83) dX10_last_83 (by decide) rfl rfl ?_
          refine Ev.iincv (pc := 84) dX10_last_84 (v := 1) (by decide) rfl (by decide) rfl rfl ?_
          refine Ev.goto (pc := 87) (tgt := 42) dX10_last_87 (by decide) ?_
          exact Ev.fg (ih _ _ _ _ _ h) (And.intro rfl (And.intro rfl (And.intro rfl (And.intro rfl (And.intro rfl trivial)))))
        · have h := eF h c9
          refine Ev.iconst (pc := 74) dX10_last_74 (v := 1) (by decide) ?_
          refine Ev.iload (pc := 75) dX10_last_75 rfl ?_
          refine Ev.ishl (pc := 77) dX10_last_77 ?_
          refine Ev.goto (pc := 78) (tgt := 82) dX10_last_78 (by decide) ?_
          refine Ev.ior (pc := 82) dX10_last_82 ?_
          refine Ev.istore_n (pc := 83) dX10_last_83 (by decide) rfl rfl ?_
          refine Ev.iincv (pc := 84) dX10_last_84 (v := 1) (by decide) rfl (by decide) rfl rfl ?_
          refine Ev.goto (pc := 87) (tgt := 42) dX10_last_87 (by decide) ?_
          exact Ev.fg (ih _ _ _ _ _ h) (And.intro rfl (And.intro rfl (And.intro rfl (And.intro rfl (And.intro rfl trivial)))))
def F_X10_last_123 (K180 : Int32 → Int32 → Int32 → eMem → Option (Int32 × eMem)) : Nat → Int32 → Int32 → Int32 → Int32 → Int32 → eMem → Option (Int32 × eMem)
  | 0, _, _, _, _, _, _ => none
  | n + 1, v1, v3, v4, v5, v6, M =>
    if v4 < v6 then
      K180 v1 v3 v4 M
    else
      if ((M.1 1 0) + (24 * v6)) < (v5 - (24 * (M.1 1 5))) then
        F_X10_last_123 K180 n v1 v3 v4 v5 (v6 + 1) M
      else
        (F_X10_give v3 ((M.1 1 0) + (24 * v6)) M).bind fun q8 =>
        F_X10_last_123 K180 n v1 v3 v4 v5 (v6 + 1) q8
set_option maxRecDepth 100000 in
set_option maxHeartbeats 4000000 in
theorem ev_X10_last_123 (K180 : Int32 → Int32 → Int32 → eMem → Option (Int32 × eMem)) (q : (Int32 × eMem)) (hK180 : ∀ (v1 : Int32) (v3 : Int32) (v4 : Int32) (M : eMem), K180 v1 v3 v4 M = some q → Ev layR 7 m_X10_last 180 [some (.ref 0), some (.int v1), none, some (.int v3), some (.int v4), none, none] [] M (some (.int q.1), q.2)) : ∀ (fuel : Nat) (v1 : Int32) (v3 : Int32) (v4 : Int32) (v5 : Int32) (v6 : Int32) (M : eMem), F_X10_last_123 K180 fuel v1 v3 v4 v5 v6 M = some q → Ev layR 7 m_X10_last 123 [some (.ref 0), some (.int v1), none, some (.int v3), some (.int v4), some (.int v5), some (.int v6)] [] M (some (.int q.1), q.2) := by
  intro fuel
  induction fuel with
  | zero => intro v1 v3 v4 v5 v6 M h; rw [F_X10_last_123] at h; cases h
  | succ n ih =>
    intro v1 v3 v4 v5 v6 M h
    rw [F_X10_last_123] at h
    refine Ev.iload (pc := 123) dX10_last_123 rfl ?_
    refine Ev.iload (pc := 125) dX10_last_125 rfl ?_
    refine Ev.icmp_gt (pc := 127) (tgt := 180) dX10_last_127 (by decide) (fun c9 => ?_) (fun c9 => ?_)
    · have h := eT h c9
      exact Ev.fg (hK180 _ _ _ _ h) (And.intro rfl (And.intro rfl (And.intro rfl (And.intro rfl trivial))))
    · have h := eF h c9
      refine Ev.aload_n (pc := 130) dX10_last_130 rfl ?_
      refine Ev.getR (pc := 131) dX10_last_131 fl_RX10_7 lR_0 rfl ?_
      refine Ev.iconst (pc := 134) dX10_last_134 (v := 0) (by decide) ?_
      refine Ev.ialdj (pc := 135) dX10_last_135 (j := 0) lR_1 (by decide) (by decide) ?_
      refine Ev.bipush (pc := 136) dX10_last_136 (v := 24) (by decide) ?_
      refine Ev.iload (pc := 138) dX10_last_138 rfl ?_
      refine Ev.imul (pc := 140) dX10_last_140 ?_
      refine Ev.iadd (pc := 141) dX10_last_141 ?_
      refine Ev.iload (pc := 142) dX10_last_142 rfl ?_
      refine Ev.bipush (pc := 144) dX10_last_144 (v := 24) (by decide) ?_
      refine Ev.aload_n (pc := 146) dX10_last_146 rfl ?_
      refine Ev.getR (pc := 147) dX10_last_147 fl_RX10_7 lR_0 rfl ?_
      refine Ev.iconst (pc := 150) dX10_last_150 (v := 5) (by decide) ?_
      refine Ev.ialdj (pc := 151) dX10_last_151 (j := 5) lR_1 (by decide) (by decide) ?_
      refine Ev.imul (pc := 152) dX10_last_152 ?_
      refine Ev.isub (pc := 153) dX10_last_153 ?_
      refine Ev.icmp_lt (pc := 154) (tgt := 174) dX10_last_154 (by decide) (fun c9 => ?_) (fun c9 => ?_)
      · have h := eT h c9
        refine Ev.iincv (pc := 174) dX10_last_174 (v := 1) (by decide) rfl (by decide) rfl rfl ?_
        refine Ev.goto (pc := 177) (tgt := 123) dX10_last_177 (by decide) ?_
        exact Ev.fg (ih _ _ _ _ _ _ h) (And.intro rfl (And.intro rfl (And.intro rfl (And.intro rfl (And.intro rfl (And.intro rfl trivial))))))
      · have h := eF h c9
        refine Ev.aload_n (pc := 157) dX10_last_157 rfl ?_
        refine Ev.iload_n (pc := 158) dX10_last_158 rfl ?_
        refine Ev.aload_n (pc := 159) dX10_last_159 rfl ?_
        refine Ev.getR (pc := 160) dX10_last_160 fl_RX10_7 lR_0 rfl ?_
        refine Ev.iconst (pc := 163) dX10_last_163 (v := 0) (by decide) ?_
        refine Ev.ialdj (pc := 164) dX10_last_164 (j := 0) lR_1 (by decide) (by decide) ?_
        refine Ev.bipush (pc := 165) dX10_last_165 (v := 24) (by decide) ?_
        refine Ev.iload (pc := 167) dX10_last_167 rfl ?_
        refine Ev.imul (pc := 169) dX10_last_169 ?_
        refine Ev.iadd (pc := 170) dX10_last_170 ?_
        refine eBk h (fun q8 hq8 h => ?_)
        refine Ev.callV (pc := 171) (as := [.int v3, .int ((M.1 1 0) + (24 * v6))]) (st := []) (z := 1) dX10_last_171 wc_X10_give ml_RX10_261 im_X10_give se_X10_give lR_0 rfl rfl (ev_X10_give v3 ((M.1 1 0) + (24 * v6)) M _ hq8) rfl rfl (by decide) rfl rfl (Nat.le_of_ble_eq_true rfl) ?_
        refine Ev.iincv (pc := 174) dX10_last_174 (v := 1) (by decide) rfl (by decide) rfl rfl ?_
        refine Ev.goto (pc := 177) (tgt := 123) dX10_last_177 (by decide) ?_
        exact Ev.fg (ih _ _ _ _ _ _ h) (And.intro rfl (And.intro rfl (And.intro rfl (And.intro rfl (And.intro rfl (And.intro rfl trivial))))))
def F_X10_last_93  : Nat → Int32 → Int32 → Int32 → eMem → Option (Int32 × eMem)
  | 0, _, _, _, _ => none
  | n + 1, v1, v3, v4, M =>
    if 30 < v4 then
      (F_X10_finding 4 M).bind fun q6 =>
      some (q6.1, q6.2)
    else
      (F_X10_gather ((M.1 1 0) + (24 * v4)) M).bind fun q7 =>
      F_X10_last_123
        (fun v1 v3 v4 M =>
          (F_X10_weigh M).bind fun q9 =>
          (F_X10_greatest q9).bind fun q10 =>
          if q10 = v1 then
            F_X10_last_93 n v1 v3 (v4 + 1) q9
          else
            some (v4, q9))
        eFuel v1 v3 v4 ((M.1 1 0) + (24 * v4)) 1 q7
set_option maxRecDepth 100000 in
set_option maxHeartbeats 4000000 in
theorem ev_X10_last_93  (q : (Int32 × eMem))  : ∀ (fuel : Nat) (v1 : Int32) (v3 : Int32) (v4 : Int32) (M : eMem), F_X10_last_93 fuel v1 v3 v4 M = some q → Ev layR 7 m_X10_last 93 [some (.ref 0), some (.int v1), none, some (.int v3), some (.int v4), none, none] [] M (some (.int q.1), q.2) := by
  intro fuel
  induction fuel with
  | zero => intro v1 v3 v4 M h; rw [F_X10_last_93] at h; cases h
  | succ n ih =>
    intro v1 v3 v4 M h
    rw [F_X10_last_93] at h
    refine Ev.iload (pc := 93) dX10_last_93 rfl ?_
    refine Ev.bipush (pc := 95) dX10_last_95 (v := 30) (by decide) ?_
    refine Ev.icmp_gt (pc := 97) (tgt := 201) dX10_last_97 (by decide) (fun c9 => ?_) (fun c9 => ?_)
    · have h := eT h c9
      refine Ev.aload_n (pc := 201) dX10_last_201 rfl ?_
      refine Ev.iconst (pc := 202) dX10_last_202 (v := 4) (by decide) ?_
      refine eBk h (fun q6 hq6 h => ?_)
      refine Ev.callV (pc := 203) (as := [.int 4]) (st := []) (z := 0) dX10_last_203 wc_X10_finding ml_RX10_66 im_X10_finding se_X10_finding lR_0 rfl rfl (ev_X10_finding 4 M _ hq6) rfl rfl (by decide) rfl rfl (Nat.le_of_ble_eq_true rfl) ?_
      obtain rfl := Option.some.inj h
      exact Ev.iret (pc := 206) dX10_last_206 rfl rfl
    · have h := eF h c9
      refine Ev.aload_n (pc := 100) dX10_last_100 rfl ?_
      refine Ev.getR (pc := 101) dX10_last_101 fl_RX10_7 lR_0 rfl ?_
      refine Ev.iconst (pc := 104) dX10_last_104 (v := 0) (by decide) ?_
      refine Ev.ialdj (pc := 105) dX10_last_105 (j := 0) lR_1 (by decide) (by decide) ?_
      refine Ev.bipush (pc := 106) dX10_last_106 (v := 24) (by decide) ?_
      refine Ev.iload (pc := 108) dX10_last_108 rfl ?_
      refine Ev.imul (pc := 110) dX10_last_110 ?_
      refine Ev.iadd (pc := 111) dX10_last_111 ?_
      refine Ev.istore (pc := 112) dX10_last_112 (by decide) rfl rfl ?_
      refine Ev.aload_n (pc := 114) dX10_last_114 rfl ?_
      refine Ev.iload (pc := 115) dX10_last_115 rfl ?_
      refine eBk h (fun q7 hq7 h => ?_)
      refine Ev.callV (pc := 117) (as := [.int ((M.1 1 0) + (24 * v4))]) (st := []) (z := 1) dX10_last_117 wc_X10_gather ml_RX10_154 im_X10_gather se_X10_gather lR_0 rfl rfl (ev_X10_gather ((M.1 1 0) + (24 * v4)) M _ hq7) rfl rfl (by decide) rfl rfl (Nat.le_of_ble_eq_true rfl) ?_
      refine Ev.iconst (pc := 120) dX10_last_120 (v := 1) (by decide) ?_
      refine Ev.istore (pc := 121) dX10_last_121 (by decide) rfl rfl ?_
      refine Ev.fg (ev_X10_last_123 _ _ ?_ _ _ _ _ _ _ _ h) (And.intro rfl (And.intro rfl (And.intro rfl (And.intro rfl (And.intro rfl (And.intro rfl trivial))))))
      · intro v1 v3 v4 M h
        refine Ev.aload_n (pc := 180) dX10_last_180 rfl ?_
        refine eBk h (fun q9 hq9 h => ?_)
        refine Ev.callV (pc := 181) (as := []) (st := []) (z := 4) dX10_last_181 wc_X10_weigh ml_RX10_158 im_X10_weigh se_X10_weigh lR_0 rfl rfl (ev_X10_weigh  M _ hq9) rfl rfl (by decide) rfl rfl (Nat.le_of_ble_eq_true rfl) ?_
        refine Ev.aload_n (pc := 184) dX10_last_184 rfl ?_
        refine eBk h (fun q10 hq10 h => ?_)
        refine Ev.callV (pc := 185) (as := []) (st := []) (z := 2) dX10_last_185 wc_X10_greatest ml_RX10_173 im_X10_greatest se_X10_greatest lR_0 rfl rfl (ev_X10_greatest  q9 _ hq10) rfl rfl (by decide) rfl rfl (Nat.le_of_ble_eq_true rfl) ?_
        refine Ev.iload_n (pc := 188) dX10_last_188 rfl ?_
        refine Ev.icmp_eq (pc := 189) (tgt := 195) dX10_last_189 (by decide) (fun c9 => ?_) (fun c9 => ?_)
        · have h := eT h c9
          refine Ev.iincv (pc := 195) dX10_last_195 (v := 1) (by decide) rfl (by decide) rfl rfl ?_
          refine Ev.goto (pc := 198) (tgt := 93) dX10_last_198 (by decide) ?_
          exact Ev.fg (ih _ _ _ _ h) (And.intro rfl (And.intro rfl (And.intro rfl (And.intro rfl trivial))))
        · have h := eF h c9
          refine Ev.iload (pc := 192) dX10_last_192 rfl ?_
          obtain rfl := Option.some.inj h
          exact Ev.iret (pc := 194) dX10_last_194 rfl rfl
def F_X10_last (x1 : Int32) (x2 : Int32) (M : eMem) : Option (Int32 × eMem) :=
  (F_X10_isStory x1).bind fun q1 =>
  if q1 = 0 then
    (F_X10_finding 1 M).bind fun q2 =>
    some (q2.1, q2.2)
  else
    (F_X10_isSet x2 M).bind fun q3 =>
    if q3 = 0 then
      (F_X10_finding 1 M).bind fun q12 =>
      some (q12.1, q12.2)
    else
      (F_X10_ones x2).bind fun q4 =>
      if 9 < q4 then
        (F_X10_finding 7 M).bind fun q11 =>
        some (q11.1, q11.2)
      else
        F_X10_last_42
          (fun v1 v3 M =>
            F_X10_last_93 eFuel v1 v3 1 M)
          eFuel x1 x2 0 0 M
set_option maxRecDepth 100000 in
set_option maxHeartbeats 4000000 in
theorem ev_X10_last (x1 : Int32) (x2 : Int32) (M : eMem) (q : (Int32 × eMem)) (h : F_X10_last x1 x2 M = some q) : Ev layR 7 m_X10_last 0 [some (.ref 0), some (.int x1), some (.int x2), none, none, none, none] [] M (some (.int q.1), q.2) := by
  rw [F_X10_last] at h
  refine Ev.iload_n (pc := 0) dX10_last_0 rfl ?_
  refine eBk h (fun q1 hq1 h => ?_)
  refine Ev.callS (pc := 1) (as := [.int x1]) (st := []) (z := 0) dX10_last_1 wc_X10_isStory ml_RX10_99 sm_X10_isStory (ev_X10_isStory x1 M _ hq1) rfl rfl (by decide) rfl rfl (Nat.le_of_ble_eq_true rfl) ?_
  refine Ev.if_eq (pc := 4) (tgt := 15) dX10_last_4 (by decide) (fun c9 => ?_) (fun c9 => ?_)
  · have h := eT h c9
    refine Ev.aload_n (pc := 15) dX10_last_15 rfl ?_
    refine Ev.iconst (pc := 16) dX10_last_16 (v := 1) (by decide) ?_
    refine eBk h (fun q2 hq2 h => ?_)
    refine Ev.callV (pc := 17) (as := [.int 1]) (st := []) (z := 0) dX10_last_17 wc_X10_finding ml_RX10_66 im_X10_finding se_X10_finding lR_0 rfl rfl (ev_X10_finding 1 M _ hq2) rfl rfl (by decide) rfl rfl (Nat.le_of_ble_eq_true rfl) ?_
    obtain rfl := Option.some.inj h
    exact Ev.iret (pc := 20) dX10_last_20 rfl rfl
  · have h := eF h c9
    refine Ev.aload_n (pc := 7) dX10_last_7 rfl ?_
    refine Ev.iload_n (pc := 8) dX10_last_8 rfl ?_
    refine eBk h (fun q3 hq3 h => ?_)
    refine Ev.callV (pc := 9) (as := [.int x2]) (st := []) (z := 0) dX10_last_9 wc_X10_isSet ml_RX10_252 im_X10_isSet se_X10_isSet lR_0 rfl rfl (ev_X10_isSet x2 M _ hq3) rfl rfl (by decide) rfl rfl (Nat.le_of_ble_eq_true rfl) ?_
    refine Ev.if_ne (pc := 12) (tgt := 21) dX10_last_12 (by decide) (fun c9 => ?_) (fun c9 => ?_)
    · have h := eF h c9
      refine Ev.iload_n (pc := 21) dX10_last_21 rfl ?_
      refine eBk h (fun q4 hq4 h => ?_)
      refine Ev.callS (pc := 22) (as := [.int x2]) (st := []) (z := 2) dX10_last_22 wc_X10_ones ml_RX10_255 sm_X10_ones (ev_X10_ones x2 M _ hq4) rfl rfl (by decide) rfl rfl (Nat.le_of_ble_eq_true rfl) ?_
      refine Ev.bipush (pc := 25) dX10_last_25 (v := 9) (by decide) ?_
      refine Ev.icmp_le (pc := 27) (tgt := 37) dX10_last_27 (by decide) (fun c9 => ?_) (fun c9 => ?_)
      · have h := eF h c9
        refine Ev.iconst (pc := 37) dX10_last_37 (v := 0) (by decide) ?_
        refine Ev.istore_n (pc := 38) dX10_last_38 (by decide) rfl rfl ?_
        refine Ev.iconst (pc := 39) dX10_last_39 (v := 0) (by decide) ?_
        refine Ev.istore (pc := 40) dX10_last_40 (by decide) rfl rfl ?_
        refine Ev.fg (ev_X10_last_42 _ _ ?_ _ _ _ _ _ _ h) (And.intro rfl (And.intro rfl (And.intro rfl (And.intro rfl (And.intro rfl trivial)))))
        · intro v1 v3 M h
          refine Ev.iconst (pc := 90) dX10_last_90 (v := 1) (by decide) ?_
          refine Ev.istore (pc := 91) dX10_last_91 (by decide) rfl rfl ?_
          exact Ev.fg (ev_X10_last_93 _ _ _ _ _ _ h) (And.intro rfl (And.intro rfl (And.intro rfl (And.intro rfl trivial))))
      · have h := eT h c9
        refine Ev.aload_n (pc := 30) dX10_last_30 rfl ?_
        refine Ev.bipush (pc := 31) dX10_last_31 (v := 7) (by decide) ?_
        refine eBk h (fun q11 hq11 h => ?_)
        refine Ev.callV (pc := 33) (as := [.int 7]) (st := []) (z := 0) dX10_last_33 wc_X10_finding ml_RX10_66 im_X10_finding se_X10_finding lR_0 rfl rfl (ev_X10_finding 7 M _ hq11) rfl rfl (by decide) rfl rfl (Nat.le_of_ble_eq_true rfl) ?_
        obtain rfl := Option.some.inj h
        exact Ev.iret (pc := 36) dX10_last_36 rfl rfl
    · have h := eT h c9
      refine Ev.aload_n (pc := 15) dX10_last_15 rfl ?_
      refine Ev.iconst (pc := 16) dX10_last_16 (v := 1) (by decide) ?_
      refine eBk h (fun q12 hq12 h => ?_)
      refine Ev.callV (pc := 17) (as := [.int 1]) (st := []) (z := 0) dX10_last_17 wc_X10_finding ml_RX10_66 im_X10_finding se_X10_finding lR_0 rfl rfl (ev_X10_finding 1 M _ hq12) rfl rfl (by decide) rfl rfl (Nat.le_of_ble_eq_true rfl) ?_
      obtain rfl := Option.some.inj h
      exact Ev.iret (pc := 20) dX10_last_20 rfl rfl
theorem dX5_breakBy_0 : decode cX5_breakBy 0 = .ok (.iconst 0, 1) := by decide +kernel
theorem dX5_breakBy_1 : decode cX5_breakBy 1 = .ok (.istore_n 2, 1) := by decide +kernel
theorem dX5_breakBy_2 : decode cX5_breakBy 2 = .ok (.iload_n 2, 1) := by decide +kernel
theorem dX5_breakBy_3 : decode cX5_breakBy 3 = .ok (.aload_n 0, 1) := by decide +kernel
theorem dX5_breakBy_4 : decode cX5_breakBy 4 = .ok (.getfield 43, 3) := by decide +kernel
theorem dX5_breakBy_7 : decode cX5_breakBy 7 = .ok (.if_icmp .ge 48, 3) := by decide +kernel
theorem dX5_breakBy_10 : decode cX5_breakBy 10 = .ok (.aload_n 0, 1) := by decide +kernel
theorem dX5_breakBy_11 : decode cX5_breakBy 11 = .ok (.getfield 9, 3) := by decide +kernel
theorem dX5_breakBy_14 : decode cX5_breakBy 14 = .ok (.iload_n 2, 1) := by decide +kernel
theorem dX5_breakBy_15 : decode cX5_breakBy 15 = .ok (.iaload, 1) := by decide +kernel
theorem dX5_breakBy_16 : decode cX5_breakBy 16 = .ok (.iconst 1, 1) := by decide +kernel
theorem dX5_breakBy_17 : decode cX5_breakBy 17 = .ok (.invokestatic 64, 3) := by decide +kernel
theorem dX5_breakBy_20 : decode cX5_breakBy 20 = .ok (.ifCond .eq 29, 3) := by decide +kernel
theorem dX5_breakBy_23 : decode cX5_breakBy 23 = .ok (.aload_n 0, 1) := by decide +kernel
theorem dX5_breakBy_24 : decode cX5_breakBy 24 = .ok (.getfield 27, 3) := by decide +kernel
theorem dX5_breakBy_27 : decode cX5_breakBy 27 = .ok (.iload_n 2, 1) := by decide +kernel
theorem dX5_breakBy_28 : decode cX5_breakBy 28 = .ok (.baload, 1) := by decide +kernel
theorem dX5_breakBy_29 : decode cX5_breakBy 29 = .ok (.ifCond .eq 20, 3) := by decide +kernel
theorem dX5_breakBy_32 : decode cX5_breakBy 32 = .ok (.aload_n 0, 1) := by decide +kernel
theorem dX5_breakBy_33 : decode cX5_breakBy 33 = .ok (.getfield 24, 3) := by decide +kernel
theorem dX5_breakBy_36 : decode cX5_breakBy 36 = .ok (.iload_n 2, 1) := by decide +kernel
theorem dX5_breakBy_37 : decode cX5_breakBy 37 = .ok (.iaload, 1) := by decide +kernel
theorem dX5_breakBy_38 : decode cX5_breakBy 38 = .ok (.iload_n 1, 1) := by decide +kernel
theorem dX5_breakBy_39 : decode cX5_breakBy 39 = .ok (.if_icmp .ge 10, 3) := by decide +kernel
theorem dX5_breakBy_42 : decode cX5_breakBy 42 = .ok (.aload_n 0, 1) := by decide +kernel
theorem dX5_breakBy_43 : decode cX5_breakBy 43 = .ok (.getfield 34, 3) := by decide +kernel
theorem dX5_breakBy_46 : decode cX5_breakBy 46 = .ok (.iload_n 2, 1) := by decide +kernel
theorem dX5_breakBy_47 : decode cX5_breakBy 47 = .ok (.iconst 1, 1) := by decide +kernel
theorem dX5_breakBy_48 : decode cX5_breakBy 48 = .ok (.bastore, 1) := by decide +kernel
theorem dX5_breakBy_49 : decode cX5_breakBy 49 = .ok (.iinc 2 1, 3) := by decide +kernel
theorem dX5_breakBy_52 : decode cX5_breakBy 52 = .ok (.goto (-50), 3) := by decide +kernel
theorem dX5_breakBy_55 : decode cX5_breakBy 55 = .ok (.return_, 1) := by decide +kernel
def F_X5_breakBy_2  : Nat → Int32 → Int32 → eMem → Option eMem
  | 0, _, _, _ => none
  | n + 1, v1, v2, M =>
    if v2 < (M.1 12 10) then
      eG (eIn v2 20) <|
      (F_X9_isUnder (M.1 13 v2.toNatClampNeg) 1).bind fun q1 =>
      if q1 = 0 then
        F_X5_breakBy_2 n v1 (v2 + 1) M
      else
        eG (eIn v2 20) <|
        if (M.1 18 v2.toNatClampNeg) = 0 then
          F_X5_breakBy_2 n v1 (v2 + 1) M
        else
          eG (eIn v2 20) <|
          if (M.1 17 v2.toNatClampNeg) < v1 then
            eG (eIn v2 20) <|
            F_X5_breakBy_2 n v1 (v2 + 1) (eI M 20 v2.toNatClampNeg (vp_nar .boolean 1))
          else
            F_X5_breakBy_2 n v1 (v2 + 1) M
    else
      some M
set_option maxRecDepth 100000 in
set_option maxHeartbeats 4000000 in
theorem ev_X5_breakBy_2  (q : eMem)  : ∀ (fuel : Nat) (v1 : Int32) (v2 : Int32) (M : eMem), F_X5_breakBy_2 fuel v1 v2 M = some q → Ev layC 1 m_X5_breakBy 2 [some (.ref 12), some (.int v1), some (.int v2)] [] M (none, q) := by
  intro fuel
  induction fuel with
  | zero => intro v1 v2 M h; rw [F_X5_breakBy_2] at h; cases h
  | succ n ih =>
    intro v1 v2 M h
    rw [F_X5_breakBy_2] at h
    refine Ev.iload_n (pc := 2) dX5_breakBy_2 rfl ?_
    refine Ev.aload_n (pc := 3) dX5_breakBy_3 rfl ?_
    refine Ev.getI (pc := 4) dX5_breakBy_4 fl_RX5_43 lC_12 rfl ?_
    refine Ev.icmp_ge (pc := 7) (tgt := 55) dX5_breakBy_7 (by decide) (fun c9 => ?_) (fun c9 => ?_)
    · have h := eF h c9
      obtain rfl := Option.some.inj h
      exact Ev.vret (pc := 55) dX5_breakBy_55 rfl
    · have h := eT h c9
      refine Ev.aload_n (pc := 10) dX5_breakBy_10 rfl ?_
      refine Ev.getR (pc := 11) dX5_breakBy_11 fl_RX5_9 lC_12 rfl ?_
      refine Ev.iload_n (pc := 14) dX5_breakBy_14 rfl ?_
      obtain ⟨g9, h⟩ := eGdB h
      refine Ev.ialdj (pc := 15) dX5_breakBy_15 (j := v2.toNatClampNeg) lC_13 g9 rfl ?_
      refine Ev.iconst (pc := 16) dX5_breakBy_16 (v := 1) (by decide) ?_
      refine eBk h (fun q1 hq1 h => ?_)
      refine Ev.callSN (host := "GhostCoast") (pc := 17) (as := [.int (M.1 13 v2.toNatClampNeg), .int 1]) (st := []) (z := 0) dX5_breakBy_17 wc_X9_isUnder mn_RX5_64 sm_X9_isUnder (ev_X9_isUnder (M.1 13 v2.toNatClampNeg) 1 M _ hq1) rfl rfl (by decide) rfl rfl (Nat.le_of_ble_eq_true rfl) ?_
      refine Ev.if_eq (pc := 20) (tgt := 49) dX5_breakBy_20 (by decide) (fun c9 => ?_) (fun c9 => ?_)
      · have h := eT h c9
        refine Ev.iincv (pc := 49) dX5_breakBy_49 (v := 1) (by decide) rfl (by decide) rfl rfl ?_
        refine Ev.goto (pc := 52) (tgt := 2) dX5_breakBy_52 (by decide) ?_
        exact Ev.fg (ih _ _ _ h) (And.intro rfl (And.intro rfl (And.intro rfl trivial)))
      · have h := eF h c9
        refine Ev.aload_n (pc := 23) dX5_breakBy_23 rfl ?_
        refine Ev.getR (pc := 24) dX5_breakBy_24 fl_RX5_27 lC_12 rfl ?_
        refine Ev.iload_n (pc := 27) dX5_breakBy_27 rfl ?_
        obtain ⟨g9, h⟩ := eGdB h
        refine Ev.zaldj (pc := 28) dX5_breakBy_28 (j := v2.toNatClampNeg) lC_18 g9 rfl ?_
        refine Ev.if_eq (pc := 29) (tgt := 49) dX5_breakBy_29 (by decide) (fun c9 => ?_) (fun c9 => ?_)
        · have h := eT h c9
          refine Ev.iincv (pc := 49) dX5_breakBy_49 (v := 1) (by decide) rfl (by decide) rfl rfl ?_
          refine Ev.goto (pc := 52) (tgt := 2) dX5_breakBy_52 (by decide) ?_
          exact Ev.fg (ih _ _ _ h) (And.intro rfl (And.intro rfl (And.intro rfl trivial)))
        · have h := eF h c9
          refine Ev.aload_n (pc := 32) dX5_breakBy_32 rfl ?_
          refine Ev.getR (pc := 33) dX5_breakBy_33 fl_RX5_24 lC_12 rfl ?_
          refine Ev.iload_n (pc := 36) dX5_breakBy_36 rfl ?_
          obtain ⟨g9, h⟩ := eGdB h
          refine Ev.ialdj (pc := 37) dX5_breakBy_37 (j := v2.toNatClampNeg) lC_17 g9 rfl ?_
          refine Ev.iload_n (pc := 38) dX5_breakBy_38 rfl ?_
          refine Ev.icmp_ge (pc := 39) (tgt := 49) dX5_breakBy_39 (by decide) (fun c9 => ?_) (fun c9 => ?_)
          · have h := eF h c9
            refine Ev.iincv (pc := 49) dX5_breakBy_49 (v := 1) (by decide) rfl (by decide) rfl rfl ?_
            refine Ev.goto (pc := 52) (tgt := 2) dX5_breakBy_52 (by decide) ?_
            exact Ev.fg (ih _ _ _ h) (And.intro rfl (And.intro rfl (And.intro rfl trivial)))
          · have h := eT h c9
            refine Ev.aload_n (pc := 42) dX5_breakBy_42 rfl ?_
            refine Ev.getR (pc := 43) dX5_breakBy_43 fl_RX5_34 lC_12 rfl ?_
            refine Ev.iload_n (pc := 46) dX5_breakBy_46 rfl ?_
            refine Ev.iconst (pc := 47) dX5_breakBy_47 (v := 1) (by decide) ?_
            obtain ⟨g9, h⟩ := eGdB h
            refine Ev.zastj (pc := 48) dX5_breakBy_48 (j := v2.toNatClampNeg) lC_20 g9 rfl ?_
            refine Ev.iincv (pc := 49) dX5_breakBy_49 (v := 1) (by decide) rfl (by decide) rfl rfl ?_
            refine Ev.goto (pc := 52) (tgt := 2) dX5_breakBy_52 (by decide) ?_
            exact Ev.fg (ih _ _ _ h) (And.intro rfl (And.intro rfl (And.intro rfl trivial)))
def F_X5_breakBy (x1 : Int32) (M : eMem) : Option eMem :=
  F_X5_breakBy_2 eFuel x1 0 M
set_option maxRecDepth 100000 in
set_option maxHeartbeats 4000000 in
theorem ev_X5_breakBy (x1 : Int32) (M : eMem) (q : eMem) (h : F_X5_breakBy x1 M = some q) : Ev layC 1 m_X5_breakBy 0 [some (.ref 12), some (.int x1), none] [] M (none, q) := by
  rw [F_X5_breakBy] at h
  refine Ev.iconst (pc := 0) dX5_breakBy_0 (v := 0) (by decide) ?_
  refine Ev.istore_n (pc := 1) dX5_breakBy_1 (by decide) rfl rfl ?_
  exact Ev.fg (ev_X5_breakBy_2 _ _ _ _ _ h) (And.intro rfl (And.intro rfl (And.intro rfl trivial)))
theorem dX2_isSeeing_0 : decode cX2_isSeeing 0 = .ok (.aload_n 0, 1) := by decide +kernel
theorem dX2_isSeeing_1 : decode cX2_isSeeing 1 = .ok (.getfield 9, 3) := by decide +kernel
theorem dX2_isSeeing_4 : decode cX2_isSeeing 4 = .ok (.iload_n 1, 1) := by decide +kernel
theorem dX2_isSeeing_5 : decode cX2_isSeeing 5 = .ok (.iaload, 1) := by decide +kernel
theorem dX2_isSeeing_6 : decode cX2_isSeeing 6 = .ok (.iload_n 2, 1) := by decide +kernel
theorem dX2_isSeeing_7 : decode cX2_isSeeing 7 = .ok (.if_icmp .ne 20, 3) := by decide +kernel
theorem dX2_isSeeing_10 : decode cX2_isSeeing 10 = .ok (.aload_n 0, 1) := by decide +kernel
theorem dX2_isSeeing_11 : decode cX2_isSeeing 11 = .ok (.getfield 18, 3) := by decide +kernel
theorem dX2_isSeeing_14 : decode cX2_isSeeing 14 = .ok (.iload_n 1, 1) := by decide +kernel
theorem dX2_isSeeing_15 : decode cX2_isSeeing 15 = .ok (.iaload, 1) := by decide +kernel
theorem dX2_isSeeing_16 : decode cX2_isSeeing 16 = .ok (.iload_n 3, 1) := by decide +kernel
theorem dX2_isSeeing_17 : decode cX2_isSeeing 17 = .ok (.iadd, 1) := by decide +kernel
theorem dX2_isSeeing_18 : decode cX2_isSeeing 18 = .ok (.bipush 9, 2) := by decide +kernel
theorem dX2_isSeeing_20 : decode cX2_isSeeing 20 = .ok (.if_icmp .gt 7, 3) := by decide +kernel
theorem dX2_isSeeing_23 : decode cX2_isSeeing 23 = .ok (.iconst 1, 1) := by decide +kernel
theorem dX2_isSeeing_24 : decode cX2_isSeeing 24 = .ok (.goto 4, 3) := by decide +kernel
theorem dX2_isSeeing_27 : decode cX2_isSeeing 27 = .ok (.iconst 0, 1) := by decide +kernel
theorem dX2_isSeeing_28 : decode cX2_isSeeing 28 = .ok (.ireturn, 1) := by decide +kernel
def F_X2_isSeeing (x1 : Int32) (x2 : Int32) (x3 : Int32) (M : eMem) : Option Int32 :=
  eG (eIn x1 30) <|
  if (M.1 24 x1.toNatClampNeg) = x2 then
    eG (eIn x1 30) <|
    if 9 < ((M.1 26 x1.toNatClampNeg) + x3) then
      some 0
    else
      some 1
  else
    some 0
set_option maxRecDepth 100000 in
set_option maxHeartbeats 4000000 in
theorem ev_X2_isSeeing (x1 : Int32) (x2 : Int32) (x3 : Int32) (M : eMem) (q : Int32) (h : F_X2_isSeeing x1 x2 x3 M = some q) : Ev layC 0 m_X2_isSeeing 0 [some (.ref 23), some (.int x1), some (.int x2), some (.int x3)] [] M (some (.int q), M) := by
  rw [F_X2_isSeeing] at h
  refine Ev.aload_n (pc := 0) dX2_isSeeing_0 rfl ?_
  refine Ev.getR (pc := 1) dX2_isSeeing_1 fl_RX2_9 lC_23 rfl ?_
  refine Ev.iload_n (pc := 4) dX2_isSeeing_4 rfl ?_
  obtain ⟨g9, h⟩ := eGdB h
  refine Ev.ialdj (pc := 5) dX2_isSeeing_5 (j := x1.toNatClampNeg) lC_24 g9 rfl ?_
  refine Ev.iload_n (pc := 6) dX2_isSeeing_6 rfl ?_
  refine Ev.icmp_ne (pc := 7) (tgt := 27) dX2_isSeeing_7 (by decide) (fun c9 => ?_) (fun c9 => ?_)
  · have h := eF h c9
    refine Ev.iconst (pc := 27) dX2_isSeeing_27 (v := 0) (by decide) ?_
    obtain rfl := Option.some.inj h
    exact Ev.iret (pc := 28) dX2_isSeeing_28 rfl rfl
  · have h := eT h c9
    refine Ev.aload_n (pc := 10) dX2_isSeeing_10 rfl ?_
    refine Ev.getR (pc := 11) dX2_isSeeing_11 fl_RX2_18 lC_23 rfl ?_
    refine Ev.iload_n (pc := 14) dX2_isSeeing_14 rfl ?_
    obtain ⟨g9, h⟩ := eGdB h
    refine Ev.ialdj (pc := 15) dX2_isSeeing_15 (j := x1.toNatClampNeg) lC_26 g9 rfl ?_
    refine Ev.iload_n (pc := 16) dX2_isSeeing_16 rfl ?_
    refine Ev.iadd (pc := 17) dX2_isSeeing_17 ?_
    refine Ev.bipush (pc := 18) dX2_isSeeing_18 (v := 9) (by decide) ?_
    refine Ev.icmp_gt (pc := 20) (tgt := 27) dX2_isSeeing_20 (by decide) (fun c9 => ?_) (fun c9 => ?_)
    · have h := eT h c9
      refine Ev.iconst (pc := 27) dX2_isSeeing_27 (v := 0) (by decide) ?_
      obtain rfl := Option.some.inj h
      exact Ev.iret (pc := 28) dX2_isSeeing_28 rfl rfl
    · have h := eF h c9
      refine Ev.iconst (pc := 23) dX2_isSeeing_23 (v := 1) (by decide) ?_
      refine Ev.goto (pc := 24) (tgt := 28) dX2_isSeeing_24 (by decide) ?_
      obtain rfl := Option.some.inj h
      exact Ev.iret (pc := 28) dX2_isSeeing_28 rfl rfl
theorem dX8_seeShows_0 : decode cX8_seeShows 0 = .ok (.aload_n 0, 1) := by decide +kernel
theorem dX8_seeShows_1 : decode cX8_seeShows 1 = .ok (.getfield 12, 3) := by decide +kernel
theorem dX8_seeShows_4 : decode cX8_seeShows 4 = .ok (.getfield 85, 3) := by decide +kernel
theorem dX8_seeShows_7 : decode cX8_seeShows 7 = .ok (.aload_n 0, 1) := by decide +kernel
theorem dX8_seeShows_8 : decode cX8_seeShows 8 = .ok (.getfield 28, 3) := by decide +kernel
theorem dX8_seeShows_11 : decode cX8_seeShows 11 = .ok (.getfield 247, 3) := by decide +kernel
theorem dX8_seeShows_14 : decode cX8_seeShows 14 = .ok (.iload_n 1, 1) := by decide +kernel
theorem dX8_seeShows_15 : decode cX8_seeShows 15 = .ok (.iaload, 1) := by decide +kernel
theorem dX8_seeShows_16 : decode cX8_seeShows 16 = .ok (.iadd, 1) := by decide +kernel
theorem dX8_seeShows_17 : decode cX8_seeShows 17 = .ok (.istore_n 2, 1) := by decide +kernel
theorem dX8_seeShows_18 : decode cX8_seeShows 18 = .ok (.iconst 0, 1) := by decide +kernel
theorem dX8_seeShows_19 : decode cX8_seeShows 19 = .ok (.istore_n 3, 1) := by decide +kernel
theorem dX8_seeShows_20 : decode cX8_seeShows 20 = .ok (.iload_n 3, 1) := by decide +kernel
theorem dX8_seeShows_21 : decode cX8_seeShows 21 = .ok (.aload_n 0, 1) := by decide +kernel
theorem dX8_seeShows_22 : decode cX8_seeShows 22 = .ok (.getfield 21, 3) := by decide +kernel
theorem dX8_seeShows_25 : decode cX8_seeShows 25 = .ok (.getfield 123, 3) := by decide +kernel
theorem dX8_seeShows_28 : decode cX8_seeShows 28 = .ok (.if_icmp .ge 93, 3) := by decide +kernel
theorem dX8_seeShows_31 : decode cX8_seeShows 31 = .ok (.aload_n 0, 1) := by decide +kernel
theorem dX8_seeShows_32 : decode cX8_seeShows 32 = .ok (.getfield 21, 3) := by decide +kernel
theorem dX8_seeShows_35 : decode cX8_seeShows 35 = .ok (.getfield 98, 3) := by decide +kernel
theorem dX8_seeShows_38 : decode cX8_seeShows 38 = .ok (.iload_n 3, 1) := by decide +kernel
theorem dX8_seeShows_39 : decode cX8_seeShows 39 = .ok (.iaload, 1) := by decide +kernel
theorem dX8_seeShows_40 : decode cX8_seeShows 40 = .ok (.iconst 2, 1) := by decide +kernel
theorem dX8_seeShows_41 : decode cX8_seeShows 41 = .ok (.if_icmp .gt 74, 3) := by decide +kernel
theorem dX8_seeShows_44 : decode cX8_seeShows 44 = .ok (.aload_n 0, 1) := by decide +kernel
theorem dX8_seeShows_45 : decode cX8_seeShows 45 = .ok (.getfield 21, 3) := by decide +kernel
theorem dX8_seeShows_48 : decode cX8_seeShows 48 = .ok (.getfield 95, 3) := by decide +kernel
theorem dX8_seeShows_51 : decode cX8_seeShows 51 = .ok (.iload_n 3, 1) := by decide +kernel
theorem dX8_seeShows_52 : decode cX8_seeShows 52 = .ok (.iaload, 1) := by decide +kernel
theorem dX8_seeShows_53 : decode cX8_seeShows 53 = .ok (.aload_n 0, 1) := by decide +kernel
theorem dX8_seeShows_54 : decode cX8_seeShows 54 = .ok (.getfield 28, 3) := by decide +kernel
theorem dX8_seeShows_57 : decode cX8_seeShows 57 = .ok (.getfield 250, 3) := by decide +kernel
theorem dX8_seeShows_60 : decode cX8_seeShows 60 = .ok (.iload_n 1, 1) := by decide +kernel
theorem dX8_seeShows_61 : decode cX8_seeShows 61 = .ok (.iaload, 1) := by decide +kernel
theorem dX8_seeShows_62 : decode cX8_seeShows 62 = .ok (.if_icmp .eq 6, 3) := by decide +kernel
theorem dX8_seeShows_65 : decode cX8_seeShows 65 = .ok (.goto 50, 3) := by decide +kernel
theorem dX8_seeShows_68 : decode cX8_seeShows 68 = .ok (.aload_n 0, 1) := by decide +kernel
theorem dX8_seeShows_69 : decode cX8_seeShows 69 = .ok (.iload_n 3, 1) := by decide +kernel
theorem dX8_seeShows_70 : decode cX8_seeShows 70 = .ok (.invokevirtual 126, 3) := by decide +kernel
theorem dX8_seeShows_73 : decode cX8_seeShows 73 = .ok (.ifCond .ne 6, 3) := by decide +kernel
theorem dX8_seeShows_76 : decode cX8_seeShows 76 = .ok (.goto 39, 3) := by decide +kernel
theorem dX8_seeShows_79 : decode cX8_seeShows 79 = .ok (.aload_n 0, 1) := by decide +kernel
theorem dX8_seeShows_80 : decode cX8_seeShows 80 = .ok (.getfield 28, 3) := by decide +kernel
theorem dX8_seeShows_83 : decode cX8_seeShows 83 = .ok (.getfield 253, 3) := by decide +kernel
theorem dX8_seeShows_86 : decode cX8_seeShows 86 = .ok (.iload_n 1, 1) := by decide +kernel
theorem dX8_seeShows_87 : decode cX8_seeShows 87 = .ok (.iaload, 1) := by decide +kernel
theorem dX8_seeShows_88 : decode cX8_seeShows 88 = .ok (.aload_n 0, 1) := by decide +kernel
theorem dX8_seeShows_89 : decode cX8_seeShows 89 = .ok (.getfield 21, 3) := by decide +kernel
theorem dX8_seeShows_92 : decode cX8_seeShows 92 = .ok (.iload_n 3, 1) := by decide +kernel
theorem dX8_seeShows_93 : decode cX8_seeShows 93 = .ok (.invokevirtual 256, 3) := by decide +kernel
theorem dX8_seeShows_96 : decode cX8_seeShows 96 = .ok (.if_icmp .lt 7, 3) := by decide +kernel
theorem dX8_seeShows_99 : decode cX8_seeShows 99 = .ok (.iconst 1, 1) := by decide +kernel
theorem dX8_seeShows_100 : decode cX8_seeShows 100 = .ok (.goto 4, 3) := by decide +kernel
theorem dX8_seeShows_103 : decode cX8_seeShows 103 = .ok (.iconst 0, 1) := by decide +kernel
theorem dX8_seeShows_104 : decode cX8_seeShows 104 = .ok (.istore 4, 2) := by decide +kernel
theorem dX8_seeShows_106 : decode cX8_seeShows 106 = .ok (.aload_n 0, 1) := by decide +kernel
theorem dX8_seeShows_107 : decode cX8_seeShows 107 = .ok (.iconst 0, 1) := by decide +kernel
theorem dX8_seeShows_108 : decode cX8_seeShows 108 = .ok (.iload_n 3, 1) := by decide +kernel
theorem dX8_seeShows_109 : decode cX8_seeShows 109 = .ok (.iload 4, 2) := by decide +kernel
theorem dX8_seeShows_111 : decode cX8_seeShows 111 = .ok (.iload_n 2, 1) := by decide +kernel
theorem dX8_seeShows_112 : decode cX8_seeShows 112 = .ok (.invokevirtual 259, 3) := by decide +kernel
theorem dX8_seeShows_115 : decode cX8_seeShows 115 = .ok (.iinc 3 1, 3) := by decide +kernel
theorem dX8_seeShows_118 : decode cX8_seeShows 118 = .ok (.goto (-98), 3) := by decide +kernel
theorem dX8_seeShows_121 : decode cX8_seeShows 121 = .ok (.return_, 1) := by decide +kernel
def F_X8_seeShows_104 (rec : Int32 → Int32 → Int32 → eMem → Option eMem) (v1 : Int32) (v2 : Int32) (v3 : Int32) (s0 : Int32) (M : eMem) : Option eMem :=
  (F_X8_reportShow 0 v3 s0 v2 M).bind fun q3 =>
  rec v1 v2 (v3 + 1) q3
set_option maxRecDepth 100000 in
set_option maxHeartbeats 4000000 in
theorem ev_X8_seeShows_104 (rec : Int32 → Int32 → Int32 → eMem → Option eMem) (q : eMem) (hrec : ∀ (v1 : Int32) (v2 : Int32) (v3 : Int32) (M : eMem), rec v1 v2 v3 M = some q → Ev layC 4 m_X8_seeShows 20 [some (.ref 1), some (.int v1), some (.int v2), some (.int v3), none] [] M (none, q)) (v1 : Int32) (v2 : Int32) (v3 : Int32) (s0 : Int32) (M : eMem) (h : F_X8_seeShows_104 rec v1 v2 v3 s0 M = some q) : Ev layC 4 m_X8_seeShows 104 [some (.ref 1), some (.int v1), some (.int v2), some (.int v3), none] [.int s0] M (none, q) := by
  rw [F_X8_seeShows_104] at h
  refine Ev.istore (pc := 104) dX8_seeShows_104 (by decide) rfl rfl ?_
  refine Ev.aload_n (pc := 106) dX8_seeShows_106 rfl ?_
  refine Ev.iconst (pc := 107) dX8_seeShows_107 (v := 0) (by decide) ?_
  refine Ev.iload_n (pc := 108) dX8_seeShows_108 rfl ?_
  refine Ev.iload (pc := 109) dX8_seeShows_109 rfl ?_
  refine Ev.iload_n (pc := 111) dX8_seeShows_111 rfl ?_
  refine eBk h (fun q3 hq3 h => ?_)
  refine Ev.callV (pc := 112) (as := [.int 0, .int v3, .int s0, .int v2]) (st := []) (z := 0) dX8_seeShows_112 wc_X8_reportShow ml_RX8_259 im_X8_reportShow se_X8_reportShow lC_1 rfl rfl (ev_X8_reportShow 0 v3 s0 v2 M _ hq3) rfl rfl (by decide) rfl rfl (Nat.le_of_ble_eq_true rfl) ?_
  refine Ev.iincv (pc := 115) dX8_seeShows_115 (v := 1) (by decide) rfl (by decide) rfl rfl ?_
  refine Ev.goto (pc := 118) (tgt := 20) dX8_seeShows_118 (by decide) ?_
  exact Ev.fg (hrec _ _ _ _ h) (And.intro rfl (And.intro rfl (And.intro rfl (And.intro rfl trivial))))
def F_X8_seeShows_20  : Nat → Int32 → Int32 → Int32 → eMem → Option eMem
  | 0, _, _, _, _ => none
  | n + 1, v1, v2, v3, M =>
    if v3 < (M.1 12 10) then
      eG (eIn v3 20) <|
      if 2 < (M.1 13 v3.toNatClampNeg) then
        F_X8_seeShows_20 n v1 v2 (v3 + 1) M
      else
        eG (eIn v3 20) <|
        eG (eIn v1 30) <|
        if (M.1 15 v3.toNatClampNeg) = (M.1 25 v1.toNatClampNeg) then
          (F_X8_isShown v3 M).bind fun q1 =>
          if q1.1 = 0 then
            F_X8_seeShows_20 n v1 v2 (v3 + 1) q1.2
          else
            eG (eIn v1 30) <|
            (F_X5_top v3 q1.2).bind fun q2 =>
            if (q1.2.1 26 v1.toNatClampNeg) < q2 then
              F_X8_seeShows_104 (fun v1 v2 v3 M => F_X8_seeShows_20 n v1 v2 v3 M) v1 v2 v3 0 q1.2
            else
              F_X8_seeShows_104 (fun v1 v2 v3 M => F_X8_seeShows_20 n v1 v2 v3 M) v1 v2 v3 1 q1.2
        else
          F_X8_seeShows_20 n v1 v2 (v3 + 1) M
    else
      some M
set_option maxRecDepth 100000 in
set_option maxHeartbeats 4000000 in
theorem ev_X8_seeShows_20  (q : eMem)  : ∀ (fuel : Nat) (v1 : Int32) (v2 : Int32) (v3 : Int32) (M : eMem), F_X8_seeShows_20 fuel v1 v2 v3 M = some q → Ev layC 4 m_X8_seeShows 20 [some (.ref 1), some (.int v1), some (.int v2), some (.int v3), none] [] M (none, q) := by
  intro fuel
  induction fuel with
  | zero => intro v1 v2 v3 M h; rw [F_X8_seeShows_20] at h; cases h
  | succ n ih =>
    intro v1 v2 v3 M h
    rw [F_X8_seeShows_20] at h
    refine Ev.iload_n (pc := 20) dX8_seeShows_20 rfl ?_
    refine Ev.aload_n (pc := 21) dX8_seeShows_21 rfl ?_
    refine Ev.getR (pc := 22) dX8_seeShows_22 fl_RX8_21 lC_1 rfl ?_
    refine Ev.getI (pc := 25) dX8_seeShows_25 fl_RX8_123 lC_12 rfl ?_
    refine Ev.icmp_ge (pc := 28) (tgt := 121) dX8_seeShows_28 (by decide) (fun c9 => ?_) (fun c9 => ?_)
    · have h := eF h c9
      obtain rfl := Option.some.inj h
      exact Ev.vret (pc := 121) dX8_seeShows_121 rfl
    · have h := eT h c9
      refine Ev.aload_n (pc := 31) dX8_seeShows_31 rfl ?_
      refine Ev.getR (pc := 32) dX8_seeShows_32 fl_RX8_21 lC_1 rfl ?_
      refine Ev.getR (pc := 35) dX8_seeShows_35 fl_RX8_98 lC_12 rfl ?_
      refine Ev.iload_n (pc := 38) dX8_seeShows_38 rfl ?_
      obtain ⟨g9, h⟩ := eGdB h
      refine Ev.ialdj (pc := 39) dX8_seeShows_39 (j := v3.toNatClampNeg) lC_13 g9 rfl ?_
      refine Ev.iconst (pc := 40) dX8_seeShows_40 (v := 2) (by decide) ?_
      refine Ev.icmp_gt (pc := 41) (tgt := 115) dX8_seeShows_41 (by decide) (fun c9 => ?_) (fun c9 => ?_)
      · have h := eT h c9
        refine Ev.iincv (pc := 115) dX8_seeShows_115 (v := 1) (by decide) rfl (by decide) rfl rfl ?_
        refine Ev.goto (pc := 118) (tgt := 20) dX8_seeShows_118 (by decide) ?_
        exact Ev.fg (ih _ _ _ _ h) (And.intro rfl (And.intro rfl (And.intro rfl (And.intro rfl trivial))))
      · have h := eF h c9
        refine Ev.aload_n (pc := 44) dX8_seeShows_44 rfl ?_
        refine Ev.getR (pc := 45) dX8_seeShows_45 fl_RX8_21 lC_1 rfl ?_
        refine Ev.getR (pc := 48) dX8_seeShows_48 fl_RX8_95 lC_12 rfl ?_
        refine Ev.iload_n (pc := 51) dX8_seeShows_51 rfl ?_
        obtain ⟨g9, h⟩ := eGdB h
        refine Ev.ialdj (pc := 52) dX8_seeShows_52 (j := v3.toNatClampNeg) lC_15 g9 rfl ?_
        refine Ev.aload_n (pc := 53) dX8_seeShows_53 rfl ?_
        refine Ev.getR (pc := 54) dX8_seeShows_54 fl_RX8_28 lC_1 rfl ?_
        refine Ev.getR (pc := 57) dX8_seeShows_57 fl_RX8_250 lC_23 rfl ?_
        refine Ev.iload_n (pc := 60) dX8_seeShows_60 rfl ?_
        obtain ⟨g9, h⟩ := eGdB h
        refine Ev.ialdj (pc := 61) dX8_seeShows_61 (j := v1.toNatClampNeg) lC_25 g9 rfl ?_
        refine Ev.icmp_eq (pc := 62) (tgt := 68) dX8_seeShows_62 (by decide) (fun c9 => ?_) (fun c9 => ?_)
        · have h := eT h c9
          refine Ev.aload_n (pc := 68) dX8_seeShows_68 rfl ?_
          refine Ev.iload_n (pc := 69) dX8_seeShows_69 rfl ?_
          refine eBk h (fun q1 hq1 h => ?_)
          refine Ev.callV (pc := 70) (as := [.int v3]) (st := []) (z := 0) dX8_seeShows_70 wc_X8_isShown ml_RX8_126 im_X8_isShown se_X8_isShown lC_1 rfl rfl (ev_X8_isShown v3 M _ hq1) rfl rfl (by decide) rfl rfl (Nat.le_of_ble_eq_true rfl) ?_
          refine Ev.if_ne (pc := 73) (tgt := 79) dX8_seeShows_73 (by decide) (fun c9 => ?_) (fun c9 => ?_)
          · have h := eF h c9
            refine Ev.aload_n (pc := 79) dX8_seeShows_79 rfl ?_
            refine Ev.getR (pc := 80) dX8_seeShows_80 fl_RX8_28 lC_1 rfl ?_
            refine Ev.getR (pc := 83) dX8_seeShows_83 fl_RX8_253 lC_23 rfl ?_
            refine Ev.iload_n (pc := 86) dX8_seeShows_86 rfl ?_
            obtain ⟨g9, h⟩ := eGdB h
            refine Ev.ialdj (pc := 87) dX8_seeShows_87 (j := v1.toNatClampNeg) lC_26 g9 rfl ?_
            refine Ev.aload_n (pc := 88) dX8_seeShows_88 rfl ?_
            refine Ev.getR (pc := 89) dX8_seeShows_89 fl_RX8_21 lC_1 rfl ?_
            refine Ev.iload_n (pc := 92) dX8_seeShows_92 rfl ?_
            refine eBk h (fun q2 hq2 h => ?_)
            refine Ev.callV (pc := 93) (as := [.int v3]) (st := [.int (q1.2.1 26 v1.toNatClampNeg)]) (z := 0) dX8_seeShows_93 wc_X5_top ml_RX8_256 im_X5_top se_X5_top lC_12 rfl rfl (ev_X5_top v3 q1.2 _ hq2) rfl rfl (by decide) rfl rfl (Nat.le_of_ble_eq_true rfl) ?_
            refine Ev.icmp_lt (pc := 96) (tgt := 103) dX8_seeShows_96 (by decide) (fun c9 => ?_) (fun c9 => ?_)
            · have h := eT h c9
              refine Ev.iconst (pc := 103) dX8_seeShows_103 (v := 0) (by decide) ?_
              exact Ev.fg (ev_X8_seeShows_104 _ _ ih _ _ _ _ _ h) (And.intro rfl (And.intro rfl (And.intro rfl (And.intro rfl trivial))))
            · have h := eF h c9
              refine Ev.iconst (pc := 99) dX8_seeShows_99 (v := 1) (by decide) ?_
              refine Ev.goto (pc := 100) (tgt := 104) dX8_seeShows_100 (by decide) ?_
              exact Ev.fg (ev_X8_seeShows_104 _ _ ih _ _ _ _ _ h) (And.intro rfl (And.intro rfl (And.intro rfl (And.intro rfl trivial))))
          · have h := eT h c9
            refine Ev.goto (pc := 76) (tgt := 115) dX8_seeShows_76 (by decide) ?_
            refine Ev.iincv (pc := 115) dX8_seeShows_115 (v := 1) (by decide) rfl (by decide) rfl rfl ?_
            refine Ev.goto (pc := 118) (tgt := 20) dX8_seeShows_118 (by decide) ?_
            exact Ev.fg (ih _ _ _ _ h) (And.intro rfl (And.intro rfl (And.intro rfl (And.intro rfl trivial))))
        · have h := eF h c9
          refine Ev.goto (pc := 65) (tgt := 115) dX8_seeShows_65 (by decide) ?_
          refine Ev.iincv (pc := 115) dX8_seeShows_115 (v := 1) (by decide) rfl (by decide) rfl rfl ?_
          refine Ev.goto (pc := 118) (tgt := 20) dX8_seeShows_118 (by decide) ?_
          exact Ev.fg (ih _ _ _ _ h) (And.intro rfl (And.intro rfl (And.intro rfl (And.intro rfl trivial))))
def F_X8_seeShows (x1 : Int32) (M : eMem) : Option eMem :=
  eG (eIn x1 30) <|
  F_X8_seeShows_20 eFuel x1 ((M.1 2 11) + (M.1 27 x1.toNatClampNeg)) 0 M
set_option maxRecDepth 100000 in
set_option maxHeartbeats 4000000 in
theorem ev_X8_seeShows (x1 : Int32) (M : eMem) (q : eMem) (h : F_X8_seeShows x1 M = some q) : Ev layC 4 m_X8_seeShows 0 [some (.ref 1), some (.int x1), none, none, none] [] M (none, q) := by
  rw [F_X8_seeShows] at h
  refine Ev.aload_n (pc := 0) dX8_seeShows_0 rfl ?_
  refine Ev.getR (pc := 1) dX8_seeShows_1 fl_RX8_12 lC_1 rfl ?_
  refine Ev.getI (pc := 4) dX8_seeShows_4 fl_RX8_85 lC_2 rfl ?_
  refine Ev.aload_n (pc := 7) dX8_seeShows_7 rfl ?_
  refine Ev.getR (pc := 8) dX8_seeShows_8 fl_RX8_28 lC_1 rfl ?_
  refine Ev.getR (pc := 11) dX8_seeShows_11 fl_RX8_247 lC_23 rfl ?_
  refine Ev.iload_n (pc := 14) dX8_seeShows_14 rfl ?_
  obtain ⟨g9, h⟩ := eGdB h
  refine Ev.ialdj (pc := 15) dX8_seeShows_15 (j := x1.toNatClampNeg) lC_27 g9 rfl ?_
  refine Ev.iadd (pc := 16) dX8_seeShows_16 ?_
  refine Ev.istore_n (pc := 17) dX8_seeShows_17 (by decide) rfl rfl ?_
  refine Ev.iconst (pc := 18) dX8_seeShows_18 (v := 0) (by decide) ?_
  refine Ev.istore_n (pc := 19) dX8_seeShows_19 (by decide) rfl rfl ?_
  exact Ev.fg (ev_X8_seeShows_20 _ _ _ _ _ _ h) (And.intro rfl (And.intro rfl (And.intro rfl (And.intro rfl trivial))))
theorem dX8_seeUnits_0 : decode cX8_seeUnits 0 = .ok (.aload_n 0, 1) := by decide +kernel
theorem dX8_seeUnits_1 : decode cX8_seeUnits 1 = .ok (.getfield 12, 3) := by decide +kernel
theorem dX8_seeUnits_4 : decode cX8_seeUnits 4 = .ok (.getfield 85, 3) := by decide +kernel
theorem dX8_seeUnits_7 : decode cX8_seeUnits 7 = .ok (.aload_n 0, 1) := by decide +kernel
theorem dX8_seeUnits_8 : decode cX8_seeUnits 8 = .ok (.getfield 28, 3) := by decide +kernel
theorem dX8_seeUnits_11 : decode cX8_seeUnits 11 = .ok (.getfield 247, 3) := by decide +kernel
theorem dX8_seeUnits_14 : decode cX8_seeUnits 14 = .ok (.iload_n 1, 1) := by decide +kernel
theorem dX8_seeUnits_15 : decode cX8_seeUnits 15 = .ok (.iaload, 1) := by decide +kernel
theorem dX8_seeUnits_16 : decode cX8_seeUnits 16 = .ok (.iadd, 1) := by decide +kernel
theorem dX8_seeUnits_17 : decode cX8_seeUnits 17 = .ok (.istore_n 2, 1) := by decide +kernel
theorem dX8_seeUnits_18 : decode cX8_seeUnits 18 = .ok (.aload_n 0, 1) := by decide +kernel
theorem dX8_seeUnits_19 : decode cX8_seeUnits 19 = .ok (.getfield 28, 3) := by decide +kernel
theorem dX8_seeUnits_22 : decode cX8_seeUnits 22 = .ok (.getfield 250, 3) := by decide +kernel
theorem dX8_seeUnits_25 : decode cX8_seeUnits 25 = .ok (.iload_n 1, 1) := by decide +kernel
theorem dX8_seeUnits_26 : decode cX8_seeUnits 26 = .ok (.iaload, 1) := by decide +kernel
theorem dX8_seeUnits_27 : decode cX8_seeUnits 27 = .ok (.istore_n 3, 1) := by decide +kernel
theorem dX8_seeUnits_28 : decode cX8_seeUnits 28 = .ok (.aload_n 0, 1) := by decide +kernel
theorem dX8_seeUnits_29 : decode cX8_seeUnits 29 = .ok (.getfield 12, 3) := by decide +kernel
theorem dX8_seeUnits_32 : decode cX8_seeUnits 32 = .ok (.getfield 263, 3) := by decide +kernel
theorem dX8_seeUnits_35 : decode cX8_seeUnits 35 = .ok (.iload_n 3, 1) := by decide +kernel
theorem dX8_seeUnits_36 : decode cX8_seeUnits 36 = .ok (.iaload, 1) := by decide +kernel
theorem dX8_seeUnits_37 : decode cX8_seeUnits 37 = .ok (.iconst 1, 1) := by decide +kernel
theorem dX8_seeUnits_38 : decode cX8_seeUnits 38 = .ok (.if_icmp .ne 17, 3) := by decide +kernel
theorem dX8_seeUnits_41 : decode cX8_seeUnits 41 = .ok (.aload_n 0, 1) := by decide +kernel
theorem dX8_seeUnits_42 : decode cX8_seeUnits 42 = .ok (.getfield 28, 3) := by decide +kernel
theorem dX8_seeUnits_45 : decode cX8_seeUnits 45 = .ok (.getfield 253, 3) := by decide +kernel
theorem dX8_seeUnits_48 : decode cX8_seeUnits 48 = .ok (.iload_n 1, 1) := by decide +kernel
theorem dX8_seeUnits_49 : decode cX8_seeUnits 49 = .ok (.iaload, 1) := by decide +kernel
theorem dX8_seeUnits_50 : decode cX8_seeUnits 50 = .ok (.iconst 2, 1) := by decide +kernel
theorem dX8_seeUnits_51 : decode cX8_seeUnits 51 = .ok (.if_icmp .le 4, 3) := by decide +kernel
theorem dX8_seeUnits_54 : decode cX8_seeUnits 54 = .ok (.return_, 1) := by decide +kernel
theorem dX8_seeUnits_55 : decode cX8_seeUnits 55 = .ok (.iconst 0, 1) := by decide +kernel
theorem dX8_seeUnits_56 : decode cX8_seeUnits 56 = .ok (.istore 4, 2) := by decide +kernel
theorem dX8_seeUnits_58 : decode cX8_seeUnits 58 = .ok (.iload 4, 2) := by decide +kernel
theorem dX8_seeUnits_60 : decode cX8_seeUnits 60 = .ok (.aload_n 0, 1) := by decide +kernel
theorem dX8_seeUnits_61 : decode cX8_seeUnits 61 = .ok (.getfield 12, 3) := by decide +kernel
theorem dX8_seeUnits_64 : decode cX8_seeUnits 64 = .ok (.getfield 266, 3) := by decide +kernel
theorem dX8_seeUnits_67 : decode cX8_seeUnits 67 = .ok (.if_icmp .ge 76, 3) := by decide +kernel
theorem dX8_seeUnits_70 : decode cX8_seeUnits 70 = .ok (.aload_n 0, 1) := by decide +kernel
theorem dX8_seeUnits_71 : decode cX8_seeUnits 71 = .ok (.getfield 12, 3) := by decide +kernel
theorem dX8_seeUnits_74 : decode cX8_seeUnits 74 = .ok (.getfield 269, 3) := by decide +kernel
theorem dX8_seeUnits_77 : decode cX8_seeUnits 77 = .ok (.iload 4, 2) := by decide +kernel
theorem dX8_seeUnits_79 : decode cX8_seeUnits 79 = .ok (.iaload, 1) := by decide +kernel
theorem dX8_seeUnits_80 : decode cX8_seeUnits 80 = .ok (.iload_n 3, 1) := by decide +kernel
theorem dX8_seeUnits_81 : decode cX8_seeUnits 81 = .ok (.if_icmp .ne 56, 3) := by decide +kernel
theorem dX8_seeUnits_84 : decode cX8_seeUnits 84 = .ok (.aload_n 0, 1) := by decide +kernel
theorem dX8_seeUnits_85 : decode cX8_seeUnits 85 = .ok (.getfield 12, 3) := by decide +kernel
theorem dX8_seeUnits_88 : decode cX8_seeUnits 88 = .ok (.iload 4, 2) := by decide +kernel
theorem dX8_seeUnits_90 : decode cX8_seeUnits 90 = .ok (.invokevirtual 272, 3) := by decide +kernel
theorem dX8_seeUnits_93 : decode cX8_seeUnits 93 = .ok (.ifCond .eq 6, 3) := by decide +kernel
theorem dX8_seeUnits_96 : decode cX8_seeUnits 96 = .ok (.goto 41, 3) := by decide +kernel
theorem dX8_seeUnits_99 : decode cX8_seeUnits 99 = .ok (.iconst 0, 1) := by decide +kernel
theorem dX8_seeUnits_100 : decode cX8_seeUnits 100 = .ok (.istore 5, 2) := by decide +kernel
theorem dX8_seeUnits_102 : decode cX8_seeUnits 102 = .ok (.iload 5, 2) := by decide +kernel
theorem dX8_seeUnits_104 : decode cX8_seeUnits 104 = .ok (.iconst 4, 1) := by decide +kernel
theorem dX8_seeUnits_105 : decode cX8_seeUnits 105 = .ok (.if_icmp .ge 32, 3) := by decide +kernel
theorem dX8_seeUnits_108 : decode cX8_seeUnits 108 = .ok (.aload_n 0, 1) := by decide +kernel
theorem dX8_seeUnits_109 : decode cX8_seeUnits 109 = .ok (.getfield 12, 3) := by decide +kernel
theorem dX8_seeUnits_112 : decode cX8_seeUnits 112 = .ok (.getfield 275, 3) := by decide +kernel
theorem dX8_seeUnits_115 : decode cX8_seeUnits 115 = .ok (.iload 5, 2) := by decide +kernel
theorem dX8_seeUnits_117 : decode cX8_seeUnits 117 = .ok (.iaload, 1) := by decide +kernel
theorem dX8_seeUnits_118 : decode cX8_seeUnits 118 = .ok (.iload_n 3, 1) := by decide +kernel
theorem dX8_seeUnits_119 : decode cX8_seeUnits 119 = .ok (.if_icmp .ne 12, 3) := by decide +kernel
theorem dX8_seeUnits_122 : decode cX8_seeUnits 122 = .ok (.aload_n 0, 1) := by decide +kernel
theorem dX8_seeUnits_123 : decode cX8_seeUnits 123 = .ok (.iconst 0, 1) := by decide +kernel
theorem dX8_seeUnits_124 : decode cX8_seeUnits 124 = .ok (.iload 5, 2) := by decide +kernel
theorem dX8_seeUnits_126 : decode cX8_seeUnits 126 = .ok (.iconst 1, 1) := by decide +kernel
theorem dX8_seeUnits_127 : decode cX8_seeUnits 127 = .ok (.iload_n 2, 1) := by decide +kernel
theorem dX8_seeUnits_128 : decode cX8_seeUnits 128 = .ok (.invokevirtual 278, 3) := by decide +kernel
theorem dX8_seeUnits_131 : decode cX8_seeUnits 131 = .ok (.iinc 5 1, 3) := by decide +kernel
theorem dX8_seeUnits_134 : decode cX8_seeUnits 134 = .ok (.goto (-32), 3) := by decide +kernel
theorem dX8_seeUnits_137 : decode cX8_seeUnits 137 = .ok (.iinc 4 1, 3) := by decide +kernel
theorem dX8_seeUnits_140 : decode cX8_seeUnits 140 = .ok (.goto (-82), 3) := by decide +kernel
theorem dX8_seeUnits_143 : decode cX8_seeUnits 143 = .ok (.return_, 1) := by decide +kernel
def F_X8_seeUnits_102 (K137 : Int32 → Int32 → Int32 → eMem → Option eMem) : Nat → Int32 → Int32 → Int32 → Int32 → eMem → Option eMem
  | 0, _, _, _, _, _ => none
  | n + 1, v2, v3, v4, v5, M =>
    if v5 < 4 then
      eG (eIn v5 4) <|
      if (M.1 11 v5.toNatClampNeg) = v3 then
        (F_X8_reportStory 0 v5 1 v2 M).bind fun q2 =>
        F_X8_seeUnits_102 K137 n v2 v3 v4 (v5 + 1) q2
      else
        F_X8_seeUnits_102 K137 n v2 v3 v4 (v5 + 1) M
    else
      K137 v2 v3 v4 M
set_option maxRecDepth 100000 in
set_option maxHeartbeats 4000000 in
theorem ev_X8_seeUnits_102 (K137 : Int32 → Int32 → Int32 → eMem → Option eMem) (q : eMem) (hK137 : ∀ (v2 : Int32) (v3 : Int32) (v4 : Int32) (M : eMem), K137 v2 v3 v4 M = some q → Ev layC 3 m_X8_seeUnits 137 [some (.ref 1), none, some (.int v2), some (.int v3), some (.int v4), none] [] M (none, q)) : ∀ (fuel : Nat) (v2 : Int32) (v3 : Int32) (v4 : Int32) (v5 : Int32) (M : eMem), F_X8_seeUnits_102 K137 fuel v2 v3 v4 v5 M = some q → Ev layC 3 m_X8_seeUnits 102 [some (.ref 1), none, some (.int v2), some (.int v3), some (.int v4), some (.int v5)] [] M (none, q) := by
  intro fuel
  induction fuel with
  | zero => intro v2 v3 v4 v5 M h; rw [F_X8_seeUnits_102] at h; cases h
  | succ n ih =>
    intro v2 v3 v4 v5 M h
    rw [F_X8_seeUnits_102] at h
    refine Ev.iload (pc := 102) dX8_seeUnits_102 rfl ?_
    refine Ev.iconst (pc := 104) dX8_seeUnits_104 (v := 4) (by decide) ?_
    refine Ev.icmp_ge (pc := 105) (tgt := 137) dX8_seeUnits_105 (by decide) (fun c9 => ?_) (fun c9 => ?_)
    · have h := eF h c9
      exact Ev.fg (hK137 _ _ _ _ h) (And.intro rfl (And.intro rfl (And.intro rfl (And.intro rfl trivial))))
    · have h := eT h c9
      refine Ev.aload_n (pc := 108) dX8_seeUnits_108 rfl ?_
      refine Ev.getR (pc := 109) dX8_seeUnits_109 fl_RX8_12 lC_1 rfl ?_
      refine Ev.getR (pc := 112) dX8_seeUnits_112 fl_RX8_275 lC_2 rfl ?_
      refine Ev.iload (pc := 115) dX8_seeUnits_115 rfl ?_
      obtain ⟨g9, h⟩ := eGdB h
      refine Ev.ialdj (pc := 117) dX8_seeUnits_117 (j := v5.toNatClampNeg) lC_11 g9 rfl ?_
      refine Ev.iload_n (pc := 118) dX8_seeUnits_118 rfl ?_
      refine Ev.icmp_ne (pc := 119) (tgt := 131) dX8_seeUnits_119 (by decide) (fun c9 => ?_) (fun c9 => ?_)
      · have h := eF h c9
        refine Ev.iincv (pc := 131) dX8_seeUnits_131 (v := 1) (by decide) rfl (by decide) rfl rfl ?_
        refine Ev.goto (pc := 134) (tgt := 102) dX8_seeUnits_134 (by decide) ?_
        exact Ev.fg (ih _ _ _ _ _ h) (And.intro rfl (And.intro rfl (And.intro rfl (And.intro rfl (And.intro rfl trivial)))))
      · have h := eT h c9
        refine Ev.aload_n (pc := 122) dX8_seeUnits_122 rfl ?_
        refine Ev.iconst (pc := 123) dX8_seeUnits_123 (v := 0) (by decide) ?_
        refine Ev.iload (pc := 124) dX8_seeUnits_124 rfl ?_
        refine Ev.iconst (pc := 126) dX8_seeUnits_126 (v := 1) (by decide) ?_
        refine Ev.iload_n (pc := 127) dX8_seeUnits_127 rfl ?_
        refine eBk h (fun q2 hq2 h => ?_)
        refine Ev.callV (pc := 128) (as := [.int 0, .int v5, .int 1, .int v2]) (st := []) (z := 0) dX8_seeUnits_128 wc_X8_reportStory ml_RX8_278 im_X8_reportStory se_X8_reportStory lC_1 rfl rfl (ev_X8_reportStory 0 v5 1 v2 M _ hq2) rfl rfl (by decide) rfl rfl (Nat.le_of_ble_eq_true rfl) ?_
        refine Ev.iincv (pc := 131) dX8_seeUnits_131 (v := 1) (by decide) rfl (by decide) rfl rfl ?_
        refine Ev.goto (pc := 134) (tgt := 102) dX8_seeUnits_134 (by decide) ?_
        exact Ev.fg (ih _ _ _ _ _ h) (And.intro rfl (And.intro rfl (And.intro rfl (And.intro rfl (And.intro rfl trivial)))))
def F_X8_seeUnits_58  : Nat → Int32 → Int32 → Int32 → eMem → Option eMem
  | 0, _, _, _, _ => none
  | n + 1, v2, v3, v4, M =>
    if v4 < (M.1 2 9) then
      eG (eIn v4 12) <|
      if (M.1 7 v4.toNatClampNeg) = v3 then
        (F_X0_isOnRoad v4 M).bind fun q1 =>
        if q1 = 0 then
          F_X8_seeUnits_102
            (fun v2 v3 v4 M =>
              F_X8_seeUnits_58 n v2 v3 (v4 + 1) M)
            eFuel v2 v3 v4 0 M
        else
          F_X8_seeUnits_58 n v2 v3 (v4 + 1) M
      else
        F_X8_seeUnits_58 n v2 v3 (v4 + 1) M
    else
      some M
set_option maxRecDepth 100000 in
set_option maxHeartbeats 4000000 in
theorem ev_X8_seeUnits_58  (q : eMem)  : ∀ (fuel : Nat) (v2 : Int32) (v3 : Int32) (v4 : Int32) (M : eMem), F_X8_seeUnits_58 fuel v2 v3 v4 M = some q → Ev layC 3 m_X8_seeUnits 58 [some (.ref 1), none, some (.int v2), some (.int v3), some (.int v4), none] [] M (none, q) := by
  intro fuel
  induction fuel with
  | zero => intro v2 v3 v4 M h; rw [F_X8_seeUnits_58] at h; cases h
  | succ n ih =>
    intro v2 v3 v4 M h
    rw [F_X8_seeUnits_58] at h
    refine Ev.iload (pc := 58) dX8_seeUnits_58 rfl ?_
    refine Ev.aload_n (pc := 60) dX8_seeUnits_60 rfl ?_
    refine Ev.getR (pc := 61) dX8_seeUnits_61 fl_RX8_12 lC_1 rfl ?_
    refine Ev.getI (pc := 64) dX8_seeUnits_64 fl_RX8_266 lC_2 rfl ?_
    refine Ev.icmp_ge (pc := 67) (tgt := 143) dX8_seeUnits_67 (by decide) (fun c9 => ?_) (fun c9 => ?_)
    · have h := eF h c9
      obtain rfl := Option.some.inj h
      exact Ev.vret (pc := 143) dX8_seeUnits_143 rfl
    · have h := eT h c9
      refine Ev.aload_n (pc := 70) dX8_seeUnits_70 rfl ?_
      refine Ev.getR (pc := 71) dX8_seeUnits_71 fl_RX8_12 lC_1 rfl ?_
      refine Ev.getR (pc := 74) dX8_seeUnits_74 fl_RX8_269 lC_2 rfl ?_
      refine Ev.iload (pc := 77) dX8_seeUnits_77 rfl ?_
      obtain ⟨g9, h⟩ := eGdB h
      refine Ev.ialdj (pc := 79) dX8_seeUnits_79 (j := v4.toNatClampNeg) lC_7 g9 rfl ?_
      refine Ev.iload_n (pc := 80) dX8_seeUnits_80 rfl ?_
      refine Ev.icmp_ne (pc := 81) (tgt := 137) dX8_seeUnits_81 (by decide) (fun c9 => ?_) (fun c9 => ?_)
      · have h := eF h c9
        refine Ev.iincv (pc := 137) dX8_seeUnits_137 (v := 1) (by decide) rfl (by decide) rfl rfl ?_
        refine Ev.goto (pc := 140) (tgt := 58) dX8_seeUnits_140 (by decide) ?_
        exact Ev.fg (ih _ _ _ _ h) (And.intro rfl (And.intro rfl (And.intro rfl (And.intro rfl trivial))))
      · have h := eT h c9
        refine Ev.aload_n (pc := 84) dX8_seeUnits_84 rfl ?_
        refine Ev.getR (pc := 85) dX8_seeUnits_85 fl_RX8_12 lC_1 rfl ?_
        refine Ev.iload (pc := 88) dX8_seeUnits_88 rfl ?_
        refine eBk h (fun q1 hq1 h => ?_)
        refine Ev.callV (pc := 90) (as := [.int v4]) (st := []) (z := 0) dX8_seeUnits_90 wc_X0_isOnRoad ml_RX8_272 im_X0_isOnRoad se_X0_isOnRoad lC_2 rfl rfl (ev_X0_isOnRoad v4 M _ hq1) rfl rfl (by decide) rfl rfl (Nat.le_of_ble_eq_true rfl) ?_
        refine Ev.if_eq (pc := 93) (tgt := 99) dX8_seeUnits_93 (by decide) (fun c9 => ?_) (fun c9 => ?_)
        · have h := eT h c9
          refine Ev.iconst (pc := 99) dX8_seeUnits_99 (v := 0) (by decide) ?_
          refine Ev.istore (pc := 100) dX8_seeUnits_100 (by decide) rfl rfl ?_
          refine Ev.fg (ev_X8_seeUnits_102 _ _ ?_ _ _ _ _ _ _ h) (And.intro rfl (And.intro rfl (And.intro rfl (And.intro rfl (And.intro rfl trivial)))))
          · intro v2 v3 v4 M h
            refine Ev.iincv (pc := 137) dX8_seeUnits_137 (v := 1) (by decide) rfl (by decide) rfl rfl ?_
            refine Ev.goto (pc := 140) (tgt := 58) dX8_seeUnits_140 (by decide) ?_
            exact Ev.fg (ih _ _ _ _ h) (And.intro rfl (And.intro rfl (And.intro rfl (And.intro rfl trivial))))
        · have h := eF h c9
          refine Ev.goto (pc := 96) (tgt := 137) dX8_seeUnits_96 (by decide) ?_
          refine Ev.iincv (pc := 137) dX8_seeUnits_137 (v := 1) (by decide) rfl (by decide) rfl rfl ?_
          refine Ev.goto (pc := 140) (tgt := 58) dX8_seeUnits_140 (by decide) ?_
          exact Ev.fg (ih _ _ _ _ h) (And.intro rfl (And.intro rfl (And.intro rfl (And.intro rfl trivial))))
def F_X8_seeUnits_55  (v2 : Int32) (v3 : Int32) (M : eMem) : Option eMem :=
  F_X8_seeUnits_58 eFuel v2 v3 0 M
set_option maxRecDepth 100000 in
set_option maxHeartbeats 4000000 in
theorem ev_X8_seeUnits_55  (q : eMem)  (v2 : Int32) (v3 : Int32) (M : eMem) (h : F_X8_seeUnits_55 v2 v3 M = some q) : Ev layC 3 m_X8_seeUnits 55 [some (.ref 1), none, some (.int v2), some (.int v3), none, none] [] M (none, q) := by
  rw [F_X8_seeUnits_55] at h
  refine Ev.iconst (pc := 55) dX8_seeUnits_55 (v := 0) (by decide) ?_
  refine Ev.istore (pc := 56) dX8_seeUnits_56 (by decide) rfl rfl ?_
  exact Ev.fg (ev_X8_seeUnits_58 _ _ _ _ _ _ h) (And.intro rfl (And.intro rfl (And.intro rfl (And.intro rfl trivial))))
def F_X8_seeUnits (x1 : Int32) (M : eMem) : Option eMem :=
  eG (eIn x1 30) <|
  eG (eIn x1 30) <|
  eG (eIn (M.1 25 x1.toNatClampNeg) 96) <|
  if (M.1 3 (M.1 25 x1.toNatClampNeg).toNatClampNeg) = 1 then
    eG (eIn x1 30) <|
    if 2 < (M.1 26 x1.toNatClampNeg) then
      some M
    else
      F_X8_seeUnits_55 ((M.1 2 11) + (M.1 27 x1.toNatClampNeg)) (M.1 25 x1.toNatClampNeg) M
  else
    F_X8_seeUnits_55 ((M.1 2 11) + (M.1 27 x1.toNatClampNeg)) (M.1 25 x1.toNatClampNeg) M
set_option maxRecDepth 100000 in
set_option maxHeartbeats 4000000 in
theorem ev_X8_seeUnits (x1 : Int32) (M : eMem) (q : eMem) (h : F_X8_seeUnits x1 M = some q) : Ev layC 3 m_X8_seeUnits 0 [some (.ref 1), some (.int x1), none, none, none, none] [] M (none, q) := by
  rw [F_X8_seeUnits] at h
  refine Ev.aload_n (pc := 0) dX8_seeUnits_0 rfl ?_
  refine Ev.getR (pc := 1) dX8_seeUnits_1 fl_RX8_12 lC_1 rfl ?_
  refine Ev.getI (pc := 4) dX8_seeUnits_4 fl_RX8_85 lC_2 rfl ?_
  refine Ev.aload_n (pc := 7) dX8_seeUnits_7 rfl ?_
  refine Ev.getR (pc := 8) dX8_seeUnits_8 fl_RX8_28 lC_1 rfl ?_
  refine Ev.getR (pc := 11) dX8_seeUnits_11 fl_RX8_247 lC_23 rfl ?_
  refine Ev.iload_n (pc := 14) dX8_seeUnits_14 rfl ?_
  obtain ⟨g9, h⟩ := eGdB h
  refine Ev.ialdj (pc := 15) dX8_seeUnits_15 (j := x1.toNatClampNeg) lC_27 g9 rfl ?_
  refine Ev.iadd (pc := 16) dX8_seeUnits_16 ?_
  refine Ev.istore_n (pc := 17) dX8_seeUnits_17 (by decide) rfl rfl ?_
  refine Ev.aload_n (pc := 18) dX8_seeUnits_18 rfl ?_
  refine Ev.getR (pc := 19) dX8_seeUnits_19 fl_RX8_28 lC_1 rfl ?_
  refine Ev.getR (pc := 22) dX8_seeUnits_22 fl_RX8_250 lC_23 rfl ?_
  refine Ev.iload_n (pc := 25) dX8_seeUnits_25 rfl ?_
  obtain ⟨g9, h⟩ := eGdB h
  refine Ev.ialdj (pc := 26) dX8_seeUnits_26 (j := x1.toNatClampNeg) lC_25 g9 rfl ?_
  refine Ev.istore_n (pc := 27) dX8_seeUnits_27 (by decide) rfl rfl ?_
  refine Ev.aload_n (pc := 28) dX8_seeUnits_28 rfl ?_
  refine Ev.getR (pc := 29) dX8_seeUnits_29 fl_RX8_12 lC_1 rfl ?_
  refine Ev.getR (pc := 32) dX8_seeUnits_32 fl_RX8_263 lC_2 rfl ?_
  refine Ev.iload_n (pc := 35) dX8_seeUnits_35 rfl ?_
  obtain ⟨g9, h⟩ := eGdB h
  refine Ev.ialdj (pc := 36) dX8_seeUnits_36 (j := (M.1 25 x1.toNatClampNeg).toNatClampNeg) lC_3 g9 rfl ?_
  refine Ev.iconst (pc := 37) dX8_seeUnits_37 (v := 1) (by decide) ?_
  refine Ev.icmp_ne (pc := 38) (tgt := 55) dX8_seeUnits_38 (by decide) (fun c9 => ?_) (fun c9 => ?_)
  · have h := eF h c9
    exact Ev.fg (ev_X8_seeUnits_55 _ _ _ _ h) (And.intro rfl (And.intro rfl (And.intro rfl trivial)))
  · have h := eT h c9
    refine Ev.aload_n (pc := 41) dX8_seeUnits_41 rfl ?_
    refine Ev.getR (pc := 42) dX8_seeUnits_42 fl_RX8_28 lC_1 rfl ?_
    refine Ev.getR (pc := 45) dX8_seeUnits_45 fl_RX8_253 lC_23 rfl ?_
    refine Ev.iload_n (pc := 48) dX8_seeUnits_48 rfl ?_
    obtain ⟨g9, h⟩ := eGdB h
    refine Ev.ialdj (pc := 49) dX8_seeUnits_49 (j := x1.toNatClampNeg) lC_26 g9 rfl ?_
    refine Ev.iconst (pc := 50) dX8_seeUnits_50 (v := 2) (by decide) ?_
    refine Ev.icmp_le (pc := 51) (tgt := 55) dX8_seeUnits_51 (by decide) (fun c9 => ?_) (fun c9 => ?_)
    · have h := eF h c9
      exact Ev.fg (ev_X8_seeUnits_55 _ _ _ _ h) (And.intro rfl (And.intro rfl (And.intro rfl trivial)))
    · have h := eT h c9
      obtain rfl := Option.some.inj h
      exact Ev.vret (pc := 54) dX8_seeUnits_54 rfl
theorem dX8_hearNets_0 : decode cX8_hearNets 0 = .ok (.aload_n 0, 1) := by decide +kernel
theorem dX8_hearNets_1 : decode cX8_hearNets 1 = .ok (.getfield 12, 3) := by decide +kernel
theorem dX8_hearNets_4 : decode cX8_hearNets 4 = .ok (.getfield 85, 3) := by decide +kernel
theorem dX8_hearNets_7 : decode cX8_hearNets 7 = .ok (.bipush 24, 2) := by decide +kernel
theorem dX8_hearNets_9 : decode cX8_hearNets 9 = .ok (.irem, 1) := by decide +kernel
theorem dX8_hearNets_10 : decode cX8_hearNets 10 = .ok (.istore_n 1, 1) := by decide +kernel
theorem dX8_hearNets_11 : decode cX8_hearNets 11 = .ok (.iconst 0, 1) := by decide +kernel
theorem dX8_hearNets_12 : decode cX8_hearNets 12 = .ok (.istore_n 2, 1) := by decide +kernel
theorem dX8_hearNets_13 : decode cX8_hearNets 13 = .ok (.iload_n 2, 1) := by decide +kernel
theorem dX8_hearNets_14 : decode cX8_hearNets 14 = .ok (.aload_n 0, 1) := by decide +kernel
theorem dX8_hearNets_15 : decode cX8_hearNets 15 = .ok (.getfield 21, 3) := by decide +kernel
theorem dX8_hearNets_18 : decode cX8_hearNets 18 = .ok (.getfield 123, 3) := by decide +kernel
theorem dX8_hearNets_21 : decode cX8_hearNets 21 = .ok (.if_icmp .ge 72, 3) := by decide +kernel
theorem dX8_hearNets_24 : decode cX8_hearNets 24 = .ok (.aload_n 0, 1) := by decide +kernel
theorem dX8_hearNets_25 : decode cX8_hearNets 25 = .ok (.getfield 21, 3) := by decide +kernel
theorem dX8_hearNets_28 : decode cX8_hearNets 28 = .ok (.getfield 98, 3) := by decide +kernel
theorem dX8_hearNets_31 : decode cX8_hearNets 31 = .ok (.iload_n 2, 1) := by decide +kernel
theorem dX8_hearNets_32 : decode cX8_hearNets 32 = .ok (.iaload, 1) := by decide +kernel
theorem dX8_hearNets_33 : decode cX8_hearNets 33 = .ok (.iconst 3, 1) := by decide +kernel
theorem dX8_hearNets_34 : decode cX8_hearNets 34 = .ok (.if_icmp .ne 53, 3) := by decide +kernel
theorem dX8_hearNets_37 : decode cX8_hearNets 37 = .ok (.iload_n 1, 1) := by decide +kernel
theorem dX8_hearNets_38 : decode cX8_hearNets 38 = .ok (.aload_n 0, 1) := by decide +kernel
theorem dX8_hearNets_39 : decode cX8_hearNets 39 = .ok (.getfield 21, 3) := by decide +kernel
theorem dX8_hearNets_42 : decode cX8_hearNets 42 = .ok (.getfield 130, 3) := by decide +kernel
theorem dX8_hearNets_45 : decode cX8_hearNets 45 = .ok (.iload_n 2, 1) := by decide +kernel
theorem dX8_hearNets_46 : decode cX8_hearNets 46 = .ok (.iaload, 1) := by decide +kernel
theorem dX8_hearNets_47 : decode cX8_hearNets 47 = .ok (.aload_n 0, 1) := by decide +kernel
theorem dX8_hearNets_48 : decode cX8_hearNets 48 = .ok (.getfield 21, 3) := by decide +kernel
theorem dX8_hearNets_51 : decode cX8_hearNets 51 = .ok (.getfield 165, 3) := by decide +kernel
theorem dX8_hearNets_54 : decode cX8_hearNets 54 = .ok (.iload_n 2, 1) := by decide +kernel
theorem dX8_hearNets_55 : decode cX8_hearNets 55 = .ok (.iaload, 1) := by decide +kernel
theorem dX8_hearNets_56 : decode cX8_hearNets 56 = .ok (.invokestatic 281, 3) := by decide +kernel
theorem dX8_hearNets_59 : decode cX8_hearNets 59 = .ok (.ifCond .ne 6, 3) := by decide +kernel
theorem dX8_hearNets_62 : decode cX8_hearNets 62 = .ok (.goto 25, 3) := by decide +kernel
theorem dX8_hearNets_65 : decode cX8_hearNets 65 = .ok (.aload_n 0, 1) := by decide +kernel
theorem dX8_hearNets_66 : decode cX8_hearNets 66 = .ok (.iload_n 2, 1) := by decide +kernel
theorem dX8_hearNets_67 : decode cX8_hearNets 67 = .ok (.invokevirtual 126, 3) := by decide +kernel
theorem dX8_hearNets_70 : decode cX8_hearNets 70 = .ok (.ifCond .eq 17, 3) := by decide +kernel
theorem dX8_hearNets_73 : decode cX8_hearNets 73 = .ok (.aload_n 0, 1) := by decide +kernel
theorem dX8_hearNets_74 : decode cX8_hearNets 74 = .ok (.iconst 1, 1) := by decide +kernel
theorem dX8_hearNets_75 : decode cX8_hearNets 75 = .ok (.iload_n 2, 1) := by decide +kernel
theorem dX8_hearNets_76 : decode cX8_hearNets 76 = .ok (.iconst 1, 1) := by decide +kernel
theorem dX8_hearNets_77 : decode cX8_hearNets 77 = .ok (.aload_n 0, 1) := by decide +kernel
theorem dX8_hearNets_78 : decode cX8_hearNets 78 = .ok (.getfield 12, 3) := by decide +kernel
theorem dX8_hearNets_81 : decode cX8_hearNets 81 = .ok (.getfield 85, 3) := by decide +kernel
theorem dX8_hearNets_84 : decode cX8_hearNets 84 = .ok (.invokevirtual 259, 3) := by decide +kernel
theorem dX8_hearNets_87 : decode cX8_hearNets 87 = .ok (.iinc 2 1, 3) := by decide +kernel
theorem dX8_hearNets_90 : decode cX8_hearNets 90 = .ok (.goto (-77), 3) := by decide +kernel
theorem dX8_hearNets_93 : decode cX8_hearNets 93 = .ok (.return_, 1) := by decide +kernel
def F_X8_hearNets_13  : Nat → Int32 → Int32 → eMem → Option eMem
  | 0, _, _, _ => none
  | n + 1, v1, v2, M =>
    if v2 < (M.1 12 10) then
      eG (eIn v2 20) <|
      if (M.1 13 v2.toNatClampNeg) = 3 then
        eG (eIn v2 20) <|
        eG (eIn v2 20) <|
        (F_X9_isBetween v1 (M.1 16 v2.toNatClampNeg) (M.1 17 v2.toNatClampNeg)).bind fun q1 =>
        if q1 = 0 then
          F_X8_hearNets_13 n v1 (v2 + 1) M
        else
          (F_X8_isShown v2 M).bind fun q2 =>
          if q2.1 = 0 then
            F_X8_hearNets_13 n v1 (v2 + 1) q2.2
          else
            (F_X8_reportShow 1 v2 1 (q2.2.1 2 11) q2.2).bind fun q3 =>
            F_X8_hearNets_13 n v1 (v2 + 1) q3
      else
        F_X8_hearNets_13 n v1 (v2 + 1) M
    else
      some M
set_option maxRecDepth 100000 in
set_option maxHeartbeats 4000000 in
theorem ev_X8_hearNets_13  (q : eMem)  : ∀ (fuel : Nat) (v1 : Int32) (v2 : Int32) (M : eMem), F_X8_hearNets_13 fuel v1 v2 M = some q → Ev layC 4 m_X8_hearNets 13 [some (.ref 1), some (.int v1), some (.int v2)] [] M (none, q) := by
  intro fuel
  induction fuel with
  | zero => intro v1 v2 M h; rw [F_X8_hearNets_13] at h; cases h
  | succ n ih =>
    intro v1 v2 M h
    rw [F_X8_hearNets_13] at h
    refine Ev.iload_n (pc := 13) dX8_hearNets_13 rfl ?_
    refine Ev.aload_n (pc := 14) dX8_hearNets_14 rfl ?_
    refine Ev.getR (pc := 15) dX8_hearNets_15 fl_RX8_21 lC_1 rfl ?_
    refine Ev.getI (pc := 18) dX8_hearNets_18 fl_RX8_123 lC_12 rfl ?_
    refine Ev.icmp_ge (pc := 21) (tgt := 93) dX8_hearNets_21 (by decide) (fun c9 => ?_) (fun c9 => ?_)
    · have h := eF h c9
      obtain rfl := Option.some.inj h
      exact Ev.vret (pc := 93) dX8_hearNets_93 rfl
    · have h := eT h c9
      refine Ev.aload_n (pc := 24) dX8_hearNets_24 rfl ?_
      refine Ev.getR (pc := 25) dX8_hearNets_25 fl_RX8_21 lC_1 rfl ?_
      refine Ev.getR (pc := 28) dX8_hearNets_28 fl_RX8_98 lC_12 rfl ?_
      refine Ev.iload_n (pc := 31) dX8_hearNets_31 rfl ?_
      obtain ⟨g9, h⟩ := eGdB h
      refine Ev.ialdj (pc := 32) dX8_hearNets_32 (j := v2.toNatClampNeg) lC_13 g9 rfl ?_
      refine Ev.iconst (pc := 33) dX8_hearNets_33 (v := 3) (by decide) ?_
      refine Ev.icmp_ne (pc := 34) (tgt := 87) dX8_hearNets_34 (by decide) (fun c9 => ?_) (fun c9 => ?_)
      · have h := eF h c9
        refine Ev.iincv (pc := 87) dX8_hearNets_87 (v := 1) (by decide) rfl (by decide) rfl rfl ?_
        refine Ev.goto (pc := 90) (tgt := 13) dX8_hearNets_90 (by decide) ?_
        exact Ev.fg (ih _ _ _ h) (And.intro rfl (And.intro rfl (And.intro rfl trivial)))
      · have h := eT h c9
        refine Ev.iload_n (pc := 37) dX8_hearNets_37 rfl ?_
        refine Ev.aload_n (pc := 38) dX8_hearNets_38 rfl ?_
        refine Ev.getR (pc := 39) dX8_hearNets_39 fl_RX8_21 lC_1 rfl ?_
        refine Ev.getR (pc := 42) dX8_hearNets_42 fl_RX8_130 lC_12 rfl ?_
        refine Ev.iload_n (pc := 45) dX8_hearNets_45 rfl ?_
        obtain ⟨g9, h⟩ := eGdB h
        refine Ev.ialdj (pc := 46) dX8_hearNets_46 (j := v2.toNatClampNeg) lC_16 g9 rfl ?_
        refine Ev.aload_n (pc := 47) dX8_hearNets_47 rfl ?_
        refine Ev.getR (pc := 48) dX8_hearNets_48 fl_RX8_21 lC_1 rfl ?_
        refine Ev.getR (pc := 51) dX8_hearNets_51 fl_RX8_165 lC_12 rfl ?_
        refine Ev.iload_n (pc := 54) dX8_hearNets_54 rfl ?_
        obtain ⟨g9, h⟩ := eGdB h
        refine Ev.ialdj (pc := 55) dX8_hearNets_55 (j := v2.toNatClampNeg) lC_17 g9 rfl ?_
        refine eBk h (fun q1 hq1 h => ?_)
        refine Ev.callSN (host := "GhostCoast") (pc := 56) (as := [.int v1, .int (M.1 16 v2.toNatClampNeg), .int (M.1 17 v2.toNatClampNeg)]) (st := []) (z := 0) dX8_hearNets_56 wc_X9_isBetween mn_RX8_281 sm_X9_isBetween (ev_X9_isBetween v1 (M.1 16 v2.toNatClampNeg) (M.1 17 v2.toNatClampNeg) M _ hq1) rfl rfl (by decide) rfl rfl (Nat.le_of_ble_eq_true rfl) ?_
        refine Ev.if_ne (pc := 59) (tgt := 65) dX8_hearNets_59 (by decide) (fun c9 => ?_) (fun c9 => ?_)
        · have h := eF h c9
          refine Ev.aload_n (pc := 65) dX8_hearNets_65 rfl ?_
          refine Ev.iload_n (pc := 66) dX8_hearNets_66 rfl ?_
          refine eBk h (fun q2 hq2 h => ?_)
          refine Ev.callV (pc := 67) (as := [.int v2]) (st := []) (z := 0) dX8_hearNets_67 wc_X8_isShown ml_RX8_126 im_X8_isShown se_X8_isShown lC_1 rfl rfl (ev_X8_isShown v2 M _ hq2) rfl rfl (by decide) rfl rfl (Nat.le_of_ble_eq_true rfl) ?_
          refine Ev.if_eq (pc := 70) (tgt := 87) dX8_hearNets_70 (by decide) (fun c9 => ?_) (fun c9 => ?_)
          · have h := eT h c9
            refine Ev.iincv (pc := 87) dX8_hearNets_87 (v := 1) (by decide) rfl (by decide) rfl rfl ?_
            refine Ev.goto (pc := 90) (tgt := 13) dX8_hearNets_90 (by decide) ?_
            exact Ev.fg (ih _ _ _ h) (And.intro rfl (And.intro rfl (And.intro rfl trivial)))
          · have h := eF h c9
            refine Ev.aload_n (pc := 73) dX8_hearNets_73 rfl ?_
            refine Ev.iconst (pc := 74) dX8_hearNets_74 (v := 1) (by decide) ?_
            refine Ev.iload_n (pc := 75) dX8_hearNets_75 rfl ?_
            refine Ev.iconst (pc := 76) dX8_hearNets_76 (v := 1) (by decide) ?_
            refine Ev.aload_n (pc := 77) dX8_hearNets_77 rfl ?_
            refine Ev.getR (pc := 78) dX8_hearNets_78 fl_RX8_12 lC_1 rfl ?_
            refine Ev.getI (pc := 81) dX8_hearNets_81 fl_RX8_85 lC_2 rfl ?_
            refine eBk h (fun q3 hq3 h => ?_)
            refine Ev.callV (pc := 84) (as := [.int 1, .int v2, .int 1, .int (q2.2.1 2 11)]) (st := []) (z := 0) dX8_hearNets_84 wc_X8_reportShow ml_RX8_259 im_X8_reportShow se_X8_reportShow lC_1 rfl rfl (ev_X8_reportShow 1 v2 1 (q2.2.1 2 11) q2.2 _ hq3) rfl rfl (by decide) rfl rfl (Nat.le_of_ble_eq_true rfl) ?_
            refine Ev.iincv (pc := 87) dX8_hearNets_87 (v := 1) (by decide) rfl (by decide) rfl rfl ?_
            refine Ev.goto (pc := 90) (tgt := 13) dX8_hearNets_90 (by decide) ?_
            exact Ev.fg (ih _ _ _ h) (And.intro rfl (And.intro rfl (And.intro rfl trivial)))
        · have h := eT h c9
          refine Ev.goto (pc := 62) (tgt := 87) dX8_hearNets_62 (by decide) ?_
          refine Ev.iincv (pc := 87) dX8_hearNets_87 (v := 1) (by decide) rfl (by decide) rfl rfl ?_
          refine Ev.goto (pc := 90) (tgt := 13) dX8_hearNets_90 (by decide) ?_
          exact Ev.fg (ih _ _ _ h) (And.intro rfl (And.intro rfl (And.intro rfl trivial)))
def F_X8_hearNets  (M : eMem) : Option eMem :=
  F_X8_hearNets_13 eFuel ((M.1 2 11) - (M.1 2 11) / 24 * 24) 0 M
set_option maxRecDepth 100000 in
set_option maxHeartbeats 4000000 in
theorem ev_X8_hearNets  (M : eMem) (q : eMem) (h : F_X8_hearNets  M = some q) : Ev layC 4 m_X8_hearNets 0 [some (.ref 1), none, none] [] M (none, q) := by
  rw [F_X8_hearNets] at h
  refine Ev.aload_n (pc := 0) dX8_hearNets_0 rfl ?_
  refine Ev.getR (pc := 1) dX8_hearNets_1 fl_RX8_12 lC_1 rfl ?_
  refine Ev.getI (pc := 4) dX8_hearNets_4 fl_RX8_85 lC_2 rfl ?_
  refine Ev.bipush (pc := 7) dX8_hearNets_7 (v := 24) (by decide) ?_
  refine Ev.irem (pc := 9) dX8_hearNets_9 (by decide) ?_
  refine Ev.istore_n (pc := 10) dX8_hearNets_10 (by decide) rfl rfl ?_
  refine Ev.iconst (pc := 11) dX8_hearNets_11 (v := 0) (by decide) ?_
  refine Ev.istore_n (pc := 12) dX8_hearNets_12 (by decide) rfl rfl ?_
  exact Ev.fg (ev_X8_hearNets_13 _ _ _ _ _ h) (And.intro rfl (And.intro rfl (And.intro rfl trivial)))
theorem dX8_findPapers_0 : decode cX8_findPapers 0 = .ok (.iconst 0, 1) := by decide +kernel
theorem dX8_findPapers_1 : decode cX8_findPapers 1 = .ok (.istore_n 1, 1) := by decide +kernel
theorem dX8_findPapers_2 : decode cX8_findPapers 2 = .ok (.iload_n 1, 1) := by decide +kernel
theorem dX8_findPapers_3 : decode cX8_findPapers 3 = .ok (.aload_n 0, 1) := by decide +kernel
theorem dX8_findPapers_4 : decode cX8_findPapers 4 = .ok (.getfield 21, 3) := by decide +kernel
theorem dX8_findPapers_7 : decode cX8_findPapers 7 = .ok (.getfield 123, 3) := by decide +kernel
theorem dX8_findPapers_10 : decode cX8_findPapers 10 = .ok (.if_icmp .ge 101, 3) := by decide +kernel
theorem dX8_findPapers_13 : decode cX8_findPapers 13 = .ok (.aload_n 0, 1) := by decide +kernel
theorem dX8_findPapers_14 : decode cX8_findPapers 14 = .ok (.getfield 21, 3) := by decide +kernel
theorem dX8_findPapers_17 : decode cX8_findPapers 17 = .ok (.getfield 98, 3) := by decide +kernel
theorem dX8_findPapers_20 : decode cX8_findPapers 20 = .ok (.iload_n 1, 1) := by decide +kernel
theorem dX8_findPapers_21 : decode cX8_findPapers 21 = .ok (.iaload, 1) := by decide +kernel
theorem dX8_findPapers_22 : decode cX8_findPapers 22 = .ok (.iconst 5, 1) := by decide +kernel
theorem dX8_findPapers_23 : decode cX8_findPapers 23 = .ok (.if_icmp .ne 82, 3) := by decide +kernel
theorem dX8_findPapers_26 : decode cX8_findPapers 26 = .ok (.aload_n 0, 1) := by decide +kernel
theorem dX8_findPapers_27 : decode cX8_findPapers 27 = .ok (.getfield 21, 3) := by decide +kernel
theorem dX8_findPapers_30 : decode cX8_findPapers 30 = .ok (.getfield 105, 3) := by decide +kernel
theorem dX8_findPapers_33 : decode cX8_findPapers 33 = .ok (.iload_n 1, 1) := by decide +kernel
theorem dX8_findPapers_34 : decode cX8_findPapers 34 = .ok (.baload, 1) := by decide +kernel
theorem dX8_findPapers_35 : decode cX8_findPapers 35 = .ok (.ifCond .ne 6, 3) := by decide +kernel
theorem dX8_findPapers_38 : decode cX8_findPapers 38 = .ok (.goto 67, 3) := by decide +kernel
theorem dX8_findPapers_41 : decode cX8_findPapers 41 = .ok (.aload_n 0, 1) := by decide +kernel
theorem dX8_findPapers_42 : decode cX8_findPapers 42 = .ok (.getfield 12, 3) := by decide +kernel
theorem dX8_findPapers_45 : decode cX8_findPapers 45 = .ok (.getfield 85, 3) := by decide +kernel
theorem dX8_findPapers_48 : decode cX8_findPapers 48 = .ok (.aload_n 0, 1) := by decide +kernel
theorem dX8_findPapers_49 : decode cX8_findPapers 49 = .ok (.getfield 21, 3) := by decide +kernel
theorem dX8_findPapers_52 : decode cX8_findPapers 52 = .ok (.getfield 284, 3) := by decide +kernel
theorem dX8_findPapers_55 : decode cX8_findPapers 55 = .ok (.iload_n 1, 1) := by decide +kernel
theorem dX8_findPapers_56 : decode cX8_findPapers 56 = .ok (.iaload, 1) := by decide +kernel
theorem dX8_findPapers_57 : decode cX8_findPapers 57 = .ok (.isub, 1) := by decide +kernel
theorem dX8_findPapers_58 : decode cX8_findPapers 58 = .ok (.aload_n 0, 1) := by decide +kernel
theorem dX8_findPapers_59 : decode cX8_findPapers 59 = .ok (.getfield 21, 3) := by decide +kernel
theorem dX8_findPapers_62 : decode cX8_findPapers 62 = .ok (.getfield 165, 3) := by decide +kernel
theorem dX8_findPapers_65 : decode cX8_findPapers 65 = .ok (.iload_n 1, 1) := by decide +kernel
theorem dX8_findPapers_66 : decode cX8_findPapers 66 = .ok (.iaload, 1) := by decide +kernel
theorem dX8_findPapers_67 : decode cX8_findPapers 67 = .ok (.if_icmp .lt 38, 3) := by decide +kernel
theorem dX8_findPapers_70 : decode cX8_findPapers 70 = .ok (.aload_n 0, 1) := by decide +kernel
theorem dX8_findPapers_71 : decode cX8_findPapers 71 = .ok (.iload_n 1, 1) := by decide +kernel
theorem dX8_findPapers_72 : decode cX8_findPapers 72 = .ok (.invokevirtual 126, 3) := by decide +kernel
theorem dX8_findPapers_75 : decode cX8_findPapers 75 = .ok (.ifCond .ne 6, 3) := by decide +kernel
theorem dX8_findPapers_78 : decode cX8_findPapers 78 = .ok (.goto 27, 3) := by decide +kernel
theorem dX8_findPapers_81 : decode cX8_findPapers 81 = .ok (.aload_n 0, 1) := by decide +kernel
theorem dX8_findPapers_82 : decode cX8_findPapers 82 = .ok (.iconst 3, 1) := by decide +kernel
theorem dX8_findPapers_83 : decode cX8_findPapers 83 = .ok (.iload_n 1, 1) := by decide +kernel
theorem dX8_findPapers_84 : decode cX8_findPapers 84 = .ok (.iconst 1, 1) := by decide +kernel
theorem dX8_findPapers_85 : decode cX8_findPapers 85 = .ok (.aload_n 0, 1) := by decide +kernel
theorem dX8_findPapers_86 : decode cX8_findPapers 86 = .ok (.getfield 12, 3) := by decide +kernel
theorem dX8_findPapers_89 : decode cX8_findPapers 89 = .ok (.getfield 85, 3) := by decide +kernel
theorem dX8_findPapers_92 : decode cX8_findPapers 92 = .ok (.invokevirtual 259, 3) := by decide +kernel
theorem dX8_findPapers_95 : decode cX8_findPapers 95 = .ok (.aload_n 0, 1) := by decide +kernel
theorem dX8_findPapers_96 : decode cX8_findPapers 96 = .ok (.getfield 21, 3) := by decide +kernel
theorem dX8_findPapers_99 : decode cX8_findPapers 99 = .ok (.getfield 105, 3) := by decide +kernel
theorem dX8_findPapers_102 : decode cX8_findPapers 102 = .ok (.iload_n 1, 1) := by decide +kernel
theorem dX8_findPapers_103 : decode cX8_findPapers 103 = .ok (.iconst 0, 1) := by decide +kernel
theorem dX8_findPapers_104 : decode cX8_findPapers 104 = .ok (.bastore, 1) := by decide +kernel
theorem dX8_findPapers_105 : decode cX8_findPapers 105 = .ok (.iinc 1 1, 3) := by decide +kernel
theorem dX8_findPapers_108 : decode cX8_findPapers 108 = .ok (.goto (-106), 3) := by decide +kernel
theorem dX8_findPapers_111 : decode cX8_findPapers 111 = .ok (.return_, 1) := by decide +kernel
def F_X8_findPapers_2  : Nat → Int32 → eMem → Option eMem
  | 0, _, _ => none
  | n + 1, v1, M =>
    if v1 < (M.1 12 10) then
      eG (eIn v1 20) <|
      if (M.1 13 v1.toNatClampNeg) = 5 then
        eG (eIn v1 20) <|
        if (M.1 18 v1.toNatClampNeg) = 0 then
          F_X8_findPapers_2 n (v1 + 1) M
        else
          eG (eIn v1 20) <|
          eG (eIn v1 20) <|
          if ((M.1 2 11) - (M.1 19 v1.toNatClampNeg)) < (M.1 17 v1.toNatClampNeg) then
            F_X8_findPapers_2 n (v1 + 1) M
          else
            (F_X8_isShown v1 M).bind fun q1 =>
            if q1.1 = 0 then
              F_X8_findPapers_2 n (v1 + 1) q1.2
            else
              (F_X8_reportShow 3 v1 1 (q1.2.1 2 11) q1.2).bind fun q2 =>
              eG (eIn v1 20) <|
              F_X8_findPapers_2 n (v1 + 1) (eI q2 18 v1.toNatClampNeg (vp_nar .boolean 0))
      else
        F_X8_findPapers_2 n (v1 + 1) M
    else
      some M
set_option maxRecDepth 100000 in
set_option maxHeartbeats 4000000 in
theorem ev_X8_findPapers_2  (q : eMem)  : ∀ (fuel : Nat) (v1 : Int32) (M : eMem), F_X8_findPapers_2 fuel v1 M = some q → Ev layC 4 m_X8_findPapers 2 [some (.ref 1), some (.int v1)] [] M (none, q) := by
  intro fuel
  induction fuel with
  | zero => intro v1 M h; rw [F_X8_findPapers_2] at h; cases h
  | succ n ih =>
    intro v1 M h
    rw [F_X8_findPapers_2] at h
    refine Ev.iload_n (pc := 2) dX8_findPapers_2 rfl ?_
    refine Ev.aload_n (pc := 3) dX8_findPapers_3 rfl ?_
    refine Ev.getR (pc := 4) dX8_findPapers_4 fl_RX8_21 lC_1 rfl ?_
    refine Ev.getI (pc := 7) dX8_findPapers_7 fl_RX8_123 lC_12 rfl ?_
    refine Ev.icmp_ge (pc := 10) (tgt := 111) dX8_findPapers_10 (by decide) (fun c9 => ?_) (fun c9 => ?_)
    · have h := eF h c9
      obtain rfl := Option.some.inj h
      exact Ev.vret (pc := 111) dX8_findPapers_111 rfl
    · have h := eT h c9
      refine Ev.aload_n (pc := 13) dX8_findPapers_13 rfl ?_
      refine Ev.getR (pc := 14) dX8_findPapers_14 fl_RX8_21 lC_1 rfl ?_
      refine Ev.getR (pc := 17) dX8_findPapers_17 fl_RX8_98 lC_12 rfl ?_
      refine Ev.iload_n (pc := 20) dX8_findPapers_20 rfl ?_
      obtain ⟨g9, h⟩ := eGdB h
      refine Ev.ialdj (pc := 21) dX8_findPapers_21 (j := v1.toNatClampNeg) lC_13 g9 rfl ?_
      refine Ev.iconst (pc := 22) dX8_findPapers_22 (v := 5) (by decide) ?_
      refine Ev.icmp_ne (pc := 23) (tgt := 105) dX8_findPapers_23 (by decide) (fun c9 => ?_) (fun c9 => ?_)
      · have h := eF h c9
        refine Ev.iincv (pc := 105) dX8_findPapers_105 (v := 1) (by decide) rfl (by decide) rfl rfl ?_
        refine Ev.goto (pc := 108) (tgt := 2) dX8_findPapers_108 (by decide) ?_
        exact Ev.fg (ih _ _ h) (And.intro rfl (And.intro rfl trivial))
      · have h := eT h c9
        refine Ev.aload_n (pc := 26) dX8_findPapers_26 rfl ?_
        refine Ev.getR (pc := 27) dX8_findPapers_27 fl_RX8_21 lC_1 rfl ?_
        refine Ev.getR (pc := 30) dX8_findPapers_30 fl_RX8_105 lC_12 rfl ?_
        refine Ev.iload_n (pc := 33) dX8_findPapers_33 rfl ?_
        obtain ⟨g9, h⟩ := eGdB h
        refine Ev.zaldj (pc := 34) dX8_findPapers_34 (j := v1.toNatClampNeg) lC_18 g9 rfl ?_
        refine Ev.if_ne (pc := 35) (tgt := 41) dX8_findPapers_35 (by decide) (fun c9 => ?_) (fun c9 => ?_)
        · have h := eF h c9
          refine Ev.aload_n (pc := 41) dX8_findPapers_41 rfl ?_
          refine Ev.getR (pc := 42) dX8_findPapers_42 fl_RX8_12 lC_1 rfl ?_
          refine Ev.getI (pc := 45) dX8_findPapers_45 fl_RX8_85 lC_2 rfl ?_
          refine Ev.aload_n (pc := 48) dX8_findPapers_48 rfl ?_
          refine Ev.getR (pc := 49) dX8_findPapers_49 fl_RX8_21 lC_1 rfl ?_
          refine Ev.getR (pc := 52) dX8_findPapers_52 fl_RX8_284 lC_12 rfl ?_
          refine Ev.iload_n (pc := 55) dX8_findPapers_55 rfl ?_
          obtain ⟨g9, h⟩ := eGdB h
          refine Ev.ialdj (pc := 56) dX8_findPapers_56 (j := v1.toNatClampNeg) lC_19 g9 rfl ?_
          refine Ev.isub (pc := 57) dX8_findPapers_57 ?_
          refine Ev.aload_n (pc := 58) dX8_findPapers_58 rfl ?_
          refine Ev.getR (pc := 59) dX8_findPapers_59 fl_RX8_21 lC_1 rfl ?_
          refine Ev.getR (pc := 62) dX8_findPapers_62 fl_RX8_165 lC_12 rfl ?_
          refine Ev.iload_n (pc := 65) dX8_findPapers_65 rfl ?_
          obtain ⟨g9, h⟩ := eGdB h
          refine Ev.ialdj (pc := 66) dX8_findPapers_66 (j := v1.toNatClampNeg) lC_17 g9 rfl ?_
          refine Ev.icmp_lt (pc := 67) (tgt := 105) dX8_findPapers_67 (by decide) (fun c9 => ?_) (fun c9 => ?_)
          · have h := eT h c9
            refine Ev.iincv (pc := 105) dX8_findPapers_105 (v := 1) (by decide) rfl (by decide) rfl rfl ?_
            refine Ev.goto (pc := 108) (tgt := 2) dX8_findPapers_108 (by decide) ?_
            exact Ev.fg (ih _ _ h) (And.intro rfl (And.intro rfl trivial))
          · have h := eF h c9
            refine Ev.aload_n (pc := 70) dX8_findPapers_70 rfl ?_
            refine Ev.iload_n (pc := 71) dX8_findPapers_71 rfl ?_
            refine eBk h (fun q1 hq1 h => ?_)
            refine Ev.callV (pc := 72) (as := [.int v1]) (st := []) (z := 0) dX8_findPapers_72 wc_X8_isShown ml_RX8_126 im_X8_isShown se_X8_isShown lC_1 rfl rfl (ev_X8_isShown v1 M _ hq1) rfl rfl (by decide) rfl rfl (Nat.le_of_ble_eq_true rfl) ?_
            refine Ev.if_ne (pc := 75) (tgt := 81) dX8_findPapers_75 (by decide) (fun c9 => ?_) (fun c9 => ?_)
            · have h := eF h c9
              refine Ev.aload_n (pc := 81) dX8_findPapers_81 rfl ?_
              refine Ev.iconst (pc := 82) dX8_findPapers_82 (v := 3) (by decide) ?_
              refine Ev.iload_n (pc := 83) dX8_findPapers_83 rfl ?_
              refine Ev.iconst (pc := 84) dX8_findPapers_84 (v := 1) (by decide) ?_
              refine Ev.aload_n (pc := 85) dX8_findPapers_85 rfl ?_
              refine Ev.getR (pc := 86) dX8_findPapers_86 fl_RX8_12 lC_1 rfl ?_
              refine Ev.getI (pc := 89) dX8_findPapers_89 fl_RX8_85 lC_2 rfl ?_
              refine eBk h (fun q2 hq2 h => ?_)
              refine Ev.callV (pc := 92) (as := [.int 3, .int v1, .int 1, .int (q1.2.1 2 11)]) (st := []) (z := 0) dX8_findPapers_92 wc_X8_reportShow ml_RX8_259 im_X8_reportShow se_X8_reportShow lC_1 rfl rfl (ev_X8_reportShow 3 v1 1 (q1.2.1 2 11) q1.2 _ hq2) rfl rfl (by decide) rfl rfl (Nat.le_of_ble_eq_true rfl) ?_
              refine Ev.aload_n (pc := 95) dX8_findPapers_95 rfl ?_
              refine Ev.getR (pc := 96) dX8_findPapers_96 fl_RX8_21 lC_1 rfl ?_
              refine Ev.getR (pc := 99) dX8_findPapers_99 fl_RX8_105 lC_12 rfl ?_
              refine Ev.iload_n (pc := 102) dX8_findPapers_102 rfl ?_
              refine Ev.iconst (pc := 103) dX8_findPapers_103 (v := 0) (by decide) ?_
              obtain ⟨g9, h⟩ := eGdB h
              refine Ev.zastj (pc := 104) dX8_findPapers_104 (j := v1.toNatClampNeg) lC_18 g9 rfl ?_
              refine Ev.iincv (pc := 105) dX8_findPapers_105 (v := 1) (by decide) rfl (by decide) rfl rfl ?_
              refine Ev.goto (pc := 108) (tgt := 2) dX8_findPapers_108 (by decide) ?_
              exact Ev.fg (ih _ _ h) (And.intro rfl (And.intro rfl trivial))
            · have h := eT h c9
              refine Ev.goto (pc := 78) (tgt := 105) dX8_findPapers_78 (by decide) ?_
              refine Ev.iincv (pc := 105) dX8_findPapers_105 (v := 1) (by decide) rfl (by decide) rfl rfl ?_
              refine Ev.goto (pc := 108) (tgt := 2) dX8_findPapers_108 (by decide) ?_
              exact Ev.fg (ih _ _ h) (And.intro rfl (And.intro rfl trivial))
        · have h := eT h c9
          refine Ev.goto (pc := 38) (tgt := 105) dX8_findPapers_38 (by decide) ?_
          refine Ev.iincv (pc := 105) dX8_findPapers_105 (v := 1) (by decide) rfl (by decide) rfl rfl ?_
          refine Ev.goto (pc := 108) (tgt := 2) dX8_findPapers_108 (by decide) ?_
          exact Ev.fg (ih _ _ h) (And.intro rfl (And.intro rfl trivial))
def F_X8_findPapers  (M : eMem) : Option eMem :=
  F_X8_findPapers_2 eFuel 0 M
set_option maxRecDepth 100000 in
set_option maxHeartbeats 4000000 in
theorem ev_X8_findPapers  (M : eMem) (q : eMem) (h : F_X8_findPapers  M = some q) : Ev layC 4 m_X8_findPapers 0 [some (.ref 1), none] [] M (none, q) := by
  rw [F_X8_findPapers] at h
  refine Ev.iconst (pc := 0) dX8_findPapers_0 (v := 0) (by decide) ?_
  refine Ev.istore_n (pc := 1) dX8_findPapers_1 (by decide) rfl rfl ?_
  exact Ev.fg (ev_X8_findPapers_2 _ _ _ _ h) (And.intro rfl (And.intro rfl trivial))
theorem dX0_march_0 : decode cX0_march 0 = .ok (.iconst 0, 1) := by decide +kernel
theorem dX0_march_1 : decode cX0_march 1 = .ok (.istore_n 1, 1) := by decide +kernel
theorem dX0_march_2 : decode cX0_march 2 = .ok (.iload_n 1, 1) := by decide +kernel
theorem dX0_march_3 : decode cX0_march 3 = .ok (.aload_n 0, 1) := by decide +kernel
theorem dX0_march_4 : decode cX0_march 4 = .ok (.getfield 47, 3) := by decide +kernel
theorem dX0_march_7 : decode cX0_march 7 = .ok (.if_icmp .ge 95, 3) := by decide +kernel
theorem dX0_march_10 : decode cX0_march 10 = .ok (.aload_n 0, 1) := by decide +kernel
theorem dX0_march_11 : decode cX0_march 11 = .ok (.getfield 30, 3) := by decide +kernel
theorem dX0_march_14 : decode cX0_march 14 = .ok (.iload_n 1, 1) := by decide +kernel
theorem dX0_march_15 : decode cX0_march 15 = .ok (.iaload, 1) := by decide +kernel
theorem dX0_march_16 : decode cX0_march 16 = .ok (.istore_n 2, 1) := by decide +kernel
theorem dX0_march_17 : decode cX0_march 17 = .ok (.iload_n 2, 1) := by decide +kernel
theorem dX0_march_18 : decode cX0_march 18 = .ok (.aload_n 0, 1) := by decide +kernel
theorem dX0_march_19 : decode cX0_march 19 = .ok (.getfield 39, 3) := by decide +kernel
theorem dX0_march_22 : decode cX0_march 22 = .ok (.invokestatic 43, 3) := by decide +kernel
theorem dX0_march_25 : decode cX0_march 25 = .ok (.ifCond .ne 6, 3) := by decide +kernel
theorem dX0_march_28 : decode cX0_march 28 = .ok (.goto 68, 3) := by decide +kernel
theorem dX0_march_31 : decode cX0_march 31 = .ok (.aload_n 0, 1) := by decide +kernel
theorem dX0_march_32 : decode cX0_march 32 = .ok (.getfield 33, 3) := by decide +kernel
theorem dX0_march_35 : decode cX0_march 35 = .ok (.iload_n 1, 1) := by decide +kernel
theorem dX0_march_36 : decode cX0_march 36 = .ok (.dup2, 1) := by decide +kernel
theorem dX0_march_37 : decode cX0_march 37 = .ok (.iaload, 1) := by decide +kernel
theorem dX0_march_38 : decode cX0_march 38 = .ok (.iconst 1, 1) := by decide +kernel
theorem dX0_march_39 : decode cX0_march 39 = .ok (.isub, 1) := by decide +kernel
theorem dX0_march_40 : decode cX0_march 40 = .ok (.iastore, 1) := by decide +kernel
theorem dX0_march_41 : decode cX0_march 41 = .ok (.aload_n 0, 1) := by decide +kernel
theorem dX0_march_42 : decode cX0_march 42 = .ok (.getfield 33, 3) := by decide +kernel
theorem dX0_march_45 : decode cX0_march 45 = .ok (.iload_n 1, 1) := by decide +kernel
theorem dX0_march_46 : decode cX0_march 46 = .ok (.iaload, 1) := by decide +kernel
theorem dX0_march_47 : decode cX0_march 47 = .ok (.ifCond .le 6, 3) := by decide +kernel
theorem dX0_march_50 : decode cX0_march 50 = .ok (.goto 46, 3) := by decide +kernel
theorem dX0_march_53 : decode cX0_march 53 = .ok (.aload_n 0, 1) := by decide +kernel
theorem dX0_march_54 : decode cX0_march 54 = .ok (.getfield 24, 3) := by decide +kernel
theorem dX0_march_57 : decode cX0_march 57 = .ok (.iload_n 1, 1) := by decide +kernel
theorem dX0_march_58 : decode cX0_march 58 = .ok (.aload_n 0, 1) := by decide +kernel
theorem dX0_march_59 : decode cX0_march 59 = .ok (.getfield 15, 3) := by decide +kernel
theorem dX0_march_62 : decode cX0_march 62 = .ok (.iload_n 2, 1) := by decide +kernel
theorem dX0_march_63 : decode cX0_march 63 = .ok (.iaload, 1) := by decide +kernel
theorem dX0_march_64 : decode cX0_march 64 = .ok (.aload_n 0, 1) := by decide +kernel
theorem dX0_march_65 : decode cX0_march 65 = .ok (.getfield 24, 3) := by decide +kernel
theorem dX0_march_68 : decode cX0_march 68 = .ok (.iload_n 1, 1) := by decide +kernel
theorem dX0_march_69 : decode cX0_march 69 = .ok (.iaload, 1) := by decide +kernel
theorem dX0_march_70 : decode cX0_march 70 = .ok (.if_icmp .ne 12, 3) := by decide +kernel
theorem dX0_march_73 : decode cX0_march 73 = .ok (.aload_n 0, 1) := by decide +kernel
theorem dX0_march_74 : decode cX0_march 74 = .ok (.getfield 18, 3) := by decide +kernel
theorem dX0_march_77 : decode cX0_march 77 = .ok (.iload_n 2, 1) := by decide +kernel
theorem dX0_march_78 : decode cX0_march 78 = .ok (.iaload, 1) := by decide +kernel
theorem dX0_march_79 : decode cX0_march 79 = .ok (.goto 9, 3) := by decide +kernel
theorem dX0_march_82 : decode cX0_march 82 = .ok (.aload_n 0, 1) := by decide +kernel
theorem dX0_march_83 : decode cX0_march 83 = .ok (.getfield 15, 3) := by decide +kernel
theorem dX0_march_86 : decode cX0_march 86 = .ok (.iload_n 2, 1) := by decide +kernel
theorem dX0_march_87 : decode cX0_march 87 = .ok (.iaload, 1) := by decide +kernel
theorem dX0_march_88 : decode cX0_march 88 = .ok (.iastore, 1) := by decide +kernel
theorem dX0_march_89 : decode cX0_march 89 = .ok (.aload_n 0, 1) := by decide +kernel
theorem dX0_march_90 : decode cX0_march 90 = .ok (.getfield 30, 3) := by decide +kernel
theorem dX0_march_93 : decode cX0_march 93 = .ok (.iload_n 1, 1) := by decide +kernel
theorem dX0_march_94 : decode cX0_march 94 = .ok (.iconst (-1), 1) := by decide +kernel
theorem dX0_march_95 : decode cX0_march 95 = .ok (.iastore, 1) := by decide +kernel
theorem dX0_march_96 : decode cX0_march 96 = .ok (.iinc 1 1, 3) := by decide +kernel
theorem dX0_march_99 : decode cX0_march 99 = .ok (.goto (-97), 3) := by decide +kernel
theorem dX0_march_102 : decode cX0_march 102 = .ok (.return_, 1) := by decide +kernel
def F_X0_march_88 (rec : Int32 → eMem → Option eMem) (v1 : Int32) (s0 : Int32) (s1 : Int32) (M : eMem) : Option eMem :=
  eG (eIn s1 12) <|
  eG (eIn v1 12) <|
  rec (v1 + 1) (eI (eI M 7 s1.toNatClampNeg s0) 9 v1.toNatClampNeg (-1))
set_option maxRecDepth 100000 in
set_option maxHeartbeats 4000000 in
theorem ev_X0_march_88 (rec : Int32 → eMem → Option eMem) (q : eMem) (hrec : ∀ (v1 : Int32) (M : eMem), rec v1 M = some q → Ev layC 1 m_X0_march 2 [some (.ref 2), some (.int v1), none] [] M (none, q)) (v1 : Int32) (s0 : Int32) (s1 : Int32) (M : eMem) (h : F_X0_march_88 rec v1 s0 s1 M = some q) : Ev layC 1 m_X0_march 88 [some (.ref 2), some (.int v1), none] [.int s0, .int s1, .ref 7] M (none, q) := by
  rw [F_X0_march_88] at h
  obtain ⟨g9, h⟩ := eGdB h
  refine Ev.iastj (pc := 88) dX0_march_88 (j := s1.toNatClampNeg) lC_7 g9 rfl ?_
  refine Ev.aload_n (pc := 89) dX0_march_89 rfl ?_
  refine Ev.getR (pc := 90) dX0_march_90 fl_RX0_30 lC_2 rfl ?_
  refine Ev.iload_n (pc := 93) dX0_march_93 rfl ?_
  refine Ev.iconst (pc := 94) dX0_march_94 (v := (-1)) (by decide) ?_
  obtain ⟨g9, h⟩ := eGdB h
  refine Ev.iastj (pc := 95) dX0_march_95 (j := v1.toNatClampNeg) lC_9 g9 rfl ?_
  refine Ev.iincv (pc := 96) dX0_march_96 (v := 1) (by decide) rfl (by decide) rfl rfl ?_
  refine Ev.goto (pc := 99) (tgt := 2) dX0_march_99 (by decide) ?_
  exact Ev.fg (hrec _ _ h) (And.intro rfl (And.intro rfl trivial))
def F_X0_march_2  : Nat → Int32 → eMem → Option eMem
  | 0, _, _ => none
  | n + 1, v1, M =>
    if v1 < (M.1 2 9) then
      eG (eIn v1 12) <|
      (F_X9_isIn (M.1 9 v1.toNatClampNeg) (M.1 2 4)).bind fun q1 =>
      if q1 = 0 then
        F_X0_march_2 n (v1 + 1) M
      else
        eG (eIn v1 12) <|
        eG (eIn v1 12) <|
        eG (eIn v1 12) <|
        if 0 < ((M.1 10 v1.toNatClampNeg) - 1) then
          F_X0_march_2 n (v1 + 1) (eI M 10 v1.toNatClampNeg ((M.1 10 v1.toNatClampNeg) - 1))
        else
          eG (eIn (M.1 9 v1.toNatClampNeg) 40) <|
          eG (eIn v1 12) <|
          if (M.1 4 (M.1 9 v1.toNatClampNeg).toNatClampNeg) = (M.1 7 v1.toNatClampNeg) then
            eG (eIn (M.1 9 v1.toNatClampNeg) 40) <|
            F_X0_march_88 (fun v1 M => F_X0_march_2 n v1 M) v1 (M.1 5 (M.1 9 v1.toNatClampNeg).toNatClampNeg) v1 (eI M 10 v1.toNatClampNeg ((M.1 10 v1.toNatClampNeg) - 1))
          else
            eG (eIn (M.1 9 v1.toNatClampNeg) 40) <|
            F_X0_march_88 (fun v1 M => F_X0_march_2 n v1 M) v1 (M.1 4 (M.1 9 v1.toNatClampNeg).toNatClampNeg) v1 (eI M 10 v1.toNatClampNeg ((M.1 10 v1.toNatClampNeg) - 1))
    else
      some M
set_option maxRecDepth 100000 in
set_option maxHeartbeats 4000000 in
theorem ev_X0_march_2  (q : eMem)  : ∀ (fuel : Nat) (v1 : Int32) (M : eMem), F_X0_march_2 fuel v1 M = some q → Ev layC 1 m_X0_march 2 [some (.ref 2), some (.int v1), none] [] M (none, q) := by
  intro fuel
  induction fuel with
  | zero => intro v1 M h; rw [F_X0_march_2] at h; cases h
  | succ n ih =>
    intro v1 M h
    rw [F_X0_march_2] at h
    refine Ev.iload_n (pc := 2) dX0_march_2 rfl ?_
    refine Ev.aload_n (pc := 3) dX0_march_3 rfl ?_
    refine Ev.getI (pc := 4) dX0_march_4 fl_RX0_47 lC_2 rfl ?_
    refine Ev.icmp_ge (pc := 7) (tgt := 102) dX0_march_7 (by decide) (fun c9 => ?_) (fun c9 => ?_)
    · have h := eF h c9
      obtain rfl := Option.some.inj h
      exact Ev.vret (pc := 102) dX0_march_102 rfl
    · have h := eT h c9
      refine Ev.aload_n (pc := 10) dX0_march_10 rfl ?_
      refine Ev.getR (pc := 11) dX0_march_11 fl_RX0_30 lC_2 rfl ?_
      refine Ev.iload_n (pc := 14) dX0_march_14 rfl ?_
      obtain ⟨g9, h⟩ := eGdB h
      refine Ev.ialdj (pc := 15) dX0_march_15 (j := v1.toNatClampNeg) lC_9 g9 rfl ?_
      refine Ev.istore_n (pc := 16) dX0_march_16 (by decide) rfl rfl ?_
      refine Ev.iload_n (pc := 17) dX0_march_17 rfl ?_
      refine Ev.aload_n (pc := 18) dX0_march_18 rfl ?_
      refine Ev.getI (pc := 19) dX0_march_19 fl_RX0_39 lC_2 rfl ?_
      refine eBk h (fun q1 hq1 h => ?_)
      refine Ev.callSN (host := "GhostCoast") (pc := 22) (as := [.int (M.1 9 v1.toNatClampNeg), .int (M.1 2 4)]) (st := []) (z := 0) dX0_march_22 wc_X9_isIn mn_RX0_43 sm_X9_isIn (ev_X9_isIn (M.1 9 v1.toNatClampNeg) (M.1 2 4) M _ hq1) rfl rfl (by decide) rfl rfl (Nat.le_of_ble_eq_true rfl) ?_
      refine Ev.if_ne (pc := 25) (tgt := 31) dX0_march_25 (by decide) (fun c9 => ?_) (fun c9 => ?_)
      · have h := eF h c9
        refine Ev.aload_n (pc := 31) dX0_march_31 rfl ?_
        refine Ev.getR (pc := 32) dX0_march_32 fl_RX0_33 lC_2 rfl ?_
        refine Ev.iload_n (pc := 35) dX0_march_35 rfl ?_
        refine Ev.dup2 (pc := 36) dX0_march_36 rfl rfl ?_
        obtain ⟨g9, h⟩ := eGdB h
        refine Ev.ialdj (pc := 37) dX0_march_37 (j := v1.toNatClampNeg) lC_10 g9 rfl ?_
        refine Ev.iconst (pc := 38) dX0_march_38 (v := 1) (by decide) ?_
        refine Ev.isub (pc := 39) dX0_march_39 ?_
        obtain ⟨g9, h⟩ := eGdB h
        refine Ev.iastj (pc := 40) dX0_march_40 (j := v1.toNatClampNeg) lC_10 g9 rfl ?_
        refine Ev.aload_n (pc := 41) dX0_march_41 rfl ?_
        refine Ev.getR (pc := 42) dX0_march_42 fl_RX0_33 lC_2 rfl ?_
        refine Ev.iload_n (pc := 45) dX0_march_45 rfl ?_
        obtain ⟨g9, h⟩ := eGdB h
        refine Ev.ialdv (pc := 46) dX0_march_46 (v := ((M.1 10 v1.toNatClampNeg) - 1)) (j := v1.toNatClampNeg) lC_10 g9 rfl eI_e ?_
        refine Ev.if_le (pc := 47) (tgt := 53) dX0_march_47 (by decide) (fun c9 => ?_) (fun c9 => ?_)
        · have h := eF h c9
          refine Ev.aload_n (pc := 53) dX0_march_53 rfl ?_
          refine Ev.getR (pc := 54) dX0_march_54 fl_RX0_24 lC_2 rfl ?_
          refine Ev.iload_n (pc := 57) dX0_march_57 rfl ?_
          refine Ev.aload_n (pc := 58) dX0_march_58 rfl ?_
          refine Ev.getR (pc := 59) dX0_march_59 fl_RX0_15 lC_2 rfl ?_
          refine Ev.iload_n (pc := 62) dX0_march_62 rfl ?_
          obtain ⟨g9, h⟩ := eGdB h
          refine Ev.ialdv (pc := 63) dX0_march_63 (v := (M.1 4 (M.1 9 v1.toNatClampNeg).toNatClampNeg)) (j := (M.1 9 v1.toNatClampNeg).toNatClampNeg) lC_4 g9 rfl (eI_n (by decide)) ?_
          refine Ev.aload_n (pc := 64) dX0_march_64 rfl ?_
          refine Ev.getR (pc := 65) dX0_march_65 fl_RX0_24 lC_2 rfl ?_
          refine Ev.iload_n (pc := 68) dX0_march_68 rfl ?_
          obtain ⟨g9, h⟩ := eGdB h
          refine Ev.ialdv (pc := 69) dX0_march_69 (v := (M.1 7 v1.toNatClampNeg)) (j := v1.toNatClampNeg) lC_7 g9 rfl (eI_n (by decide)) ?_
          refine Ev.icmp_ne (pc := 70) (tgt := 82) dX0_march_70 (by decide) (fun c9 => ?_) (fun c9 => ?_)
          · have h := eF h c9
            refine Ev.aload_n (pc := 82) dX0_march_82 rfl ?_
            refine Ev.getR (pc := 83) dX0_march_83 fl_RX0_15 lC_2 rfl ?_
            refine Ev.iload_n (pc := 86) dX0_march_86 rfl ?_
            obtain ⟨g9, h⟩ := eGdB h
            refine Ev.ialdv (pc := 87) dX0_march_87 (v := (M.1 4 (M.1 9 v1.toNatClampNeg).toNatClampNeg)) (j := (M.1 9 v1.toNatClampNeg).toNatClampNeg) lC_4 g9 rfl (eI_n (by decide)) ?_
            exact Ev.fg (ev_X0_march_88 _ _ ih _ _ _ _ h) (And.intro rfl (And.intro rfl trivial))
          · have h := eT h c9
            refine Ev.aload_n (pc := 73) dX0_march_73 rfl ?_
            refine Ev.getR (pc := 74) dX0_march_74 fl_RX0_18 lC_2 rfl ?_
            refine Ev.iload_n (pc := 77) dX0_march_77 rfl ?_
            obtain ⟨g9, h⟩ := eGdB h
            refine Ev.ialdv (pc := 78) dX0_march_78 (v := (M.1 5 (M.1 9 v1.toNatClampNeg).toNatClampNeg)) (j := (M.1 9 v1.toNatClampNeg).toNatClampNeg) lC_5 g9 rfl (eI_n (by decide)) ?_
            refine Ev.goto (pc := 79) (tgt := 88) dX0_march_79 (by decide) ?_
            exact Ev.fg (ev_X0_march_88 _ _ ih _ _ _ _ h) (And.intro rfl (And.intro rfl trivial))
        · have h := eT h c9
          refine Ev.goto (pc := 50) (tgt := 96) dX0_march_50 (by decide) ?_
          refine Ev.iincv (pc := 96) dX0_march_96 (v := 1) (by decide) rfl (by decide) rfl rfl ?_
          refine Ev.goto (pc := 99) (tgt := 2) dX0_march_99 (by decide) ?_
          exact Ev.fg (ih _ _ h) (And.intro rfl (And.intro rfl trivial))
      · have h := eT h c9
        refine Ev.goto (pc := 28) (tgt := 96) dX0_march_28 (by decide) ?_
        refine Ev.iincv (pc := 96) dX0_march_96 (v := 1) (by decide) rfl (by decide) rfl rfl ?_
        refine Ev.goto (pc := 99) (tgt := 2) dX0_march_99 (by decide) ?_
        exact Ev.fg (ih _ _ h) (And.intro rfl (And.intro rfl trivial))
def F_X0_march  (M : eMem) : Option eMem :=
  F_X0_march_2 eFuel 0 M
set_option maxRecDepth 100000 in
set_option maxHeartbeats 4000000 in
theorem ev_X0_march  (M : eMem) (q : eMem) (h : F_X0_march  M = some q) : Ev layC 1 m_X0_march 0 [some (.ref 2), none, none] [] M (none, q) := by
  rw [F_X0_march] at h
  refine Ev.iconst (pc := 0) dX0_march_0 (v := 0) (by decide) ?_
  refine Ev.istore_n (pc := 1) dX0_march_1 (by decide) rfl rfl ?_
  exact Ev.fg (ev_X0_march_2 _ _ _ _ h) (And.intro rfl (And.intro rfl trivial))
theorem dX5_pay_0 : decode cX5_pay 0 = .ok (.iconst 0, 1) := by decide +kernel
theorem dX5_pay_1 : decode cX5_pay 1 = .ok (.istore_n 2, 1) := by decide +kernel
theorem dX5_pay_2 : decode cX5_pay 2 = .ok (.iload_n 2, 1) := by decide +kernel
theorem dX5_pay_3 : decode cX5_pay 3 = .ok (.aload_n 0, 1) := by decide +kernel
theorem dX5_pay_4 : decode cX5_pay 4 = .ok (.getfield 43, 3) := by decide +kernel
theorem dX5_pay_7 : decode cX5_pay 7 = .ok (.if_icmp .ge 56, 3) := by decide +kernel
theorem dX5_pay_10 : decode cX5_pay 10 = .ok (.aload_n 0, 1) := by decide +kernel
theorem dX5_pay_11 : decode cX5_pay 11 = .ok (.getfield 27, 3) := by decide +kernel
theorem dX5_pay_14 : decode cX5_pay 14 = .ok (.iload_n 2, 1) := by decide +kernel
theorem dX5_pay_15 : decode cX5_pay 15 = .ok (.baload, 1) := by decide +kernel
theorem dX5_pay_16 : decode cX5_pay 16 = .ok (.ifCond .ne 6, 3) := by decide +kernel
theorem dX5_pay_19 : decode cX5_pay 19 = .ok (.goto 38, 3) := by decide +kernel
theorem dX5_pay_22 : decode cX5_pay 22 = .ok (.aload_n 0, 1) := by decide +kernel
theorem dX5_pay_23 : decode cX5_pay 23 = .ok (.iload_n 2, 1) := by decide +kernel
theorem dX5_pay_24 : decode cX5_pay 24 = .ok (.invokevirtual 61, 3) := by decide +kernel
theorem dX5_pay_27 : decode cX5_pay 27 = .ok (.istore_n 3, 1) := by decide +kernel
theorem dX5_pay_28 : decode cX5_pay 28 = .ok (.iload_n 3, 1) := by decide +kernel
theorem dX5_pay_29 : decode cX5_pay 29 = .ok (.iload_n 1, 1) := by decide +kernel
theorem dX5_pay_30 : decode cX5_pay 30 = .ok (.if_icmp .le 13, 3) := by decide +kernel
theorem dX5_pay_33 : decode cX5_pay 33 = .ok (.aload_n 0, 1) := by decide +kernel
theorem dX5_pay_34 : decode cX5_pay 34 = .ok (.getfield 27, 3) := by decide +kernel
theorem dX5_pay_37 : decode cX5_pay 37 = .ok (.iload_n 2, 1) := by decide +kernel
theorem dX5_pay_38 : decode cX5_pay 38 = .ok (.iconst 0, 1) := by decide +kernel
theorem dX5_pay_39 : decode cX5_pay 39 = .ok (.bastore, 1) := by decide +kernel
theorem dX5_pay_40 : decode cX5_pay 40 = .ok (.goto 17, 3) := by decide +kernel
theorem dX5_pay_43 : decode cX5_pay 43 = .ok (.iload_n 1, 1) := by decide +kernel
theorem dX5_pay_44 : decode cX5_pay 44 = .ok (.iload_n 3, 1) := by decide +kernel
theorem dX5_pay_45 : decode cX5_pay 45 = .ok (.isub, 1) := by decide +kernel
theorem dX5_pay_46 : decode cX5_pay 46 = .ok (.istore_n 1, 1) := by decide +kernel
theorem dX5_pay_47 : decode cX5_pay 47 = .ok (.aload_n 0, 1) := by decide +kernel
theorem dX5_pay_48 : decode cX5_pay 48 = .ok (.getfield 40, 3) := by decide +kernel
theorem dX5_pay_51 : decode cX5_pay 51 = .ok (.iload_n 2, 1) := by decide +kernel
theorem dX5_pay_52 : decode cX5_pay 52 = .ok (.dup2, 1) := by decide +kernel
theorem dX5_pay_53 : decode cX5_pay 53 = .ok (.iaload, 1) := by decide +kernel
theorem dX5_pay_54 : decode cX5_pay 54 = .ok (.iload_n 3, 1) := by decide +kernel
theorem dX5_pay_55 : decode cX5_pay 55 = .ok (.iadd, 1) := by decide +kernel
theorem dX5_pay_56 : decode cX5_pay 56 = .ok (.iastore, 1) := by decide +kernel
theorem dX5_pay_57 : decode cX5_pay 57 = .ok (.iinc 2 1, 3) := by decide +kernel
theorem dX5_pay_60 : decode cX5_pay 60 = .ok (.goto (-58), 3) := by decide +kernel
theorem dX5_pay_63 : decode cX5_pay 63 = .ok (.iload_n 1, 1) := by decide +kernel
theorem dX5_pay_64 : decode cX5_pay 64 = .ok (.ireturn, 1) := by decide +kernel
def F_X5_pay_2  : Nat → Int32 → Int32 → eMem → Option (Int32 × eMem)
  | 0, _, _, _ => none
  | n + 1, v1, v2, M =>
    if v2 < (M.1 12 10) then
      eG (eIn v2 20) <|
      if (M.1 18 v2.toNatClampNeg) = 0 then
        F_X5_pay_2 n v1 (v2 + 1) M
      else
        (F_X5_price v2 M).bind fun q1 =>
        if v1 < q1 then
          eG (eIn v2 20) <|
          F_X5_pay_2 n v1 (v2 + 1) (eI M 18 v2.toNatClampNeg (vp_nar .boolean 0))
        else
          eG (eIn v2 20) <|
          eG (eIn v2 20) <|
          F_X5_pay_2 n (v1 - q1) (v2 + 1) (eI M 22 v2.toNatClampNeg ((M.1 22 v2.toNatClampNeg) + q1))
    else
      some (v1, M)
set_option maxRecDepth 100000 in
set_option maxHeartbeats 4000000 in
theorem ev_X5_pay_2  (q : (Int32 × eMem))  : ∀ (fuel : Nat) (v1 : Int32) (v2 : Int32) (M : eMem), F_X5_pay_2 fuel v1 v2 M = some q → Ev layC 1 m_X5_pay 2 [some (.ref 12), some (.int v1), some (.int v2), none] [] M (some (.int q.1), q.2) := by
  intro fuel
  induction fuel with
  | zero => intro v1 v2 M h; rw [F_X5_pay_2] at h; cases h
  | succ n ih =>
    intro v1 v2 M h
    rw [F_X5_pay_2] at h
    refine Ev.iload_n (pc := 2) dX5_pay_2 rfl ?_
    refine Ev.aload_n (pc := 3) dX5_pay_3 rfl ?_
    refine Ev.getI (pc := 4) dX5_pay_4 fl_RX5_43 lC_12 rfl ?_
    refine Ev.icmp_ge (pc := 7) (tgt := 63) dX5_pay_7 (by decide) (fun c9 => ?_) (fun c9 => ?_)
    · have h := eF h c9
      refine Ev.iload_n (pc := 63) dX5_pay_63 rfl ?_
      obtain rfl := Option.some.inj h
      exact Ev.iret (pc := 64) dX5_pay_64 rfl rfl
    · have h := eT h c9
      refine Ev.aload_n (pc := 10) dX5_pay_10 rfl ?_
      refine Ev.getR (pc := 11) dX5_pay_11 fl_RX5_27 lC_12 rfl ?_
      refine Ev.iload_n (pc := 14) dX5_pay_14 rfl ?_
      obtain ⟨g9, h⟩ := eGdB h
      refine Ev.zaldj (pc := 15) dX5_pay_15 (j := v2.toNatClampNeg) lC_18 g9 rfl ?_
      refine Ev.if_ne (pc := 16) (tgt := 22) dX5_pay_16 (by decide) (fun c9 => ?_) (fun c9 => ?_)
      · have h := eF h c9
        refine Ev.aload_n (pc := 22) dX5_pay_22 rfl ?_
        refine Ev.iload_n (pc := 23) dX5_pay_23 rfl ?_
        refine eBk h (fun q1 hq1 h => ?_)
        refine Ev.callV (pc := 24) (as := [.int v2]) (st := []) (z := 0) dX5_pay_24 wc_X5_price ml_RX5_61 im_X5_price se_X5_price lC_12 rfl rfl (ev_X5_price v2 M _ hq1) rfl rfl (by decide) rfl rfl (Nat.le_of_ble_eq_true rfl) ?_
        refine Ev.istore_n (pc := 27) dX5_pay_27 (by decide) rfl rfl ?_
        refine Ev.iload_n (pc := 28) dX5_pay_28 rfl ?_
        refine Ev.iload_n (pc := 29) dX5_pay_29 rfl ?_
        refine Ev.icmp_le (pc := 30) (tgt := 43) dX5_pay_30 (by decide) (fun c9 => ?_) (fun c9 => ?_)
        · have h := eF h c9
          refine Ev.iload_n (pc := 43) dX5_pay_43 rfl ?_
          refine Ev.iload_n (pc := 44) dX5_pay_44 rfl ?_
          refine Ev.isub (pc := 45) dX5_pay_45 ?_
          refine Ev.istore_n (pc := 46) dX5_pay_46 (by decide) rfl rfl ?_
          refine Ev.aload_n (pc := 47) dX5_pay_47 rfl ?_
          refine Ev.getR (pc := 48) dX5_pay_48 fl_RX5_40 lC_12 rfl ?_
          refine Ev.iload_n (pc := 51) dX5_pay_51 rfl ?_
          refine Ev.dup2 (pc := 52) dX5_pay_52 rfl rfl ?_
          obtain ⟨g9, h⟩ := eGdB h
          refine Ev.ialdj (pc := 53) dX5_pay_53 (j := v2.toNatClampNeg) lC_22 g9 rfl ?_
          refine Ev.iload_n (pc := 54) dX5_pay_54 rfl ?_
          refine Ev.iadd (pc := 55) dX5_pay_55 ?_
          obtain ⟨g9, h⟩ := eGdB h
          refine Ev.iastj (pc := 56) dX5_pay_56 (j := v2.toNatClampNeg) lC_22 g9 rfl ?_
          refine Ev.iincv (pc := 57) dX5_pay_57 (v := 1) (by decide) rfl (by decide) rfl rfl ?_
          refine Ev.goto (pc := 60) (tgt := 2) dX5_pay_60 (by decide) ?_
          exact Ev.fg (ih _ _ _ h) (And.intro rfl (And.intro rfl (And.intro rfl trivial)))
        · have h := eT h c9
          refine Ev.aload_n (pc := 33) dX5_pay_33 rfl ?_
          refine Ev.getR (pc := 34) dX5_pay_34 fl_RX5_27 lC_12 rfl ?_
          refine Ev.iload_n (pc := 37) dX5_pay_37 rfl ?_
          refine Ev.iconst (pc := 38) dX5_pay_38 (v := 0) (by decide) ?_
          obtain ⟨g9, h⟩ := eGdB h
          refine Ev.zastj (pc := 39) dX5_pay_39 (j := v2.toNatClampNeg) lC_18 g9 rfl ?_
          refine Ev.goto (pc := 40) (tgt := 57) dX5_pay_40 (by decide) ?_
          refine Ev.iincv (pc := 57) dX5_pay_57 (v := 1) (by decide) rfl (by decide) rfl rfl ?_
          refine Ev.goto (pc := 60) (tgt := 2) dX5_pay_60 (by decide) ?_
          exact Ev.fg (ih _ _ _ h) (And.intro rfl (And.intro rfl (And.intro rfl trivial)))
      · have h := eT h c9
        refine Ev.goto (pc := 19) (tgt := 57) dX5_pay_19 (by decide) ?_
        refine Ev.iincv (pc := 57) dX5_pay_57 (v := 1) (by decide) rfl (by decide) rfl rfl ?_
        refine Ev.goto (pc := 60) (tgt := 2) dX5_pay_60 (by decide) ?_
        exact Ev.fg (ih _ _ _ h) (And.intro rfl (And.intro rfl (And.intro rfl trivial)))
def F_X5_pay (x1 : Int32) (M : eMem) : Option (Int32 × eMem) :=
  F_X5_pay_2 eFuel x1 0 M
set_option maxRecDepth 100000 in
set_option maxHeartbeats 4000000 in
theorem ev_X5_pay (x1 : Int32) (M : eMem) (q : (Int32 × eMem)) (h : F_X5_pay x1 M = some q) : Ev layC 1 m_X5_pay 0 [some (.ref 12), some (.int x1), none, none] [] M (some (.int q.1), q.2) := by
  rw [F_X5_pay] at h
  refine Ev.iconst (pc := 0) dX5_pay_0 (v := 0) (by decide) ?_
  refine Ev.istore_n (pc := 1) dX5_pay_1 (by decide) rfl rfl ?_
  exact Ev.fg (ev_X5_pay_2 _ _ _ _ _ h) (And.intro rfl (And.intro rfl (And.intro rfl trivial)))
theorem dX5_handsOfAll_0 : decode cX5_handsOfAll 0 = .ok (.iconst 0, 1) := by decide +kernel
theorem dX5_handsOfAll_1 : decode cX5_handsOfAll 1 = .ok (.istore_n 1, 1) := by decide +kernel
theorem dX5_handsOfAll_2 : decode cX5_handsOfAll 2 = .ok (.iconst 0, 1) := by decide +kernel
theorem dX5_handsOfAll_3 : decode cX5_handsOfAll 3 = .ok (.istore_n 2, 1) := by decide +kernel
theorem dX5_handsOfAll_4 : decode cX5_handsOfAll 4 = .ok (.iload_n 2, 1) := by decide +kernel
theorem dX5_handsOfAll_5 : decode cX5_handsOfAll 5 = .ok (.aload_n 0, 1) := by decide +kernel
theorem dX5_handsOfAll_6 : decode cX5_handsOfAll 6 = .ok (.getfield 43, 3) := by decide +kernel
theorem dX5_handsOfAll_9 : decode cX5_handsOfAll 9 = .ok (.if_icmp .ge 18, 3) := by decide +kernel
theorem dX5_handsOfAll_12 : decode cX5_handsOfAll 12 = .ok (.iload_n 1, 1) := by decide +kernel
theorem dX5_handsOfAll_13 : decode cX5_handsOfAll 13 = .ok (.aload_n 0, 1) := by decide +kernel
theorem dX5_handsOfAll_14 : decode cX5_handsOfAll 14 = .ok (.getfield 37, 3) := by decide +kernel
theorem dX5_handsOfAll_17 : decode cX5_handsOfAll 17 = .ok (.iload_n 2, 1) := by decide +kernel
theorem dX5_handsOfAll_18 : decode cX5_handsOfAll 18 = .ok (.iaload, 1) := by decide +kernel
theorem dX5_handsOfAll_19 : decode cX5_handsOfAll 19 = .ok (.iadd, 1) := by decide +kernel
theorem dX5_handsOfAll_20 : decode cX5_handsOfAll 20 = .ok (.istore_n 1, 1) := by decide +kernel
theorem dX5_handsOfAll_21 : decode cX5_handsOfAll 21 = .ok (.iinc 2 1, 3) := by decide +kernel
theorem dX5_handsOfAll_24 : decode cX5_handsOfAll 24 = .ok (.goto (-20), 3) := by decide +kernel
theorem dX5_handsOfAll_27 : decode cX5_handsOfAll 27 = .ok (.iload_n 1, 1) := by decide +kernel
theorem dX5_handsOfAll_28 : decode cX5_handsOfAll 28 = .ok (.ireturn, 1) := by decide +kernel
def F_X5_handsOfAll_4  : Nat → eMem → Int32 → Int32 → Option Int32
  | 0, _, _, _ => none
  | n + 1, M, v1, v2 =>
    if v2 < (M.1 12 10) then
      eG (eIn v2 20) <|
      F_X5_handsOfAll_4 n M (v1 + (M.1 21 v2.toNatClampNeg)) (v2 + 1)
    else
      some v1
set_option maxRecDepth 100000 in
set_option maxHeartbeats 4000000 in
theorem ev_X5_handsOfAll_4  (q : Int32) (M : eMem)  : ∀ (fuel : Nat) (v1 : Int32) (v2 : Int32), F_X5_handsOfAll_4 fuel M v1 v2 = some q → Ev layC 0 m_X5_handsOfAll 4 [some (.ref 12), some (.int v1), some (.int v2)] [] M (some (.int q), M) := by
  intro fuel
  induction fuel with
  | zero => intro v1 v2 h; rw [F_X5_handsOfAll_4] at h; cases h
  | succ n ih =>
    intro v1 v2 h
    rw [F_X5_handsOfAll_4] at h
    refine Ev.iload_n (pc := 4) dX5_handsOfAll_4 rfl ?_
    refine Ev.aload_n (pc := 5) dX5_handsOfAll_5 rfl ?_
    refine Ev.getI (pc := 6) dX5_handsOfAll_6 fl_RX5_43 lC_12 rfl ?_
    refine Ev.icmp_ge (pc := 9) (tgt := 27) dX5_handsOfAll_9 (by decide) (fun c9 => ?_) (fun c9 => ?_)
    · have h := eF h c9
      refine Ev.iload_n (pc := 27) dX5_handsOfAll_27 rfl ?_
      obtain rfl := Option.some.inj h
      exact Ev.iret (pc := 28) dX5_handsOfAll_28 rfl rfl
    · have h := eT h c9
      refine Ev.iload_n (pc := 12) dX5_handsOfAll_12 rfl ?_
      refine Ev.aload_n (pc := 13) dX5_handsOfAll_13 rfl ?_
      refine Ev.getR (pc := 14) dX5_handsOfAll_14 fl_RX5_37 lC_12 rfl ?_
      refine Ev.iload_n (pc := 17) dX5_handsOfAll_17 rfl ?_
      obtain ⟨g9, h⟩ := eGdB h
      refine Ev.ialdj (pc := 18) dX5_handsOfAll_18 (j := v2.toNatClampNeg) lC_21 g9 rfl ?_
      refine Ev.iadd (pc := 19) dX5_handsOfAll_19 ?_
      refine Ev.istore_n (pc := 20) dX5_handsOfAll_20 (by decide) rfl rfl ?_
      refine Ev.iincv (pc := 21) dX5_handsOfAll_21 (v := 1) (by decide) rfl (by decide) rfl rfl ?_
      refine Ev.goto (pc := 24) (tgt := 4) dX5_handsOfAll_24 (by decide) ?_
      exact Ev.fg (ih _ _ h) (And.intro rfl (And.intro rfl (And.intro rfl trivial)))
def F_X5_handsOfAll  (M : eMem) : Option Int32 :=
  F_X5_handsOfAll_4 eFuel M 0 0
set_option maxRecDepth 100000 in
set_option maxHeartbeats 4000000 in
theorem ev_X5_handsOfAll  (M : eMem) (q : Int32) (h : F_X5_handsOfAll  M = some q) : Ev layC 0 m_X5_handsOfAll 0 [some (.ref 12), none, none] [] M (some (.int q), M) := by
  rw [F_X5_handsOfAll] at h
  refine Ev.iconst (pc := 0) dX5_handsOfAll_0 (v := 0) (by decide) ?_
  refine Ev.istore_n (pc := 1) dX5_handsOfAll_1 (by decide) rfl rfl ?_
  refine Ev.iconst (pc := 2) dX5_handsOfAll_2 (v := 0) (by decide) ?_
  refine Ev.istore_n (pc := 3) dX5_handsOfAll_3 (by decide) rfl rfl ?_
  exact Ev.fg (ev_X5_handsOfAll_4 _ _ _ _ _ h) (And.intro rfl (And.intro rfl (And.intro rfl trivial)))
theorem dX5_standing_0 : decode cX5_standing 0 = .ok (.iconst 0, 1) := by decide +kernel
theorem dX5_standing_1 : decode cX5_standing 1 = .ok (.istore_n 1, 1) := by decide +kernel
theorem dX5_standing_2 : decode cX5_standing 2 = .ok (.iconst 0, 1) := by decide +kernel
theorem dX5_standing_3 : decode cX5_standing 3 = .ok (.istore_n 2, 1) := by decide +kernel
theorem dX5_standing_4 : decode cX5_standing 4 = .ok (.iload_n 2, 1) := by decide +kernel
theorem dX5_standing_5 : decode cX5_standing 5 = .ok (.aload_n 0, 1) := by decide +kernel
theorem dX5_standing_6 : decode cX5_standing 6 = .ok (.getfield 43, 3) := by decide +kernel
theorem dX5_standing_9 : decode cX5_standing 9 = .ok (.if_icmp .ge 21, 3) := by decide +kernel
theorem dX5_standing_12 : decode cX5_standing 12 = .ok (.aload_n 0, 1) := by decide +kernel
theorem dX5_standing_13 : decode cX5_standing 13 = .ok (.getfield 27, 3) := by decide +kernel
theorem dX5_standing_16 : decode cX5_standing 16 = .ok (.iload_n 2, 1) := by decide +kernel
theorem dX5_standing_17 : decode cX5_standing 17 = .ok (.baload, 1) := by decide +kernel
theorem dX5_standing_18 : decode cX5_standing 18 = .ok (.ifCond .eq 6, 3) := by decide +kernel
theorem dX5_standing_21 : decode cX5_standing 21 = .ok (.iinc 1 1, 3) := by decide +kernel
theorem dX5_standing_24 : decode cX5_standing 24 = .ok (.iinc 2 1, 3) := by decide +kernel
theorem dX5_standing_27 : decode cX5_standing 27 = .ok (.goto (-23), 3) := by decide +kernel
theorem dX5_standing_30 : decode cX5_standing 30 = .ok (.iload_n 1, 1) := by decide +kernel
theorem dX5_standing_31 : decode cX5_standing 31 = .ok (.ireturn, 1) := by decide +kernel
def F_X5_standing_4  : Nat → eMem → Int32 → Int32 → Option Int32
  | 0, _, _, _ => none
  | n + 1, M, v1, v2 =>
    if v2 < (M.1 12 10) then
      eG (eIn v2 20) <|
      if (M.1 18 v2.toNatClampNeg) = 0 then
        F_X5_standing_4 n M v1 (v2 + 1)
      else
        F_X5_standing_4 n M (v1 + 1) (v2 + 1)
    else
      some v1
set_option maxRecDepth 100000 in
set_option maxHeartbeats 4000000 in
theorem ev_X5_standing_4  (q : Int32) (M : eMem)  : ∀ (fuel : Nat) (v1 : Int32) (v2 : Int32), F_X5_standing_4 fuel M v1 v2 = some q → Ev layC 0 m_X5_standing 4 [some (.ref 12), some (.int v1), some (.int v2)] [] M (some (.int q), M) := by
  intro fuel
  induction fuel with
  | zero => intro v1 v2 h; rw [F_X5_standing_4] at h; cases h
  | succ n ih =>
    intro v1 v2 h
    rw [F_X5_standing_4] at h
    refine Ev.iload_n (pc := 4) dX5_standing_4 rfl ?_
    refine Ev.aload_n (pc := 5) dX5_standing_5 rfl ?_
    refine Ev.getI (pc := 6) dX5_standing_6 fl_RX5_43 lC_12 rfl ?_
    refine Ev.icmp_ge (pc := 9) (tgt := 30) dX5_standing_9 (by decide) (fun c9 => ?_) (fun c9 => ?_)
    · have h := eF h c9
      refine Ev.iload_n (pc := 30) dX5_standing_30 rfl ?_
      obtain rfl := Option.some.inj h
      exact Ev.iret (pc := 31) dX5_standing_31 rfl rfl
    · have h := eT h c9
      refine Ev.aload_n (pc := 12) dX5_standing_12 rfl ?_
      refine Ev.getR (pc := 13) dX5_standing_13 fl_RX5_27 lC_12 rfl ?_
      refine Ev.iload_n (pc := 16) dX5_standing_16 rfl ?_
      obtain ⟨g9, h⟩ := eGdB h
      refine Ev.zaldj (pc := 17) dX5_standing_17 (j := v2.toNatClampNeg) lC_18 g9 rfl ?_
      refine Ev.if_eq (pc := 18) (tgt := 24) dX5_standing_18 (by decide) (fun c9 => ?_) (fun c9 => ?_)
      · have h := eT h c9
        refine Ev.iincv (pc := 24) dX5_standing_24 (v := 1) (by decide) rfl (by decide) rfl rfl ?_
        refine Ev.goto (pc := 27) (tgt := 4) dX5_standing_27 (by decide) ?_
        exact Ev.fg (ih _ _ h) (And.intro rfl (And.intro rfl (And.intro rfl trivial)))
      · have h := eF h c9
        refine Ev.iincv (pc := 21) dX5_standing_21 (v := 1) (by decide) rfl (by decide) rfl rfl ?_
        refine Ev.iincv (pc := 24) dX5_standing_24 (v := 1) (by decide) rfl (by decide) rfl rfl ?_
        refine Ev.goto (pc := 27) (tgt := 4) dX5_standing_27 (by decide) ?_
        exact Ev.fg (ih _ _ h) (And.intro rfl (And.intro rfl (And.intro rfl trivial)))
def F_X5_standing  (M : eMem) : Option Int32 :=
  F_X5_standing_4 eFuel M 0 0
set_option maxRecDepth 100000 in
set_option maxHeartbeats 4000000 in
theorem ev_X5_standing  (M : eMem) (q : Int32) (h : F_X5_standing  M = some q) : Ev layC 0 m_X5_standing 0 [some (.ref 12), none, none] [] M (some (.int q), M) := by
  rw [F_X5_standing] at h
  refine Ev.iconst (pc := 0) dX5_standing_0 (v := 0) (by decide) ?_
  refine Ev.istore_n (pc := 1) dX5_standing_1 (by decide) rfl rfl ?_
  refine Ev.iconst (pc := 2) dX5_standing_2 (v := 0) (by decide) ?_
  refine Ev.istore_n (pc := 3) dX5_standing_3 (by decide) rfl rfl ?_
  exact Ev.fg (ev_X5_standing_4 _ _ _ _ _ h) (And.intro rfl (And.intro rfl (And.intro rfl trivial)))
theorem dX1_knownBy_0 : decode cX1_knownBy 0 = .ok (.iconst 0, 1) := by decide +kernel
theorem dX1_knownBy_1 : decode cX1_knownBy 1 = .ok (.istore_n 2, 1) := by decide +kernel
theorem dX1_knownBy_2 : decode cX1_knownBy 2 = .ok (.iconst 0, 1) := by decide +kernel
theorem dX1_knownBy_3 : decode cX1_knownBy 3 = .ok (.istore_n 3, 1) := by decide +kernel
theorem dX1_knownBy_4 : decode cX1_knownBy 4 = .ok (.iload_n 3, 1) := by decide +kernel
theorem dX1_knownBy_5 : decode cX1_knownBy 5 = .ok (.aload_n 0, 1) := by decide +kernel
theorem dX1_knownBy_6 : decode cX1_knownBy 6 = .ok (.getfield 48, 3) := by decide +kernel
theorem dX1_knownBy_9 : decode cX1_knownBy 9 = .ok (.if_icmp .ge 22, 3) := by decide +kernel
theorem dX1_knownBy_12 : decode cX1_knownBy 12 = .ok (.aload_n 0, 1) := by decide +kernel
theorem dX1_knownBy_13 : decode cX1_knownBy 13 = .ok (.getfield 25, 3) := by decide +kernel
theorem dX1_knownBy_16 : decode cX1_knownBy 16 = .ok (.iload_n 3, 1) := by decide +kernel
theorem dX1_knownBy_17 : decode cX1_knownBy 17 = .ok (.iaload, 1) := by decide +kernel
theorem dX1_knownBy_18 : decode cX1_knownBy 18 = .ok (.iload_n 1, 1) := by decide +kernel
theorem dX1_knownBy_19 : decode cX1_knownBy 19 = .ok (.if_icmp .gt 6, 3) := by decide +kernel
theorem dX1_knownBy_22 : decode cX1_knownBy 22 = .ok (.iinc 2 1, 3) := by decide +kernel
theorem dX1_knownBy_25 : decode cX1_knownBy 25 = .ok (.iinc 3 1, 3) := by decide +kernel
theorem dX1_knownBy_28 : decode cX1_knownBy 28 = .ok (.goto (-24), 3) := by decide +kernel
theorem dX1_knownBy_31 : decode cX1_knownBy 31 = .ok (.iload_n 2, 1) := by decide +kernel
theorem dX1_knownBy_32 : decode cX1_knownBy 32 = .ok (.ireturn, 1) := by decide +kernel
def F_X1_knownBy_4  : Nat → eMem → Int32 → Int32 → Int32 → Option Int32
  | 0, _, _, _, _ => none
  | n + 1, M, v1, v2, v3 =>
    if v3 < (M.1 29 7) then
      eG (eIn v3 90) <|
      if v1 < (M.1 34 v3.toNatClampNeg) then
        F_X1_knownBy_4 n M v1 v2 (v3 + 1)
      else
        F_X1_knownBy_4 n M v1 (v2 + 1) (v3 + 1)
    else
      some v2
set_option maxRecDepth 100000 in
set_option maxHeartbeats 4000000 in
theorem ev_X1_knownBy_4  (q : Int32) (M : eMem)  : ∀ (fuel : Nat) (v1 : Int32) (v2 : Int32) (v3 : Int32), F_X1_knownBy_4 fuel M v1 v2 v3 = some q → Ev layC 0 m_X1_knownBy 4 [some (.ref 29), some (.int v1), some (.int v2), some (.int v3)] [] M (some (.int q), M) := by
  intro fuel
  induction fuel with
  | zero => intro v1 v2 v3 h; rw [F_X1_knownBy_4] at h; cases h
  | succ n ih =>
    intro v1 v2 v3 h
    rw [F_X1_knownBy_4] at h
    refine Ev.iload_n (pc := 4) dX1_knownBy_4 rfl ?_
    refine Ev.aload_n (pc := 5) dX1_knownBy_5 rfl ?_
    refine Ev.getI (pc := 6) dX1_knownBy_6 fl_RX1_48 lC_29 rfl ?_
    refine Ev.icmp_ge (pc := 9) (tgt := 31) dX1_knownBy_9 (by decide) (fun c9 => ?_) (fun c9 => ?_)
    · have h := eF h c9
      refine Ev.iload_n (pc := 31) dX1_knownBy_31 rfl ?_
      obtain rfl := Option.some.inj h
      exact Ev.iret (pc := 32) dX1_knownBy_32 rfl rfl
    · have h := eT h c9
      refine Ev.aload_n (pc := 12) dX1_knownBy_12 rfl ?_
      refine Ev.getR (pc := 13) dX1_knownBy_13 fl_RX1_25 lC_29 rfl ?_
      refine Ev.iload_n (pc := 16) dX1_knownBy_16 rfl ?_
      obtain ⟨g9, h⟩ := eGdB h
      refine Ev.ialdj (pc := 17) dX1_knownBy_17 (j := v3.toNatClampNeg) lC_34 g9 rfl ?_
      refine Ev.iload_n (pc := 18) dX1_knownBy_18 rfl ?_
      refine Ev.icmp_gt (pc := 19) (tgt := 25) dX1_knownBy_19 (by decide) (fun c9 => ?_) (fun c9 => ?_)
      · have h := eT h c9
        refine Ev.iincv (pc := 25) dX1_knownBy_25 (v := 1) (by decide) rfl (by decide) rfl rfl ?_
        refine Ev.goto (pc := 28) (tgt := 4) dX1_knownBy_28 (by decide) ?_
        exact Ev.fg (ih _ _ _ h) (And.intro rfl (And.intro rfl (And.intro rfl (And.intro rfl trivial))))
      · have h := eF h c9
        refine Ev.iincv (pc := 22) dX1_knownBy_22 (v := 1) (by decide) rfl (by decide) rfl rfl ?_
        refine Ev.iincv (pc := 25) dX1_knownBy_25 (v := 1) (by decide) rfl (by decide) rfl rfl ?_
        refine Ev.goto (pc := 28) (tgt := 4) dX1_knownBy_28 (by decide) ?_
        exact Ev.fg (ih _ _ _ h) (And.intro rfl (And.intro rfl (And.intro rfl (And.intro rfl trivial))))
def F_X1_knownBy (x1 : Int32) (M : eMem) : Option Int32 :=
  F_X1_knownBy_4 eFuel M x1 0 0
set_option maxRecDepth 100000 in
set_option maxHeartbeats 4000000 in
theorem ev_X1_knownBy (x1 : Int32) (M : eMem) (q : Int32) (h : F_X1_knownBy x1 M = some q) : Ev layC 0 m_X1_knownBy 0 [some (.ref 29), some (.int x1), none, none] [] M (some (.int q), M) := by
  rw [F_X1_knownBy] at h
  refine Ev.iconst (pc := 0) dX1_knownBy_0 (v := 0) (by decide) ?_
  refine Ev.istore_n (pc := 1) dX1_knownBy_1 (by decide) rfl rfl ?_
  refine Ev.iconst (pc := 2) dX1_knownBy_2 (v := 0) (by decide) ?_
  refine Ev.istore_n (pc := 3) dX1_knownBy_3 (by decide) rfl rfl ?_
  exact Ev.fg (ev_X1_knownBy_4 _ _ _ _ _ _ h) (And.intro rfl (And.intro rfl (And.intro rfl (And.intro rfl trivial))))
