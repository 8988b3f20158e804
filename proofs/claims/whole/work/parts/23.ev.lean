theorem dX10_oneHour_0 : decode cX10_oneHour 0 = .ok (.aload_n 0, 1) := by decide +kernel
theorem dX10_oneHour_1 : decode cX10_oneHour 1 = .ok (.invokevirtual 271, 3) := by decide +kernel
theorem dX10_oneHour_4 : decode cX10_oneHour 4 = .ok (.iconst 0, 1) := by decide +kernel
theorem dX10_oneHour_5 : decode cX10_oneHour 5 = .ok (.istore_n 1, 1) := by decide +kernel
theorem dX10_oneHour_6 : decode cX10_oneHour 6 = .ok (.iload_n 1, 1) := by decide +kernel
theorem dX10_oneHour_7 : decode cX10_oneHour 7 = .ok (.aload_n 0, 1) := by decide +kernel
theorem dX10_oneHour_8 : decode cX10_oneHour 8 = .ok (.getfield 7, 3) := by decide +kernel
theorem dX10_oneHour_11 : decode cX10_oneHour 11 = .ok (.bipush 12, 2) := by decide +kernel
theorem dX10_oneHour_13 : decode cX10_oneHour 13 = .ok (.iaload, 1) := by decide +kernel
theorem dX10_oneHour_14 : decode cX10_oneHour 14 = .ok (.if_icmp .ge 41, 3) := by decide +kernel
theorem dX10_oneHour_17 : decode cX10_oneHour 17 = .ok (.aload_n 0, 1) := by decide +kernel
theorem dX10_oneHour_18 : decode cX10_oneHour 18 = .ok (.getfield 7, 3) := by decide +kernel
theorem dX10_oneHour_21 : decode cX10_oneHour 21 = .ok (.sipush 1128, 3) := by decide +kernel
theorem dX10_oneHour_24 : decode cX10_oneHour 24 = .ok (.iconst 4, 1) := by decide +kernel
theorem dX10_oneHour_25 : decode cX10_oneHour 25 = .ok (.iload_n 1, 1) := by decide +kernel
theorem dX10_oneHour_26 : decode cX10_oneHour 26 = .ok (.imul, 1) := by decide +kernel
theorem dX10_oneHour_27 : decode cX10_oneHour 27 = .ok (.iadd, 1) := by decide +kernel
theorem dX10_oneHour_28 : decode cX10_oneHour 28 = .ok (.iaload, 1) := by decide +kernel
theorem dX10_oneHour_29 : decode cX10_oneHour 29 = .ok (.aload_n 0, 1) := by decide +kernel
theorem dX10_oneHour_30 : decode cX10_oneHour 30 = .ok (.getfield 7, 3) := by decide +kernel
theorem dX10_oneHour_33 : decode cX10_oneHour 33 = .ok (.iconst 0, 1) := by decide +kernel
theorem dX10_oneHour_34 : decode cX10_oneHour 34 = .ok (.iaload, 1) := by decide +kernel
theorem dX10_oneHour_35 : decode cX10_oneHour 35 = .ok (.if_icmp .ne 14, 3) := by decide +kernel
theorem dX10_oneHour_38 : decode cX10_oneHour 38 = .ok (.aload_n 0, 1) := by decide +kernel
theorem dX10_oneHour_39 : decode cX10_oneHour 39 = .ok (.sipush 1128, 3) := by decide +kernel
theorem dX10_oneHour_42 : decode cX10_oneHour 42 = .ok (.iconst 4, 1) := by decide +kernel
theorem dX10_oneHour_43 : decode cX10_oneHour 43 = .ok (.iload_n 1, 1) := by decide +kernel
theorem dX10_oneHour_44 : decode cX10_oneHour 44 = .ok (.imul, 1) := by decide +kernel
theorem dX10_oneHour_45 : decode cX10_oneHour 45 = .ok (.iadd, 1) := by decide +kernel
theorem dX10_oneHour_46 : decode cX10_oneHour 46 = .ok (.invokevirtual 274, 3) := by decide +kernel
theorem dX10_oneHour_49 : decode cX10_oneHour 49 = .ok (.iinc 1 1, 3) := by decide +kernel
theorem dX10_oneHour_52 : decode cX10_oneHour 52 = .ok (.goto (-46), 3) := by decide +kernel
theorem dX10_oneHour_55 : decode cX10_oneHour 55 = .ok (.iconst 0, 1) := by decide +kernel
theorem dX10_oneHour_56 : decode cX10_oneHour 56 = .ok (.istore_n 1, 1) := by decide +kernel
theorem dX10_oneHour_57 : decode cX10_oneHour 57 = .ok (.iload_n 1, 1) := by decide +kernel
theorem dX10_oneHour_58 : decode cX10_oneHour 58 = .ok (.aload_n 0, 1) := by decide +kernel
theorem dX10_oneHour_59 : decode cX10_oneHour 59 = .ok (.getfield 7, 3) := by decide +kernel
theorem dX10_oneHour_62 : decode cX10_oneHour 62 = .ok (.bipush 13, 2) := by decide +kernel
theorem dX10_oneHour_64 : decode cX10_oneHour 64 = .ok (.iaload, 1) := by decide +kernel
theorem dX10_oneHour_65 : decode cX10_oneHour 65 = .ok (.if_icmp .ge 32, 3) := by decide +kernel
theorem dX10_oneHour_68 : decode cX10_oneHour 68 = .ok (.aload_n 0, 1) := by decide +kernel
theorem dX10_oneHour_69 : decode cX10_oneHour 69 = .ok (.getfield 7, 3) := by decide +kernel
theorem dX10_oneHour_72 : decode cX10_oneHour 72 = .ok (.sipush 1248, 3) := by decide +kernel
theorem dX10_oneHour_75 : decode cX10_oneHour 75 = .ok (.iload_n 1, 1) := by decide +kernel
theorem dX10_oneHour_76 : decode cX10_oneHour 76 = .ok (.iadd, 1) := by decide +kernel
theorem dX10_oneHour_77 : decode cX10_oneHour 77 = .ok (.iaload, 1) := by decide +kernel
theorem dX10_oneHour_78 : decode cX10_oneHour 78 = .ok (.aload_n 0, 1) := by decide +kernel
theorem dX10_oneHour_79 : decode cX10_oneHour 79 = .ok (.getfield 7, 3) := by decide +kernel
theorem dX10_oneHour_82 : decode cX10_oneHour 82 = .ok (.iconst 0, 1) := by decide +kernel
theorem dX10_oneHour_83 : decode cX10_oneHour 83 = .ok (.iaload, 1) := by decide +kernel
theorem dX10_oneHour_84 : decode cX10_oneHour 84 = .ok (.if_icmp .ne 7, 3) := by decide +kernel
theorem dX10_oneHour_87 : decode cX10_oneHour 87 = .ok (.aload_n 0, 1) := by decide +kernel
theorem dX10_oneHour_88 : decode cX10_oneHour 88 = .ok (.invokevirtual 277, 3) := by decide +kernel
theorem dX10_oneHour_91 : decode cX10_oneHour 91 = .ok (.iinc 1 1, 3) := by decide +kernel
theorem dX10_oneHour_94 : decode cX10_oneHour 94 = .ok (.goto (-37), 3) := by decide +kernel
theorem dX10_oneHour_97 : decode cX10_oneHour 97 = .ok (.aload_n 0, 1) := by decide +kernel
theorem dX10_oneHour_98 : decode cX10_oneHour 98 = .ok (.invokevirtual 280, 3) := by decide +kernel
theorem dX10_oneHour_101 : decode cX10_oneHour 101 = .ok (.aload_n 0, 1) := by decide +kernel
theorem dX10_oneHour_102 : decode cX10_oneHour 102 = .ok (.invokevirtual 283, 3) := by decide +kernel
theorem dX10_oneHour_105 : decode cX10_oneHour 105 = .ok (.aload_n 0, 1) := by decide +kernel
theorem dX10_oneHour_106 : decode cX10_oneHour 106 = .ok (.getfield 7, 3) := by decide +kernel
theorem dX10_oneHour_109 : decode cX10_oneHour 109 = .ok (.iconst 0, 1) := by decide +kernel
theorem dX10_oneHour_110 : decode cX10_oneHour 110 = .ok (.iaload, 1) := by decide +kernel
theorem dX10_oneHour_111 : decode cX10_oneHour 111 = .ok (.bipush 24, 2) := by decide +kernel
theorem dX10_oneHour_113 : decode cX10_oneHour 113 = .ok (.irem, 1) := by decide +kernel
theorem dX10_oneHour_114 : decode cX10_oneHour 114 = .ok (.bipush 23, 2) := by decide +kernel
theorem dX10_oneHour_116 : decode cX10_oneHour 116 = .ok (.if_icmp .ne 7, 3) := by decide +kernel
theorem dX10_oneHour_119 : decode cX10_oneHour 119 = .ok (.aload_n 0, 1) := by decide +kernel
theorem dX10_oneHour_120 : decode cX10_oneHour 120 = .ok (.invokevirtual 286, 3) := by decide +kernel
theorem dX10_oneHour_123 : decode cX10_oneHour 123 = .ok (.aload_n 0, 1) := by decide +kernel
theorem dX10_oneHour_124 : decode cX10_oneHour 124 = .ok (.getfield 7, 3) := by decide +kernel
theorem dX10_oneHour_127 : decode cX10_oneHour 127 = .ok (.iconst 0, 1) := by decide +kernel
theorem dX10_oneHour_128 : decode cX10_oneHour 128 = .ok (.dup2, 1) := by decide +kernel
theorem dX10_oneHour_129 : decode cX10_oneHour 129 = .ok (.iaload, 1) := by decide +kernel
theorem dX10_oneHour_130 : decode cX10_oneHour 130 = .ok (.iconst 1, 1) := by decide +kernel
theorem dX10_oneHour_131 : decode cX10_oneHour 131 = .ok (.iadd, 1) := by decide +kernel
theorem dX10_oneHour_132 : decode cX10_oneHour 132 = .ok (.iastore, 1) := by decide +kernel
theorem dX10_oneHour_133 : decode cX10_oneHour 133 = .ok (.return_, 1) := by decide +kernel
def F_X10_oneHour_6 (K55 : eMem → Option eMem) : Nat → Int32 → eMem → Option eMem
  | 0, _, _ => none
  | n + 1, v1, M =>
    if v1 < (M.1 1 12) then
      eG (eIn (1128 + (4 * v1)) 2900) <|
      if (M.1 1 (1128 + (4 * v1)).toNatClampNeg) = (M.1 1 0) then
        (F_X10_flies (1128 + (4 * v1)) M).bind fun q2 =>
        F_X10_oneHour_6 K55 n (v1 + 1) q2
      else
        F_X10_oneHour_6 K55 n (v1 + 1) M
    else
      K55 M
set_option maxRecDepth 100000 in
set_option maxHeartbeats 4000000 in
theorem ev_X10_oneHour_6 (K55 : eMem → Option eMem) (q : eMem) (hK55 : ∀  (M : eMem), K55 M = some q → Ev layR 8 m_X10_oneHour 55 [some (.ref 0), none] [] M (none, q)) : ∀ (fuel : Nat) (v1 : Int32) (M : eMem), F_X10_oneHour_6 K55 fuel v1 M = some q → Ev layR 8 m_X10_oneHour 6 [some (.ref 0), some (.int v1)] [] M (none, q) := by
  intro fuel
  induction fuel with
  | zero => intro v1 M h; rw [F_X10_oneHour_6] at h; cases h
  | succ n ih =>
    intro v1 M h
    rw [F_X10_oneHour_6] at h
    refine Ev.iload_n (pc := 6) dX10_oneHour_6 rfl ?_
    refine Ev.aload_n (pc := 7) dX10_oneHour_7 rfl ?_
    refine Ev.getR (pc := 8) dX10_oneHour_8 fl_RX10_7 lR_0 rfl ?_
    refine Ev.bipush (pc := 11) dX10_oneHour_11 (v := 12) (by decide) ?_
    refine Ev.ialdj (pc := 13) dX10_oneHour_13 (j := 12) lR_1 (by decide) (by decide) ?_
    refine Ev.icmp_ge (pc := 14) (tgt := 55) dX10_oneHour_14 (by decide) (fun c9 => ?_) (fun c9 => ?_)
    · have h := eF h c9
      exact Ev.fg (hK55 _ h) (And.intro rfl trivial)
    · have h := eT h c9
      refine Ev.aload_n (pc := 17) dX10_oneHour_17 rfl ?_
      refine Ev.getR (pc := 18) dX10_oneHour_18 fl_RX10_7 lR_0 rfl ?_
      refine Ev.sipush (pc := 21) dX10_oneHour_21 (v := 1128) (by decide) ?_
      refine Ev.iconst (pc := 24) dX10_oneHour_24 (v := 4) (by decide) ?_
      refine Ev.iload_n (pc := 25) dX10_oneHour_25 rfl ?_
      refine Ev.imul (pc := 26) dX10_oneHour_26 ?_
      refine Ev.iadd (pc := 27) dX10_oneHour_27 ?_
      obtain ⟨g9, h⟩ := eGdB h
      refine Ev.ialdj (pc := 28) dX10_oneHour_28 (j := (1128 + (4 * v1)).toNatClampNeg) lR_1 g9 rfl ?_
      refine Ev.aload_n (pc := 29) dX10_oneHour_29 rfl ?_
      refine Ev.getR (pc := 30) dX10_oneHour_30 fl_RX10_7 lR_0 rfl ?_
      refine Ev.iconst (pc := 33) dX10_oneHour_33 (v := 0) (by decide) ?_
      refine Ev.ialdj (pc := 34) dX10_oneHour_34 (j := 0) lR_1 (by decide) (by decide) ?_
      refine Ev.icmp_ne (pc := 35) (tgt := 49) dX10_oneHour_35 (by decide) (fun c9 => ?_) (fun c9 => ?_)
      · have h := eF h c9
        refine Ev.iincv (pc := 49) dX10_oneHour_49 (v := 1) (by decide) rfl (by decide) rfl rfl ?_
        refine Ev.goto (pc := 52) (tgt := 6) dX10_oneHour_52 (by decide) ?_
        exact Ev.fg (ih _ _ h) (And.intro rfl (And.intro rfl trivial))
      · have h := eT h c9
        refine Ev.aload_n (pc := 38) dX10_oneHour_38 rfl ?_
        refine Ev.sipush (pc := 39) dX10_oneHour_39 (v := 1128) (by decide) ?_
        refine Ev.iconst (pc := 42) dX10_oneHour_42 (v := 4) (by decide) ?_
        refine Ev.iload_n (pc := 43) dX10_oneHour_43 rfl ?_
        refine Ev.imul (pc := 44) dX10_oneHour_44 ?_
        refine Ev.iadd (pc := 45) dX10_oneHour_45 ?_
        refine eBk h (fun q2 hq2 h => ?_)
        refine Ev.callV (pc := 46) (as := [.int (1128 + (4 * v1))]) (st := []) (z := 7) dX10_oneHour_46 wc_X10_flies ml_RX10_274 im_X10_flies se_X10_flies lR_0 rfl rfl (ev_X10_flies (1128 + (4 * v1)) M _ hq2) rfl rfl (by decide) rfl rfl (Nat.le_of_ble_eq_true rfl) ?_
        refine Ev.iincv (pc := 49) dX10_oneHour_49 (v := 1) (by decide) rfl (by decide) rfl rfl ?_
        refine Ev.goto (pc := 52) (tgt := 6) dX10_oneHour_52 (by decide) ?_
        exact Ev.fg (ih _ _ h) (And.intro rfl (And.intro rfl trivial))
def F_X10_oneHour_57 (K97 : eMem → Option eMem) : Nat → Int32 → eMem → Option eMem
  | 0, _, _ => none
  | n + 1, v1, M =>
    if v1 < (M.1 1 13) then
      eG (eIn (1248 + v1) 2900) <|
      if (M.1 1 (1248 + v1).toNatClampNeg) = (M.1 1 0) then
        (F_X10_listens M).bind fun q3 =>
        F_X10_oneHour_57 K97 n (v1 + 1) q3
      else
        F_X10_oneHour_57 K97 n (v1 + 1) M
    else
      K97 M
set_option maxRecDepth 100000 in
set_option maxHeartbeats 4000000 in
theorem ev_X10_oneHour_57 (K97 : eMem → Option eMem) (q : eMem) (hK97 : ∀  (M : eMem), K97 M = some q → Ev layR 8 m_X10_oneHour 97 [some (.ref 0), none] [] M (none, q)) : ∀ (fuel : Nat) (v1 : Int32) (M : eMem), F_X10_oneHour_57 K97 fuel v1 M = some q → Ev layR 8 m_X10_oneHour 57 [some (.ref 0), some (.int v1)] [] M (none, q) := by
  intro fuel
  induction fuel with
  | zero => intro v1 M h; rw [F_X10_oneHour_57] at h; cases h
  | succ n ih =>
    intro v1 M h
    rw [F_X10_oneHour_57] at h
    refine Ev.iload_n (pc := 57) dX10_oneHour_57 rfl ?_
    refine Ev.aload_n (pc := 58) dX10_oneHour_58 rfl ?_
    refine Ev.getR (pc := 59) dX10_oneHour_59 fl_RX10_7 lR_0 rfl ?_
    refine Ev.bipush (pc := 62) dX10_oneHour_62 (v := 13) (by decide) ?_
    refine Ev.ialdj (pc := 64) dX10_oneHour_64 (j := 13) lR_1 (by decide) (by decide) ?_
    refine Ev.icmp_ge (pc := 65) (tgt := 97) dX10_oneHour_65 (by decide) (fun c9 => ?_) (fun c9 => ?_)
    · have h := eF h c9
      exact Ev.fg (hK97 _ h) (And.intro rfl trivial)
    · have h := eT h c9
      refine Ev.aload_n (pc := 68) dX10_oneHour_68 rfl ?_
      refine Ev.getR (pc := 69) dX10_oneHour_69 fl_RX10_7 lR_0 rfl ?_
      refine Ev.sipush (pc := 72) dX10_oneHour_72 (v := 1248) (by decide) ?_
      refine Ev.iload_n (pc := 75) dX10_oneHour_75 rfl ?_
      refine Ev.iadd (pc := 76) dX10_oneHour_76 ?_
      obtain ⟨g9, h⟩ := eGdB h
      refine Ev.ialdj (pc := 77) dX10_oneHour_77 (j := (1248 + v1).toNatClampNeg) lR_1 g9 rfl ?_
      refine Ev.aload_n (pc := 78) dX10_oneHour_78 rfl ?_
      refine Ev.getR (pc := 79) dX10_oneHour_79 fl_RX10_7 lR_0 rfl ?_
      refine Ev.iconst (pc := 82) dX10_oneHour_82 (v := 0) (by decide) ?_
      refine Ev.ialdj (pc := 83) dX10_oneHour_83 (j := 0) lR_1 (by decide) (by decide) ?_
      refine Ev.icmp_ne (pc := 84) (tgt := 91) dX10_oneHour_84 (by decide) (fun c9 => ?_) (fun c9 => ?_)
      · have h := eF h c9
        refine Ev.iincv (pc := 91) dX10_oneHour_91 (v := 1) (by decide) rfl (by decide) rfl rfl ?_
        refine Ev.goto (pc := 94) (tgt := 57) dX10_oneHour_94 (by decide) ?_
        exact Ev.fg (ih _ _ h) (And.intro rfl (And.intro rfl trivial))
      · have h := eT h c9
        refine Ev.aload_n (pc := 87) dX10_oneHour_87 rfl ?_
        refine eBk h (fun q3 hq3 h => ?_)
        refine Ev.callV (pc := 88) (as := []) (st := []) (z := 3) dX10_oneHour_88 wc_X10_listens ml_RX10_277 im_X10_listens se_X10_listens lR_0 rfl rfl (ev_X10_listens  M _ hq3) rfl rfl (by decide) rfl rfl (Nat.le_of_ble_eq_true rfl) ?_
        refine Ev.iincv (pc := 91) dX10_oneHour_91 (v := 1) (by decide) rfl (by decide) rfl rfl ?_
        refine Ev.goto (pc := 94) (tgt := 57) dX10_oneHour_94 (by decide) ?_
        exact Ev.fg (ih _ _ h) (And.intro rfl (And.intro rfl trivial))
def F_X10_oneHour  (M : eMem) : Option eMem :=
  (F_X10_storm M).bind fun q1 =>
  F_X10_oneHour_6
    (fun M =>
      F_X10_oneHour_57
        (fun M =>
          (F_X10_papers M).bind fun q4 =>
          (F_X10_marches q4).bind fun q5 =>
          if ((q5.1 1 0) - (q5.1 1 0) / 24 * 24) = 23 then
            (F_X10_closes q5).bind fun q6 =>
            some (eI q6 1 0 ((q6.1 1 0) + 1))
          else
            some (eI q5 1 0 ((q5.1 1 0) + 1)))
        eFuel 0 M)
    eFuel 0 q1
set_option maxRecDepth 100000 in
set_option maxHeartbeats 4000000 in
theorem ev_X10_oneHour  (M : eMem) (q : eMem) (h : F_X10_oneHour  M = some q) : Ev layR 8 m_X10_oneHour 0 [some (.ref 0), none] [] M (none, q) := by
  rw [F_X10_oneHour] at h
  refine Ev.aload_n (pc := 0) dX10_oneHour_0 rfl ?_
  refine eBk h (fun q1 hq1 h => ?_)
  refine Ev.callV (pc := 1) (as := []) (st := []) (z := 2) dX10_oneHour_1 wc_X10_storm ml_RX10_271 im_X10_storm se_X10_storm lR_0 rfl rfl (ev_X10_storm  M _ hq1) rfl rfl (by decide) rfl rfl (Nat.le_of_ble_eq_true rfl) ?_
  refine Ev.iconst (pc := 4) dX10_oneHour_4 (v := 0) (by decide) ?_
  refine Ev.istore_n (pc := 5) dX10_oneHour_5 (by decide) rfl rfl ?_
  refine Ev.fg (ev_X10_oneHour_6 _ _ ?_ _ _ _ h) (And.intro rfl (And.intro rfl trivial))
  · intro M h
    refine Ev.iconst (pc := 55) dX10_oneHour_55 (v := 0) (by decide) ?_
    refine Ev.istore_n (pc := 56) dX10_oneHour_56 (by decide) rfl rfl ?_
    refine Ev.fg (ev_X10_oneHour_57 _ _ ?_ _ _ _ h) (And.intro rfl (And.intro rfl trivial))
    · intro M h
      refine Ev.aload_n (pc := 97) dX10_oneHour_97 rfl ?_
      refine eBk h (fun q4 hq4 h => ?_)
      refine Ev.callV (pc := 98) (as := []) (st := []) (z := 3) dX10_oneHour_98 wc_X10_papers ml_RX10_280 im_X10_papers se_X10_papers lR_0 rfl rfl (ev_X10_papers  M _ hq4) rfl rfl (by decide) rfl rfl (Nat.le_of_ble_eq_true rfl) ?_
      refine Ev.aload_n (pc := 101) dX10_oneHour_101 rfl ?_
      refine eBk h (fun q5 hq5 h => ?_)
      refine Ev.callV (pc := 102) (as := []) (st := []) (z := 1) dX10_oneHour_102 wc_X10_marches ml_RX10_283 im_X10_marches se_X10_marches lR_0 rfl rfl (ev_X10_marches  q4 _ hq5) rfl rfl (by decide) rfl rfl (Nat.le_of_ble_eq_true rfl) ?_
      refine Ev.aload_n (pc := 105) dX10_oneHour_105 rfl ?_
      refine Ev.getR (pc := 106) dX10_oneHour_106 fl_RX10_7 lR_0 rfl ?_
      refine Ev.iconst (pc := 109) dX10_oneHour_109 (v := 0) (by decide) ?_
      refine Ev.ialdj (pc := 110) dX10_oneHour_110 (j := 0) lR_1 (by decide) (by decide) ?_
      refine Ev.bipush (pc := 111) dX10_oneHour_111 (v := 24) (by decide) ?_
      refine Ev.irem (pc := 113) dX10_oneHour_113 (by decide) ?_
      refine Ev.bipush (pc := 114) dX10_oneHour_114 (v := 23) (by decide) ?_
      refine Ev.icmp_ne (pc := 116) (tgt := 123) dX10_oneHour_116 (by decide) (fun c9 => ?_) (fun c9 => ?_)
      · have h := eF h c9
        refine Ev.aload_n (pc := 123) dX10_oneHour_123 rfl ?_
        refine Ev.getR (pc := 124) dX10_oneHour_124 fl_RX10_7 lR_0 rfl ?_
        refine Ev.iconst (pc := 127) dX10_oneHour_127 (v := 0) (by decide) ?_
        refine Ev.dup2 (pc := 128) dX10_oneHour_128 rfl rfl ?_
        refine Ev.ialdj (pc := 129) dX10_oneHour_129 (j := 0) lR_1 (by decide) (by decide) ?_
        refine Ev.iconst (pc := 130) dX10_oneHour_130 (v := 1) (by decide) ?_
        refine Ev.iadd (pc := 131) dX10_oneHour_131 ?_
        refine Ev.iastj (pc := 132) dX10_oneHour_132 (j := 0) lR_1 (by decide) (by decide) ?_
        obtain rfl := Option.some.inj h
        exact Ev.vret (pc := 133) dX10_oneHour_133 rfl
      · have h := eT h c9
        refine Ev.aload_n (pc := 119) dX10_oneHour_119 rfl ?_
        refine eBk h (fun q6 hq6 h => ?_)
        refine Ev.callV (pc := 120) (as := []) (st := []) (z := 2) dX10_oneHour_120 wc_X10_closes ml_RX10_286 im_X10_closes se_X10_closes lR_0 rfl rfl (ev_X10_closes  q5 _ hq6) rfl rfl (by decide) rfl rfl (Nat.le_of_ble_eq_true rfl) ?_
        refine Ev.aload_n (pc := 123) dX10_oneHour_123 rfl ?_
        refine Ev.getR (pc := 124) dX10_oneHour_124 fl_RX10_7 lR_0 rfl ?_
        refine Ev.iconst (pc := 127) dX10_oneHour_127 (v := 0) (by decide) ?_
        refine Ev.dup2 (pc := 128) dX10_oneHour_128 rfl rfl ?_
        refine Ev.ialdj (pc := 129) dX10_oneHour_129 (j := 0) lR_1 (by decide) (by decide) ?_
        refine Ev.iconst (pc := 130) dX10_oneHour_130 (v := 1) (by decide) ?_
        refine Ev.iadd (pc := 131) dX10_oneHour_131 ?_
        refine Ev.iastj (pc := 132) dX10_oneHour_132 (j := 0) lR_1 (by decide) (by decide) ?_
        obtain rfl := Option.some.inj h
        exact Ev.vret (pc := 133) dX10_oneHour_133 rfl
theorem dX10_tick_0 : decode cX10_tick 0 = .ok (.iload_n 1, 1) := by decide +kernel
theorem dX10_tick_1 : decode cX10_tick 1 = .ok (.iconst 1, 1) := by decide +kernel
theorem dX10_tick_2 : decode cX10_tick 2 = .ok (.bipush 99, 2) := by decide +kernel
theorem dX10_tick_4 : decode cX10_tick 4 = .ok (.invokestatic 58, 3) := by decide +kernel
theorem dX10_tick_7 : decode cX10_tick 7 = .ok (.ifCond .ne 9, 3) := by decide +kernel
theorem dX10_tick_10 : decode cX10_tick 10 = .ok (.aload_n 0, 1) := by decide +kernel
theorem dX10_tick_11 : decode cX10_tick 11 = .ok (.iconst 1, 1) := by decide +kernel
theorem dX10_tick_12 : decode cX10_tick 12 = .ok (.invokevirtual 66, 3) := by decide +kernel
theorem dX10_tick_15 : decode cX10_tick 15 = .ok (.ireturn, 1) := by decide +kernel
theorem dX10_tick_16 : decode cX10_tick 16 = .ok (.aload_n 0, 1) := by decide +kernel
theorem dX10_tick_17 : decode cX10_tick 17 = .ok (.getfield 7, 3) := by decide +kernel
theorem dX10_tick_20 : decode cX10_tick 20 = .ok (.iconst 0, 1) := by decide +kernel
theorem dX10_tick_21 : decode cX10_tick 21 = .ok (.iaload, 1) := by decide +kernel
theorem dX10_tick_22 : decode cX10_tick 22 = .ok (.iload_n 1, 1) := by decide +kernel
theorem dX10_tick_23 : decode cX10_tick 23 = .ok (.iadd, 1) := by decide +kernel
theorem dX10_tick_24 : decode cX10_tick 24 = .ok (.sipush 1943, 3) := by decide +kernel
theorem dX10_tick_27 : decode cX10_tick 27 = .ok (.if_icmp .le 9, 3) := by decide +kernel
theorem dX10_tick_30 : decode cX10_tick 30 = .ok (.aload_n 0, 1) := by decide +kernel
theorem dX10_tick_31 : decode cX10_tick 31 = .ok (.iconst 2, 1) := by decide +kernel
theorem dX10_tick_32 : decode cX10_tick 32 = .ok (.invokevirtual 66, 3) := by decide +kernel
theorem dX10_tick_35 : decode cX10_tick 35 = .ok (.ireturn, 1) := by decide +kernel
theorem dX10_tick_36 : decode cX10_tick 36 = .ok (.iconst 0, 1) := by decide +kernel
theorem dX10_tick_37 : decode cX10_tick 37 = .ok (.istore_n 2, 1) := by decide +kernel
theorem dX10_tick_38 : decode cX10_tick 38 = .ok (.iload_n 2, 1) := by decide +kernel
theorem dX10_tick_39 : decode cX10_tick 39 = .ok (.iload_n 1, 1) := by decide +kernel
theorem dX10_tick_40 : decode cX10_tick 40 = .ok (.if_icmp .ge 13, 3) := by decide +kernel
theorem dX10_tick_43 : decode cX10_tick 43 = .ok (.aload_n 0, 1) := by decide +kernel
theorem dX10_tick_44 : decode cX10_tick 44 = .ok (.invokevirtual 289, 3) := by decide +kernel
theorem dX10_tick_47 : decode cX10_tick 47 = .ok (.iinc 2 1, 3) := by decide +kernel
theorem dX10_tick_50 : decode cX10_tick 50 = .ok (.goto (-12), 3) := by decide +kernel
theorem dX10_tick_53 : decode cX10_tick 53 = .ok (.aload_n 0, 1) := by decide +kernel
theorem dX10_tick_54 : decode cX10_tick 54 = .ok (.getfield 7, 3) := by decide +kernel
theorem dX10_tick_57 : decode cX10_tick 57 = .ok (.iconst 0, 1) := by decide +kernel
theorem dX10_tick_58 : decode cX10_tick 58 = .ok (.iaload, 1) := by decide +kernel
theorem dX10_tick_59 : decode cX10_tick 59 = .ok (.ireturn, 1) := by decide +kernel
def F_X10_tick_38  : Nat → Int32 → Int32 → eMem → Option (Int32 × eMem)
  | 0, _, _, _ => none
  | n + 1, v1, v2, M =>
    if v2 < v1 then
      (F_X10_oneHour M).bind fun q2 =>
      F_X10_tick_38 n v1 (v2 + 1) q2
    else
      some ((M.1 1 0), M)
set_option maxRecDepth 100000 in
set_option maxHeartbeats 4000000 in
theorem ev_X10_tick_38  (q : (Int32 × eMem))  : ∀ (fuel : Nat) (v1 : Int32) (v2 : Int32) (M : eMem), F_X10_tick_38 fuel v1 v2 M = some q → Ev layR 9 m_X10_tick 38 [some (.ref 0), some (.int v1), some (.int v2)] [] M (some (.int q.1), q.2) := by
  intro fuel
  induction fuel with
  | zero => intro v1 v2 M h; rw [F_X10_tick_38] at h; cases h
  | succ n ih =>
    intro v1 v2 M h
    rw [F_X10_tick_38] at h
    refine Ev.iload_n (pc := 38) dX10_tick_38 rfl ?_
    refine Ev.iload_n (pc := 39) dX10_tick_39 rfl ?_
    refine Ev.icmp_ge (pc := 40) (tgt := 53) dX10_tick_40 (by decide) (fun c9 => ?_) (fun c9 => ?_)
    · have h := eF h c9
      refine Ev.aload_n (pc := 53) dX10_tick_53 rfl ?_
      refine Ev.getR (pc := 54) dX10_tick_54 fl_RX10_7 lR_0 rfl ?_
      refine Ev.iconst (pc := 57) dX10_tick_57 (v := 0) (by decide) ?_
      refine Ev.ialdj (pc := 58) dX10_tick_58 (j := 0) lR_1 (by decide) (by decide) ?_
      obtain rfl := Option.some.inj h
      exact Ev.iret (pc := 59) dX10_tick_59 rfl rfl
    · have h := eT h c9
      refine Ev.aload_n (pc := 43) dX10_tick_43 rfl ?_
      refine eBk h (fun q2 hq2 h => ?_)
      refine Ev.callV (pc := 44) (as := []) (st := []) (z := 1) dX10_tick_44 wc_X10_oneHour ml_RX10_289 im_X10_oneHour se_X10_oneHour lR_0 rfl rfl (ev_X10_oneHour  M _ hq2) rfl rfl (by decide) rfl rfl (Nat.le_of_ble_eq_true rfl) ?_
      refine Ev.iincv (pc := 47) dX10_tick_47 (v := 1) (by decide) rfl (by decide) rfl rfl ?_
      refine Ev.goto (pc := 50) (tgt := 38) dX10_tick_50 (by decide) ?_
      exact Ev.fg (ih _ _ _ h) (And.intro rfl (And.intro rfl (And.intro rfl trivial)))
def F_X10_tick (x1 : Int32) (M : eMem) : Option (Int32 × eMem) :=
  (F_X10_in x1 1 99).bind fun q1 =>
  if q1 = 0 then
    (F_X10_finding 1 M).bind fun q4 =>
    some (q4.1, q4.2)
  else
    if 1943 < ((M.1 1 0) + x1) then
      (F_X10_finding 2 M).bind fun q3 =>
      some (q3.1, q3.2)
    else
      F_X10_tick_38 eFuel x1 0 M
set_option maxRecDepth 100000 in
set_option maxHeartbeats 4000000 in
theorem ev_X10_tick (x1 : Int32) (M : eMem) (q : (Int32 × eMem)) (h : F_X10_tick x1 M = some q) : Ev layR 9 m_X10_tick 0 [some (.ref 0), some (.int x1), none] [] M (some (.int q.1), q.2) := by
  rw [F_X10_tick] at h
  refine Ev.iload_n (pc := 0) dX10_tick_0 rfl ?_
  refine Ev.iconst (pc := 1) dX10_tick_1 (v := 1) (by decide) ?_
  refine Ev.bipush (pc := 2) dX10_tick_2 (v := 99) (by decide) ?_
  refine eBk h (fun q1 hq1 h => ?_)
  refine Ev.callS (pc := 4) (as := [.int x1, .int 1, .int 99]) (st := []) (z := 0) dX10_tick_4 wc_X10_in ml_RX10_58 sm_X10_in (ev_X10_in x1 1 99 M _ hq1) rfl rfl (by decide) rfl rfl (Nat.le_of_ble_eq_true rfl) ?_
  refine Ev.if_ne (pc := 7) (tgt := 16) dX10_tick_7 (by decide) (fun c9 => ?_) (fun c9 => ?_)
  · have h := eF h c9
    refine Ev.aload_n (pc := 16) dX10_tick_16 rfl ?_
    refine Ev.getR (pc := 17) dX10_tick_17 fl_RX10_7 lR_0 rfl ?_
    refine Ev.iconst (pc := 20) dX10_tick_20 (v := 0) (by decide) ?_
    refine Ev.ialdj (pc := 21) dX10_tick_21 (j := 0) lR_1 (by decide) (by decide) ?_
    refine Ev.iload_n (pc := 22) dX10_tick_22 rfl ?_
    refine Ev.iadd (pc := 23) dX10_tick_23 ?_
    refine Ev.sipush (pc := 24) dX10_tick_24 (v := 1943) (by decide) ?_
    refine Ev.icmp_le (pc := 27) (tgt := 36) dX10_tick_27 (by decide) (fun c9 => ?_) (fun c9 => ?_)
    · have h := eF h c9
      refine Ev.iconst (pc := 36) dX10_tick_36 (v := 0) (by decide) ?_
      refine Ev.istore_n (pc := 37) dX10_tick_37 (by decide) rfl rfl ?_
      exact Ev.fg (ev_X10_tick_38 _ _ _ _ _ h) (And.intro rfl (And.intro rfl (And.intro rfl trivial)))
    · have h := eT h c9
      refine Ev.aload_n (pc := 30) dX10_tick_30 rfl ?_
      refine Ev.iconst (pc := 31) dX10_tick_31 (v := 2) (by decide) ?_
      refine eBk h (fun q3 hq3 h => ?_)
      refine Ev.callV (pc := 32) (as := [.int 2]) (st := []) (z := 0) dX10_tick_32 wc_X10_finding ml_RX10_66 im_X10_finding se_X10_finding lR_0 rfl rfl (ev_X10_finding 2 M _ hq3) rfl rfl (by decide) rfl rfl (Nat.le_of_ble_eq_true rfl) ?_
      obtain rfl := Option.some.inj h
      exact Ev.iret (pc := 35) dX10_tick_35 rfl rfl
  · have h := eT h c9
    refine Ev.aload_n (pc := 10) dX10_tick_10 rfl ?_
    refine Ev.iconst (pc := 11) dX10_tick_11 (v := 1) (by decide) ?_
    refine eBk h (fun q4 hq4 h => ?_)
    refine Ev.callV (pc := 12) (as := [.int 1]) (st := []) (z := 0) dX10_tick_12 wc_X10_finding ml_RX10_66 im_X10_finding se_X10_finding lR_0 rfl rfl (ev_X10_finding 1 M _ hq4) rfl rfl (by decide) rfl rfl (Nat.le_of_ble_eq_true rfl) ?_
    obtain rfl := Option.some.inj h
    exact Ev.iret (pc := 15) dX10_tick_15 rfl rfl
theorem dX8_isClosed_0 : decode cX8_isClosed 0 = .ok (.iload_n 1, 1) := by decide +kernel
theorem dX8_isClosed_1 : decode cX8_isClosed 1 = .ok (.aload_n 0, 1) := by decide +kernel
theorem dX8_isClosed_2 : decode cX8_isClosed 2 = .ok (.getfield 12, 3) := by decide +kernel
theorem dX8_isClosed_5 : decode cX8_isClosed 5 = .ok (.getfield 85, 3) := by decide +kernel
theorem dX8_isClosed_8 : decode cX8_isClosed 8 = .ok (.bipush 24, 2) := by decide +kernel
theorem dX8_isClosed_10 : decode cX8_isClosed 10 = .ok (.idiv, 1) := by decide +kernel
theorem dX8_isClosed_11 : decode cX8_isClosed 11 = .ok (.if_icmp .ge 7, 3) := by decide +kernel
theorem dX8_isClosed_14 : decode cX8_isClosed 14 = .ok (.iconst 1, 1) := by decide +kernel
theorem dX8_isClosed_15 : decode cX8_isClosed 15 = .ok (.goto 4, 3) := by decide +kernel
theorem dX8_isClosed_18 : decode cX8_isClosed 18 = .ok (.iconst 0, 1) := by decide +kernel
theorem dX8_isClosed_19 : decode cX8_isClosed 19 = .ok (.ireturn, 1) := by decide +kernel
def F_X8_isClosed (x1 : Int32) (M : eMem) : Option Int32 :=
  if x1 < ((M.1 2 11) / 24) then
    some 1
  else
    some 0
set_option maxRecDepth 100000 in
set_option maxHeartbeats 4000000 in
theorem ev_X8_isClosed (x1 : Int32) (M : eMem) (q : Int32) (h : F_X8_isClosed x1 M = some q) : Ev layC 0 m_X8_isClosed 0 [some (.ref 1), some (.int x1)] [] M (some (.int q), M) := by
  rw [F_X8_isClosed] at h
  refine Ev.iload_n (pc := 0) dX8_isClosed_0 rfl ?_
  refine Ev.aload_n (pc := 1) dX8_isClosed_1 rfl ?_
  refine Ev.getR (pc := 2) dX8_isClosed_2 fl_RX8_12 lC_1 rfl ?_
  refine Ev.getI (pc := 5) dX8_isClosed_5 fl_RX8_85 lC_2 rfl ?_
  refine Ev.bipush (pc := 8) dX8_isClosed_8 (v := 24) (by decide) ?_
  refine Ev.idiv (pc := 10) dX8_isClosed_10 (by decide) ?_
  refine Ev.icmp_ge (pc := 11) (tgt := 18) dX8_isClosed_11 (by decide) (fun c9 => ?_) (fun c9 => ?_)
  · have h := eF h c9
    refine Ev.iconst (pc := 18) dX8_isClosed_18 (v := 0) (by decide) ?_
    obtain rfl := Option.some.inj h
    exact Ev.iret (pc := 19) dX8_isClosed_19 rfl rfl
  · have h := eT h c9
    refine Ev.iconst (pc := 14) dX8_isClosed_14 (v := 1) (by decide) ?_
    refine Ev.goto (pc := 15) (tgt := 19) dX8_isClosed_15 (by decide) ?_
    obtain rfl := Option.some.inj h
    exact Ev.iret (pc := 19) dX8_isClosed_19 rfl rfl
theorem dX9_book_0 : decode cX9_book 0 = .ok (.iload_n 2, 1) := by decide +kernel
theorem dX9_book_1 : decode cX9_book 1 = .ok (.bipush 6, 2) := by decide +kernel
theorem dX9_book_3 : decode cX9_book 3 = .ok (.invokestatic 37, 3) := by decide +kernel
theorem dX9_book_6 : decode cX9_book 6 = .ok (.ifCond .eq 12, 3) := by decide +kernel
theorem dX9_book_9 : decode cX9_book 9 = .ok (.iload_n 1, 1) := by decide +kernel
theorem dX9_book_10 : decode cX9_book 10 = .ok (.bipush 81, 2) := by decide +kernel
theorem dX9_book_12 : decode cX9_book 12 = .ok (.invokestatic 37, 3) := by decide +kernel
theorem dX9_book_15 : decode cX9_book 15 = .ok (.ifCond .ne 10, 3) := by decide +kernel
theorem dX9_book_18 : decode cX9_book 18 = .ok (.aload_n 0, 1) := by decide +kernel
theorem dX9_book_19 : decode cX9_book 19 = .ok (.ldc 41, 2) := by decide +kernel
theorem dX9_book_21 : decode cX9_book 21 = .ok (.invokevirtual 42, 3) := by decide +kernel
theorem dX9_book_24 : decode cX9_book 24 = .ok (.ireturn, 1) := by decide +kernel
theorem dX9_book_25 : decode cX9_book 25 = .ok (.aload_n 0, 1) := by decide +kernel
theorem dX9_book_26 : decode cX9_book 26 = .ok (.getfield 12, 3) := by decide +kernel
theorem dX9_book_29 : decode cX9_book 29 = .ok (.iload_n 1, 1) := by decide +kernel
theorem dX9_book_30 : decode cX9_book 30 = .ok (.invokevirtual 374, 3) := by decide +kernel
theorem dX9_book_33 : decode cX9_book 33 = .ok (.ifCond .ne 10, 3) := by decide +kernel
theorem dX9_book_36 : decode cX9_book 36 = .ok (.aload_n 0, 1) := by decide +kernel
theorem dX9_book_37 : decode cX9_book 37 = .ok (.ldc 108, 2) := by decide +kernel
theorem dX9_book_39 : decode cX9_book 39 = .ok (.invokevirtual 42, 3) := by decide +kernel
theorem dX9_book_42 : decode cX9_book 42 = .ok (.ireturn, 1) := by decide +kernel
theorem dX9_book_43 : decode cX9_book 43 = .ok (.aload_n 0, 1) := by decide +kernel
theorem dX9_book_44 : decode cX9_book 44 = .ok (.getfield 12, 3) := by decide +kernel
theorem dX9_book_47 : decode cX9_book 47 = .ok (.getfield 377, 3) := by decide +kernel
theorem dX9_book_50 : decode cX9_book 50 = .ok (.bipush 6, 2) := by decide +kernel
theorem dX9_book_52 : decode cX9_book 52 = .ok (.iload_n 1, 1) := by decide +kernel
theorem dX9_book_53 : decode cX9_book 53 = .ok (.imul, 1) := by decide +kernel
theorem dX9_book_54 : decode cX9_book 54 = .ok (.iload_n 2, 1) := by decide +kernel
theorem dX9_book_55 : decode cX9_book 55 = .ok (.iadd, 1) := by decide +kernel
theorem dX9_book_56 : decode cX9_book 56 = .ok (.iaload, 1) := by decide +kernel
theorem dX9_book_57 : decode cX9_book 57 = .ok (.ireturn, 1) := by decide +kernel
def F_X9_book (x1 : Int32) (x2 : Int32) (M : eMem) : Option (Int32 × eMem) :=
  (F_X9_isIn x2 6).bind fun q1 =>
  if q1 = 0 then
    (F_X9_found (-1000001) M).bind fun q2 =>
    some (q2.1, q2.2)
  else
    (F_X9_isIn x1 81).bind fun q3 =>
    if q3 = 0 then
      (F_X9_found (-1000001) M).bind fun q6 =>
      some (q6.1, q6.2)
    else
      (F_X8_isClosed x1 M).bind fun q4 =>
      if q4 = 0 then
        (F_X9_found (-1000004) M).bind fun q5 =>
        some (q5.1, q5.2)
      else
        eG (eIn ((6 * x1) + x2) 486) <|
        some ((M.1 53 ((6 * x1) + x2).toNatClampNeg), M)
set_option maxRecDepth 100000 in
set_option maxHeartbeats 4000000 in
theorem ev_X9_book (x1 : Int32) (x2 : Int32) (M : eMem) (q : (Int32 × eMem)) (h : F_X9_book x1 x2 M = some q) : Ev layC 2 m_X9_book 0 [some (.ref 0), some (.int x1), some (.int x2)] [] M (some (.int q.1), q.2) := by
  rw [F_X9_book] at h
  refine Ev.iload_n (pc := 0) dX9_book_0 rfl ?_
  refine Ev.bipush (pc := 1) dX9_book_1 (v := 6) (by decide) ?_
  refine eBk h (fun q1 hq1 h => ?_)
  refine Ev.callS (pc := 3) (as := [.int x2, .int 6]) (st := []) (z := 0) dX9_book_3 wc_X9_isIn ml_RX9_37 sm_X9_isIn (ev_X9_isIn x2 6 M _ hq1) rfl rfl (by decide) rfl rfl (Nat.le_of_ble_eq_true rfl) ?_
  refine Ev.if_eq (pc := 6) (tgt := 18) dX9_book_6 (by decide) (fun c9 => ?_) (fun c9 => ?_)
  · have h := eT h c9
    refine Ev.aload_n (pc := 18) dX9_book_18 rfl ?_
    refine Ev.ldc (pc := 19) dX9_book_19 ld_RX9_41 ?_
    refine eBk h (fun q2 hq2 h => ?_)
    refine Ev.callV (pc := 21) (as := [.int (-1000001)]) (st := []) (z := 1) dX9_book_21 wc_X9_found ml_RX9_42 im_X9_found se_X9_found lC_0 rfl rfl (ev_X9_found (-1000001) M _ hq2) rfl rfl (by decide) rfl rfl (Nat.le_of_ble_eq_true rfl) ?_
    obtain rfl := Option.some.inj h
    exact Ev.iret (pc := 24) dX9_book_24 rfl rfl
  · have h := eF h c9
    refine Ev.iload_n (pc := 9) dX9_book_9 rfl ?_
    refine Ev.bipush (pc := 10) dX9_book_10 (v := 81) (by decide) ?_
    refine eBk h (fun q3 hq3 h => ?_)
    refine Ev.callS (pc := 12) (as := [.int x1, .int 81]) (st := []) (z := 0) dX9_book_12 wc_X9_isIn ml_RX9_37 sm_X9_isIn (ev_X9_isIn x1 81 M _ hq3) rfl rfl (by decide) rfl rfl (Nat.le_of_ble_eq_true rfl) ?_
    refine Ev.if_ne (pc := 15) (tgt := 25) dX9_book_15 (by decide) (fun c9 => ?_) (fun c9 => ?_)
    · have h := eF h c9
      refine Ev.aload_n (pc := 25) dX9_book_25 rfl ?_
      refine Ev.getR (pc := 26) dX9_book_26 fl_RX9_12 lC_0 rfl ?_
      refine Ev.iload_n (pc := 29) dX9_book_29 rfl ?_
      refine eBk h (fun q4 hq4 h => ?_)
      refine Ev.callV (pc := 30) (as := [.int x1]) (st := []) (z := 0) dX9_book_30 wc_X8_isClosed ml_RX9_374 im_X8_isClosed se_X8_isClosed lC_1 rfl rfl (ev_X8_isClosed x1 M _ hq4) rfl rfl (by decide) rfl rfl (Nat.le_of_ble_eq_true rfl) ?_
      refine Ev.if_ne (pc := 33) (tgt := 43) dX9_book_33 (by decide) (fun c9 => ?_) (fun c9 => ?_)
      · have h := eF h c9
        refine Ev.aload_n (pc := 43) dX9_book_43 rfl ?_
        refine Ev.getR (pc := 44) dX9_book_44 fl_RX9_12 lC_0 rfl ?_
        refine Ev.getR (pc := 47) dX9_book_47 fl_RX9_377 lC_1 rfl ?_
        refine Ev.bipush (pc := 50) dX9_book_50 (v := 6) (by decide) ?_
        refine Ev.iload_n (pc := 52) dX9_book_52 rfl ?_
        refine Ev.imul (pc := 53) dX9_book_53 ?_
        refine Ev.iload_n (pc := 54) dX9_book_54 rfl ?_
        refine Ev.iadd (pc := 55) dX9_book_55 ?_
        obtain ⟨g9, h⟩ := eGdB h
        refine Ev.ialdj (pc := 56) dX9_book_56 (j := ((6 * x1) + x2).toNatClampNeg) lC_53 g9 rfl ?_
        obtain rfl := Option.some.inj h
        exact Ev.iret (pc := 57) dX9_book_57 rfl rfl
      · have h := eT h c9
        refine Ev.aload_n (pc := 36) dX9_book_36 rfl ?_
        refine Ev.ldc (pc := 37) dX9_book_37 ld_RX9_108 ?_
        refine eBk h (fun q5 hq5 h => ?_)
        refine Ev.callV (pc := 39) (as := [.int (-1000004)]) (st := []) (z := 1) dX9_book_39 wc_X9_found ml_RX9_42 im_X9_found se_X9_found lC_0 rfl rfl (ev_X9_found (-1000004) M _ hq5) rfl rfl (by decide) rfl rfl (Nat.le_of_ble_eq_true rfl) ?_
        obtain rfl := Option.some.inj h
        exact Ev.iret (pc := 42) dX9_book_42 rfl rfl
    · have h := eT h c9
      refine Ev.aload_n (pc := 18) dX9_book_18 rfl ?_
      refine Ev.ldc (pc := 19) dX9_book_19 ld_RX9_41 ?_
      refine eBk h (fun q6 hq6 h => ?_)
      refine Ev.callV (pc := 21) (as := [.int (-1000001)]) (st := []) (z := 1) dX9_book_21 wc_X9_found ml_RX9_42 im_X9_found se_X9_found lC_0 rfl rfl (ev_X9_found (-1000001) M _ hq6) rfl rfl (by decide) rfl rfl (Nat.le_of_ble_eq_true rfl) ?_
      obtain rfl := Option.some.inj h
      exact Ev.iret (pc := 24) dX9_book_24 rfl rfl
theorem dX10_isClosed_0 : decode cX10_isClosed 0 = .ok (.aload_n 0, 1) := by decide +kernel
theorem dX10_isClosed_1 : decode cX10_isClosed 1 = .ok (.getfield 7, 3) := by decide +kernel
theorem dX10_isClosed_4 : decode cX10_isClosed 4 = .ok (.iconst 0, 1) := by decide +kernel
theorem dX10_isClosed_5 : decode cX10_isClosed 5 = .ok (.iaload, 1) := by decide +kernel
theorem dX10_isClosed_6 : decode cX10_isClosed 6 = .ok (.bipush 24, 2) := by decide +kernel
theorem dX10_isClosed_8 : decode cX10_isClosed 8 = .ok (.iload_n 1, 1) := by decide +kernel
theorem dX10_isClosed_9 : decode cX10_isClosed 9 = .ok (.iconst 1, 1) := by decide +kernel
theorem dX10_isClosed_10 : decode cX10_isClosed 10 = .ok (.iadd, 1) := by decide +kernel
theorem dX10_isClosed_11 : decode cX10_isClosed 11 = .ok (.imul, 1) := by decide +kernel
theorem dX10_isClosed_12 : decode cX10_isClosed 12 = .ok (.if_icmp .lt 7, 3) := by decide +kernel
theorem dX10_isClosed_15 : decode cX10_isClosed 15 = .ok (.iconst 1, 1) := by decide +kernel
theorem dX10_isClosed_16 : decode cX10_isClosed 16 = .ok (.goto 4, 3) := by decide +kernel
theorem dX10_isClosed_19 : decode cX10_isClosed 19 = .ok (.iconst 0, 1) := by decide +kernel
theorem dX10_isClosed_20 : decode cX10_isClosed 20 = .ok (.ireturn, 1) := by decide +kernel
def F_X10_isClosed (x1 : Int32) (M : eMem) : Option Int32 :=
  if (M.1 1 0) < (24 * (x1 + 1)) then
    some 0
  else
    some 1
set_option maxRecDepth 100000 in
set_option maxHeartbeats 4000000 in
theorem ev_X10_isClosed (x1 : Int32) (M : eMem) (q : Int32) (h : F_X10_isClosed x1 M = some q) : Ev layR 0 m_X10_isClosed 0 [some (.ref 0), some (.int x1)] [] M (some (.int q), M) := by
  rw [F_X10_isClosed] at h
  refine Ev.aload_n (pc := 0) dX10_isClosed_0 rfl ?_
  refine Ev.getR (pc := 1) dX10_isClosed_1 fl_RX10_7 lR_0 rfl ?_
  refine Ev.iconst (pc := 4) dX10_isClosed_4 (v := 0) (by decide) ?_
  refine Ev.ialdj (pc := 5) dX10_isClosed_5 (j := 0) lR_1 (by decide) (by decide) ?_
  refine Ev.bipush (pc := 6) dX10_isClosed_6 (v := 24) (by decide) ?_
  refine Ev.iload_n (pc := 8) dX10_isClosed_8 rfl ?_
  refine Ev.iconst (pc := 9) dX10_isClosed_9 (v := 1) (by decide) ?_
  refine Ev.iadd (pc := 10) dX10_isClosed_10 ?_
  refine Ev.imul (pc := 11) dX10_isClosed_11 ?_
  refine Ev.icmp_lt (pc := 12) (tgt := 19) dX10_isClosed_12 (by decide) (fun c9 => ?_) (fun c9 => ?_)
  · have h := eT h c9
    refine Ev.iconst (pc := 19) dX10_isClosed_19 (v := 0) (by decide) ?_
    obtain rfl := Option.some.inj h
    exact Ev.iret (pc := 20) dX10_isClosed_20 rfl rfl
  · have h := eF h c9
    refine Ev.iconst (pc := 15) dX10_isClosed_15 (v := 1) (by decide) ?_
    refine Ev.goto (pc := 16) (tgt := 20) dX10_isClosed_16 (by decide) ?_
    obtain rfl := Option.some.inj h
    exact Ev.iret (pc := 20) dX10_isClosed_20 rfl rfl
theorem dX10_book_0 : decode cX10_book 0 = .ok (.iload_n 1, 1) := by decide +kernel
theorem dX10_book_1 : decode cX10_book 1 = .ok (.iconst 0, 1) := by decide +kernel
theorem dX10_book_2 : decode cX10_book 2 = .ok (.bipush 80, 2) := by decide +kernel
theorem dX10_book_4 : decode cX10_book 4 = .ok (.invokestatic 58, 3) := by decide +kernel
theorem dX10_book_7 : decode cX10_book 7 = .ok (.ifCond .eq 12, 3) := by decide +kernel
theorem dX10_book_10 : decode cX10_book 10 = .ok (.iload_n 2, 1) := by decide +kernel
theorem dX10_book_11 : decode cX10_book 11 = .ok (.iconst 0, 1) := by decide +kernel
theorem dX10_book_12 : decode cX10_book 12 = .ok (.iconst 5, 1) := by decide +kernel
theorem dX10_book_13 : decode cX10_book 13 = .ok (.invokestatic 58, 3) := by decide +kernel
theorem dX10_book_16 : decode cX10_book 16 = .ok (.ifCond .ne 9, 3) := by decide +kernel
theorem dX10_book_19 : decode cX10_book 19 = .ok (.aload_n 0, 1) := by decide +kernel
theorem dX10_book_20 : decode cX10_book 20 = .ok (.iconst 1, 1) := by decide +kernel
theorem dX10_book_21 : decode cX10_book 21 = .ok (.invokevirtual 66, 3) := by decide +kernel
theorem dX10_book_24 : decode cX10_book 24 = .ok (.ireturn, 1) := by decide +kernel
theorem dX10_book_25 : decode cX10_book 25 = .ok (.aload_n 0, 1) := by decide +kernel
theorem dX10_book_26 : decode cX10_book 26 = .ok (.iload_n 1, 1) := by decide +kernel
theorem dX10_book_27 : decode cX10_book 27 = .ok (.invokevirtual 292, 3) := by decide +kernel
theorem dX10_book_30 : decode cX10_book 30 = .ok (.ifCond .eq 21, 3) := by decide +kernel
theorem dX10_book_33 : decode cX10_book 33 = .ok (.aload_n 0, 1) := by decide +kernel
theorem dX10_book_34 : decode cX10_book 34 = .ok (.getfield 7, 3) := by decide +kernel
theorem dX10_book_37 : decode cX10_book 37 = .ok (.sipush 1278, 3) := by decide +kernel
theorem dX10_book_40 : decode cX10_book 40 = .ok (.bipush 6, 2) := by decide +kernel
theorem dX10_book_42 : decode cX10_book 42 = .ok (.iload_n 1, 1) := by decide +kernel
theorem dX10_book_43 : decode cX10_book 43 = .ok (.imul, 1) := by decide +kernel
theorem dX10_book_44 : decode cX10_book 44 = .ok (.iadd, 1) := by decide +kernel
theorem dX10_book_45 : decode cX10_book 45 = .ok (.iload_n 2, 1) := by decide +kernel
theorem dX10_book_46 : decode cX10_book 46 = .ok (.iadd, 1) := by decide +kernel
theorem dX10_book_47 : decode cX10_book 47 = .ok (.iaload, 1) := by decide +kernel
theorem dX10_book_48 : decode cX10_book 48 = .ok (.goto 8, 3) := by decide +kernel
theorem dX10_book_51 : decode cX10_book 51 = .ok (.aload_n 0, 1) := by decide +kernel
theorem dX10_book_52 : decode cX10_book 52 = .ok (.iconst 4, 1) := by decide +kernel
theorem dX10_book_53 : decode cX10_book 53 = .ok (.invokevirtual 66, 3) := by decide +kernel
theorem dX10_book_56 : decode cX10_book 56 = .ok (.ireturn, 1) := by decide +kernel
def F_X10_book (x1 : Int32) (x2 : Int32) (M : eMem) : Option (Int32 × eMem) :=
  (F_X10_in x1 0 80).bind fun q1 =>
  if q1 = 0 then
    (F_X10_finding 1 M).bind fun q2 =>
    some (q2.1, q2.2)
  else
    (F_X10_in x2 0 5).bind fun q3 =>
    if q3 = 0 then
      (F_X10_finding 1 M).bind fun q6 =>
      some (q6.1, q6.2)
    else
      (F_X10_isClosed x1 M).bind fun q4 =>
      if q4 = 0 then
        (F_X10_finding 4 M).bind fun q5 =>
        some (q5.1, q5.2)
      else
        eG (eIn ((1278 + (6 * x1)) + x2) 2900) <|
        some ((M.1 1 ((1278 + (6 * x1)) + x2).toNatClampNeg), M)
set_option maxRecDepth 100000 in
set_option maxHeartbeats 4000000 in
theorem ev_X10_book (x1 : Int32) (x2 : Int32) (M : eMem) (q : (Int32 × eMem)) (h : F_X10_book x1 x2 M = some q) : Ev layR 1 m_X10_book 0 [some (.ref 0), some (.int x1), some (.int x2)] [] M (some (.int q.1), q.2) := by
  rw [F_X10_book] at h
  refine Ev.iload_n (pc := 0) dX10_book_0 rfl ?_
  refine Ev.iconst (pc := 1) dX10_book_1 (v := 0) (by decide) ?_
  refine Ev.bipush (pc := 2) dX10_book_2 (v := 80) (by decide) ?_
  refine eBk h (fun q1 hq1 h => ?_)
  refine Ev.callS (pc := 4) (as := [.int x1, .int 0, .int 80]) (st := []) (z := 0) dX10_book_4 wc_X10_in ml_RX10_58 sm_X10_in (ev_X10_in x1 0 80 M _ hq1) rfl rfl (by decide) rfl rfl (Nat.le_of_ble_eq_true rfl) ?_
  refine Ev.if_eq (pc := 7) (tgt := 19) dX10_book_7 (by decide) (fun c9 => ?_) (fun c9 => ?_)
  · have h := eT h c9
    refine Ev.aload_n (pc := 19) dX10_book_19 rfl ?_
    refine Ev.iconst (pc := 20) dX10_book_20 (v := 1) (by decide) ?_
    refine eBk h (fun q2 hq2 h => ?_)
    refine Ev.callV (pc := 21) (as := [.int 1]) (st := []) (z := 0) dX10_book_21 wc_X10_finding ml_RX10_66 im_X10_finding se_X10_finding lR_0 rfl rfl (ev_X10_finding 1 M _ hq2) rfl rfl (by decide) rfl rfl (Nat.le_of_ble_eq_true rfl) ?_
    obtain rfl := Option.some.inj h
    exact Ev.iret (pc := 24) dX10_book_24 rfl rfl
  · have h := eF h c9
    refine Ev.iload_n (pc := 10) dX10_book_10 rfl ?_
    refine Ev.iconst (pc := 11) dX10_book_11 (v := 0) (by decide) ?_
    refine Ev.iconst (pc := 12) dX10_book_12 (v := 5) (by decide) ?_
    refine eBk h (fun q3 hq3 h => ?_)
    refine Ev.callS (pc := 13) (as := [.int x2, .int 0, .int 5]) (st := []) (z := 0) dX10_book_13 wc_X10_in ml_RX10_58 sm_X10_in (ev_X10_in x2 0 5 M _ hq3) rfl rfl (by decide) rfl rfl (Nat.le_of_ble_eq_true rfl) ?_
    refine Ev.if_ne (pc := 16) (tgt := 25) dX10_book_16 (by decide) (fun c9 => ?_) (fun c9 => ?_)
    · have h := eF h c9
      refine Ev.aload_n (pc := 25) dX10_book_25 rfl ?_
      refine Ev.iload_n (pc := 26) dX10_book_26 rfl ?_
      refine eBk h (fun q4 hq4 h => ?_)
      refine Ev.callV (pc := 27) (as := [.int x1]) (st := []) (z := 0) dX10_book_27 wc_X10_isClosed ml_RX10_292 im_X10_isClosed se_X10_isClosed lR_0 rfl rfl (ev_X10_isClosed x1 M _ hq4) rfl rfl (by decide) rfl rfl (Nat.le_of_ble_eq_true rfl) ?_
      refine Ev.if_eq (pc := 30) (tgt := 51) dX10_book_30 (by decide) (fun c9 => ?_) (fun c9 => ?_)
      · have h := eT h c9
        refine Ev.aload_n (pc := 51) dX10_book_51 rfl ?_
        refine Ev.iconst (pc := 52) dX10_book_52 (v := 4) (by decide) ?_
        refine eBk h (fun q5 hq5 h => ?_)
        refine Ev.callV (pc := 53) (as := [.int 4]) (st := []) (z := 0) dX10_book_53 wc_X10_finding ml_RX10_66 im_X10_finding se_X10_finding lR_0 rfl rfl (ev_X10_finding 4 M _ hq5) rfl rfl (by decide) rfl rfl (Nat.le_of_ble_eq_true rfl) ?_
        obtain rfl := Option.some.inj h
        exact Ev.iret (pc := 56) dX10_book_56 rfl rfl
      · have h := eF h c9
        refine Ev.aload_n (pc := 33) dX10_book_33 rfl ?_
        refine Ev.getR (pc := 34) dX10_book_34 fl_RX10_7 lR_0 rfl ?_
        refine Ev.sipush (pc := 37) dX10_book_37 (v := 1278) (by decide) ?_
        refine Ev.bipush (pc := 40) dX10_book_40 (v := 6) (by decide) ?_
        refine Ev.iload_n (pc := 42) dX10_book_42 rfl ?_
        refine Ev.imul (pc := 43) dX10_book_43 ?_
        refine Ev.iadd (pc := 44) dX10_book_44 ?_
        refine Ev.iload_n (pc := 45) dX10_book_45 rfl ?_
        refine Ev.iadd (pc := 46) dX10_book_46 ?_
        obtain ⟨g9, h⟩ := eGdB h
        refine Ev.ialdj (pc := 47) dX10_book_47 (j := ((1278 + (6 * x1)) + x2).toNatClampNeg) lR_1 g9 rfl ?_
        refine Ev.goto (pc := 48) (tgt := 56) dX10_book_48 (by decide) ?_
        obtain rfl := Option.some.inj h
        exact Ev.iret (pc := 56) dX10_book_56 rfl rfl
    · have h := eT h c9
      refine Ev.aload_n (pc := 19) dX10_book_19 rfl ?_
      refine Ev.iconst (pc := 20) dX10_book_20 (v := 1) (by decide) ?_
      refine eBk h (fun q6 hq6 h => ?_)
      refine Ev.callV (pc := 21) (as := [.int 1]) (st := []) (z := 0) dX10_book_21 wc_X10_finding ml_RX10_66 im_X10_finding se_X10_finding lR_0 rfl rfl (ev_X10_finding 1 M _ hq6) rfl rfl (by decide) rfl rfl (Nat.le_of_ble_eq_true rfl) ?_
      obtain rfl := Option.some.inj h
      exact Ev.iret (pc := 24) dX10_book_24 rfl rfl
theorem dX9_check_0 : decode cX9_check 0 = .ok (.iload_n 1, 1) := by decide +kernel
theorem dX9_check_1 : decode cX9_check 1 = .ok (.bipush 81, 2) := by decide +kernel
theorem dX9_check_3 : decode cX9_check 3 = .ok (.invokestatic 37, 3) := by decide +kernel
theorem dX9_check_6 : decode cX9_check 6 = .ok (.ifCond .eq 11, 3) := by decide +kernel
theorem dX9_check_9 : decode cX9_check 9 = .ok (.iload_n 2, 1) := by decide +kernel
theorem dX9_check_10 : decode cX9_check 10 = .ok (.iconst 4, 1) := by decide +kernel
theorem dX9_check_11 : decode cX9_check 11 = .ok (.invokestatic 37, 3) := by decide +kernel
theorem dX9_check_14 : decode cX9_check 14 = .ok (.ifCond .ne 10, 3) := by decide +kernel
theorem dX9_check_17 : decode cX9_check 17 = .ok (.aload_n 0, 1) := by decide +kernel
theorem dX9_check_18 : decode cX9_check 18 = .ok (.ldc 41, 2) := by decide +kernel
theorem dX9_check_20 : decode cX9_check 20 = .ok (.invokevirtual 42, 3) := by decide +kernel
theorem dX9_check_23 : decode cX9_check 23 = .ok (.ireturn, 1) := by decide +kernel
theorem dX9_check_24 : decode cX9_check 24 = .ok (.aload_n 0, 1) := by decide +kernel
theorem dX9_check_25 : decode cX9_check 25 = .ok (.getfield 12, 3) := by decide +kernel
theorem dX9_check_28 : decode cX9_check 28 = .ok (.iload_n 1, 1) := by decide +kernel
theorem dX9_check_29 : decode cX9_check 29 = .ok (.invokevirtual 374, 3) := by decide +kernel
theorem dX9_check_32 : decode cX9_check 32 = .ok (.ifCond .ne 10, 3) := by decide +kernel
theorem dX9_check_35 : decode cX9_check 35 = .ok (.aload_n 0, 1) := by decide +kernel
theorem dX9_check_36 : decode cX9_check 36 = .ok (.ldc 108, 2) := by decide +kernel
theorem dX9_check_38 : decode cX9_check 38 = .ok (.invokevirtual 42, 3) := by decide +kernel
theorem dX9_check_41 : decode cX9_check 41 = .ok (.ireturn, 1) := by decide +kernel
theorem dX9_check_42 : decode cX9_check 42 = .ok (.aload_n 0, 1) := by decide +kernel
theorem dX9_check_43 : decode cX9_check 43 = .ok (.getfield 29, 3) := by decide +kernel
theorem dX9_check_46 : decode cX9_check 46 = .ok (.iload_n 2, 1) := by decide +kernel
theorem dX9_check_47 : decode cX9_check 47 = .ok (.invokevirtual 230, 3) := by decide +kernel
theorem dX9_check_50 : decode cX9_check 50 = .ok (.ifCond .eq 10, 3) := by decide +kernel
theorem dX9_check_53 : decode cX9_check 53 = .ok (.aload_n 0, 1) := by decide +kernel
theorem dX9_check_54 : decode cX9_check 54 = .ok (.ldc 233, 2) := by decide +kernel
theorem dX9_check_56 : decode cX9_check 56 = .ok (.invokevirtual 42, 3) := by decide +kernel
theorem dX9_check_59 : decode cX9_check 59 = .ok (.ireturn, 1) := by decide +kernel
theorem dX9_check_60 : decode cX9_check 60 = .ok (.aload_n 0, 1) := by decide +kernel
theorem dX9_check_61 : decode cX9_check 61 = .ok (.getfield 29, 3) := by decide +kernel
theorem dX9_check_64 : decode cX9_check 64 = .ok (.getfield 234, 3) := by decide +kernel
theorem dX9_check_67 : decode cX9_check 67 = .ok (.iload_n 2, 1) := by decide +kernel
theorem dX9_check_68 : decode cX9_check 68 = .ok (.iaload, 1) := by decide +kernel
theorem dX9_check_69 : decode cX9_check 69 = .ok (.bipush 6, 2) := by decide +kernel
theorem dX9_check_71 : decode cX9_check 71 = .ok (.if_icmp .eq 10, 3) := by decide +kernel
theorem dX9_check_74 : decode cX9_check 74 = .ok (.aload_n 0, 1) := by decide +kernel
theorem dX9_check_75 : decode cX9_check 75 = .ok (.ldc 192, 2) := by decide +kernel
theorem dX9_check_77 : decode cX9_check 77 = .ok (.invokevirtual 42, 3) := by decide +kernel
theorem dX9_check_80 : decode cX9_check 80 = .ok (.ireturn, 1) := by decide +kernel
theorem dX9_check_81 : decode cX9_check 81 = .ok (.iconst 0, 1) := by decide +kernel
theorem dX9_check_82 : decode cX9_check 82 = .ok (.istore_n 3, 1) := by decide +kernel
theorem dX9_check_83 : decode cX9_check 83 = .ok (.iload_n 3, 1) := by decide +kernel
theorem dX9_check_84 : decode cX9_check 84 = .ok (.bipush 6, 2) := by decide +kernel
theorem dX9_check_86 : decode cX9_check 86 = .ok (.if_icmp .ge 51, 3) := by decide +kernel
theorem dX9_check_89 : decode cX9_check 89 = .ok (.aload_n 0, 1) := by decide +kernel
theorem dX9_check_90 : decode cX9_check 90 = .ok (.getfield 29, 3) := by decide +kernel
theorem dX9_check_93 : decode cX9_check 93 = .ok (.getfield 237, 3) := by decide +kernel
theorem dX9_check_96 : decode cX9_check 96 = .ok (.iload_n 2, 1) := by decide +kernel
theorem dX9_check_97 : decode cX9_check 97 = .ok (.aaload, 1) := by decide +kernel
theorem dX9_check_98 : decode cX9_check 98 = .ok (.iload_n 3, 1) := by decide +kernel
theorem dX9_check_99 : decode cX9_check 99 = .ok (.iaload, 1) := by decide +kernel
theorem dX9_check_100 : decode cX9_check 100 = .ok (.istore 4, 2) := by decide +kernel
theorem dX9_check_102 : decode cX9_check 102 = .ok (.iload 4, 2) := by decide +kernel
theorem dX9_check_104 : decode cX9_check 104 = .ok (.sipush 999, 3) := by decide +kernel
theorem dX9_check_107 : decode cX9_check 107 = .ok (.if_icmp .eq 24, 3) := by decide +kernel
theorem dX9_check_110 : decode cX9_check 110 = .ok (.iload 4, 2) := by decide +kernel
theorem dX9_check_112 : decode cX9_check 112 = .ok (.aload_n 0, 1) := by decide +kernel
theorem dX9_check_113 : decode cX9_check 113 = .ok (.getfield 12, 3) := by decide +kernel
theorem dX9_check_116 : decode cX9_check 116 = .ok (.getfield 377, 3) := by decide +kernel
theorem dX9_check_119 : decode cX9_check 119 = .ok (.bipush 6, 2) := by decide +kernel
theorem dX9_check_121 : decode cX9_check 121 = .ok (.iload_n 1, 1) := by decide +kernel
theorem dX9_check_122 : decode cX9_check 122 = .ok (.imul, 1) := by decide +kernel
theorem dX9_check_123 : decode cX9_check 123 = .ok (.iload_n 3, 1) := by decide +kernel
theorem dX9_check_124 : decode cX9_check 124 = .ok (.iadd, 1) := by decide +kernel
theorem dX9_check_125 : decode cX9_check 125 = .ok (.iaload, 1) := by decide +kernel
theorem dX9_check_126 : decode cX9_check 126 = .ok (.if_icmp .eq 5, 3) := by decide +kernel
theorem dX9_check_129 : decode cX9_check 129 = .ok (.iload_n 3, 1) := by decide +kernel
theorem dX9_check_130 : decode cX9_check 130 = .ok (.ireturn, 1) := by decide +kernel
theorem dX9_check_131 : decode cX9_check 131 = .ok (.iinc 3 1, 3) := by decide +kernel
theorem dX9_check_134 : decode cX9_check 134 = .ok (.goto (-51), 3) := by decide +kernel
theorem dX9_check_137 : decode cX9_check 137 = .ok (.bipush 6, 2) := by decide +kernel
theorem dX9_check_139 : decode cX9_check 139 = .ok (.ireturn, 1) := by decide +kernel
def F_X9_check_83  : Nat → Int32 → Int32 → Int32 → eMem → Option (Int32 × eMem)
  | 0, _, _, _, _ => none
  | n + 1, v1, v2, v3, M =>
    if v3 < 6 then
      eG (eIn v2 4) <|
      eG (eIn v3 20) <|
      if (M.1 (151 + v2.toNatClampNeg) v3.toNatClampNeg) = 999 then
        F_X9_check_83 n v1 v2 (v3 + 1) M
      else
        eG (eIn ((6 * v1) + v3) 486) <|
        if (M.1 (151 + v2.toNatClampNeg) v3.toNatClampNeg) = (M.1 53 ((6 * v1) + v3).toNatClampNeg) then
          F_X9_check_83 n v1 v2 (v3 + 1) M
        else
          some (v3, M)
    else
      some (6, M)
set_option maxRecDepth 100000 in
set_option maxHeartbeats 4000000 in
theorem ev_X9_check_83  (q : (Int32 × eMem))  : ∀ (fuel : Nat) (v1 : Int32) (v2 : Int32) (v3 : Int32) (M : eMem), F_X9_check_83 fuel v1 v2 v3 M = some q → Ev layC 2 m_X9_check 83 [some (.ref 0), some (.int v1), some (.int v2), some (.int v3), none] [] M (some (.int q.1), q.2) := by
  intro fuel
  induction fuel with
  | zero => intro v1 v2 v3 M h; rw [F_X9_check_83] at h; cases h
  | succ n ih =>
    intro v1 v2 v3 M h
    rw [F_X9_check_83] at h
    refine Ev.iload_n (pc := 83) dX9_check_83 rfl ?_
    refine Ev.bipush (pc := 84) dX9_check_84 (v := 6) (by decide) ?_
    refine Ev.icmp_ge (pc := 86) (tgt := 137) dX9_check_86 (by decide) (fun c9 => ?_) (fun c9 => ?_)
    · have h := eF h c9
      refine Ev.bipush (pc := 137) dX9_check_137 (v := 6) (by decide) ?_
      obtain rfl := Option.some.inj h
      exact Ev.iret (pc := 139) dX9_check_139 rfl rfl
    · have h := eT h c9
      refine Ev.aload_n (pc := 89) dX9_check_89 rfl ?_
      refine Ev.getR (pc := 90) dX9_check_90 fl_RX9_29 lC_0 rfl ?_
      refine Ev.getR (pc := 93) dX9_check_93 fl_RX9_237 lC_147 rfl ?_
      refine Ev.iload_n (pc := 96) dX9_check_96 rfl ?_
      obtain ⟨g9, h⟩ := eGdB h
      have gg5 := eIn_lt g9
      refine Ev.aaldj (pc := 97) dX9_check_97 (z := 151 + v2.toNatClampNeg) lC_150 (by decide) (eIn_n0 g9) (grC_150 _ gg5) ?_
      refine Ev.iload_n (pc := 98) dX9_check_98 rfl ?_
      obtain ⟨g9, h⟩ := eGdB h
      refine Ev.ialdj (pc := 99) dX9_check_99 (j := v3.toNatClampNeg) (glC_150 _ gg5) g9 rfl ?_
      refine Ev.istore (pc := 100) dX9_check_100 (by decide) rfl rfl ?_
      refine Ev.iload (pc := 102) dX9_check_102 rfl ?_
      refine Ev.sipush (pc := 104) dX9_check_104 (v := 999) (by decide) ?_
      refine Ev.icmp_eq (pc := 107) (tgt := 131) dX9_check_107 (by decide) (fun c9 => ?_) (fun c9 => ?_)
      · have h := eT h c9
        refine Ev.iincv (pc := 131) dX9_check_131 (v := 1) (by decide) rfl (by decide) rfl rfl ?_
        refine Ev.goto (pc := 134) (tgt := 83) dX9_check_134 (by decide) ?_
        exact Ev.fg (ih _ _ _ _ h) (And.intro rfl (And.intro rfl (And.intro rfl (And.intro rfl trivial))))
      · have h := eF h c9
        refine Ev.iload (pc := 110) dX9_check_110 rfl ?_
        refine Ev.aload_n (pc := 112) dX9_check_112 rfl ?_
        refine Ev.getR (pc := 113) dX9_check_113 fl_RX9_12 lC_0 rfl ?_
        refine Ev.getR (pc := 116) dX9_check_116 fl_RX9_377 lC_1 rfl ?_
        refine Ev.bipush (pc := 119) dX9_check_119 (v := 6) (by decide) ?_
        refine Ev.iload_n (pc := 121) dX9_check_121 rfl ?_
        refine Ev.imul (pc := 122) dX9_check_122 ?_
        refine Ev.iload_n (pc := 123) dX9_check_123 rfl ?_
        refine Ev.iadd (pc := 124) dX9_check_124 ?_
        obtain ⟨g9, h⟩ := eGdB h
        refine Ev.ialdj (pc := 125) dX9_check_125 (j := ((6 * v1) + v3).toNatClampNeg) lC_53 g9 rfl ?_
        refine Ev.icmp_eq (pc := 126) (tgt := 131) dX9_check_126 (by decide) (fun c9 => ?_) (fun c9 => ?_)
        · have h := eT h c9
          refine Ev.iincv (pc := 131) dX9_check_131 (v := 1) (by decide) rfl (by decide) rfl rfl ?_
          refine Ev.goto (pc := 134) (tgt := 83) dX9_check_134 (by decide) ?_
          exact Ev.fg (ih _ _ _ _ h) (And.intro rfl (And.intro rfl (And.intro rfl (And.intro rfl trivial))))
        · have h := eF h c9
          refine Ev.iload_n (pc := 129) dX9_check_129 rfl ?_
          obtain rfl := Option.some.inj h
          exact Ev.iret (pc := 130) dX9_check_130 rfl rfl
def F_X9_check (x1 : Int32) (x2 : Int32) (M : eMem) : Option (Int32 × eMem) :=
  (F_X9_isIn x1 81).bind fun q1 =>
  if q1 = 0 then
    (F_X9_found (-1000001) M).bind fun q2 =>
    some (q2.1, q2.2)
  else
    (F_X9_isIn x2 4).bind fun q3 =>
    if q3 = 0 then
      (F_X9_found (-1000001) M).bind fun q9 =>
      some (q9.1, q9.2)
    else
      (F_X8_isClosed x1 M).bind fun q4 =>
      if q4 = 0 then
        (F_X9_found (-1000004) M).bind fun q8 =>
        some (q8.1, q8.2)
      else
        (F_X4_isMissing x2 M).bind fun q5 =>
        if q5 = 0 then
          eG (eIn x2 4) <|
          if (M.1 149 x2.toNatClampNeg) = 6 then
            F_X9_check_83 eFuel x1 x2 0 M
          else
            (F_X9_found (-1000007) M).bind fun q6 =>
            some (q6.1, q6.2)
        else
          (F_X9_found (-1000006) M).bind fun q7 =>
          some (q7.1, q7.2)
set_option maxRecDepth 100000 in
set_option maxHeartbeats 4000000 in
theorem ev_X9_check (x1 : Int32) (x2 : Int32) (M : eMem) (q : (Int32 × eMem)) (h : F_X9_check x1 x2 M = some q) : Ev layC 2 m_X9_check 0 [some (.ref 0), some (.int x1), some (.int x2), none, none] [] M (some (.int q.1), q.2) := by
  rw [F_X9_check] at h
  refine Ev.iload_n (pc := 0) dX9_check_0 rfl ?_
  refine Ev.bipush (pc := 1) dX9_check_1 (v := 81) (by decide) ?_
  refine eBk h (fun q1 hq1 h => ?_)
  refine Ev.callS (pc := 3) (as := [.int x1, .int 81]) (st := []) (z := 0) dX9_check_3 wc_X9_isIn ml_RX9_37 sm_X9_isIn (ev_X9_isIn x1 81 M _ hq1) rfl rfl (by decide) rfl rfl (Nat.le_of_ble_eq_true rfl) ?_
  refine Ev.if_eq (pc := 6) (tgt := 17) dX9_check_6 (by decide) (fun c9 => ?_) (fun c9 => ?_)
  · have h := eT h c9
    refine Ev.aload_n (pc := 17) dX9_check_17 rfl ?_
    refine Ev.ldc (pc := 18) dX9_check_18 ld_RX9_41 ?_
    refine eBk h (fun q2 hq2 h => ?_)
    refine Ev.callV (pc := 20) (as := [.int (-1000001)]) (st := []) (z := 1) dX9_check_20 wc_X9_found ml_RX9_42 im_X9_found se_X9_found lC_0 rfl rfl (ev_X9_found (-1000001) M _ hq2) rfl rfl (by decide) rfl rfl (Nat.le_of_ble_eq_true rfl) ?_
    obtain rfl := Option.some.inj h
    exact Ev.iret (pc := 23) dX9_check_23 rfl rfl
  · have h := eF h c9
    refine Ev.iload_n (pc := 9) dX9_check_9 rfl ?_
    refine Ev.iconst (pc := 10) dX9_check_10 (v := 4) (by decide) ?_
    refine eBk h (fun q3 hq3 h => ?_)
    refine Ev.callS (pc := 11) (as := [.int x2, .int 4]) (st := []) (z := 0) dX9_check_11 wc_X9_isIn ml_RX9_37 sm_X9_isIn (ev_X9_isIn x2 4 M _ hq3) rfl rfl (by decide) rfl rfl (Nat.le_of_ble_eq_true rfl) ?_
    refine Ev.if_ne (pc := 14) (tgt := 24) dX9_check_14 (by decide) (fun c9 => ?_) (fun c9 => ?_)
    · have h := eF h c9
      refine Ev.aload_n (pc := 24) dX9_check_24 rfl ?_
      refine Ev.getR (pc := 25) dX9_check_25 fl_RX9_12 lC_0 rfl ?_
      refine Ev.iload_n (pc := 28) dX9_check_28 rfl ?_
      refine eBk h (fun q4 hq4 h => ?_)
      refine Ev.callV (pc := 29) (as := [.int x1]) (st := []) (z := 0) dX9_check_29 wc_X8_isClosed ml_RX9_374 im_X8_isClosed se_X8_isClosed lC_1 rfl rfl (ev_X8_isClosed x1 M _ hq4) rfl rfl (by decide) rfl rfl (Nat.le_of_ble_eq_true rfl) ?_
      refine Ev.if_ne (pc := 32) (tgt := 42) dX9_check_32 (by decide) (fun c9 => ?_) (fun c9 => ?_)
      · have h := eF h c9
        refine Ev.aload_n (pc := 42) dX9_check_42 rfl ?_
        refine Ev.getR (pc := 43) dX9_check_43 fl_RX9_29 lC_0 rfl ?_
        refine Ev.iload_n (pc := 46) dX9_check_46 rfl ?_
        refine eBk h (fun q5 hq5 h => ?_)
        refine Ev.callV (pc := 47) (as := [.int x2]) (st := []) (z := 0) dX9_check_47 wc_X4_isMissing ml_RX9_230 im_X4_isMissing se_X4_isMissing lC_147 rfl rfl (ev_X4_isMissing x2 M _ hq5) rfl rfl (by decide) rfl rfl (Nat.le_of_ble_eq_true rfl) ?_
        refine Ev.if_eq (pc := 50) (tgt := 60) dX9_check_50 (by decide) (fun c9 => ?_) (fun c9 => ?_)
        · have h := eT h c9
          refine Ev.aload_n (pc := 60) dX9_check_60 rfl ?_
          refine Ev.getR (pc := 61) dX9_check_61 fl_RX9_29 lC_0 rfl ?_
          refine Ev.getR (pc := 64) dX9_check_64 fl_RX9_234 lC_147 rfl ?_
          refine Ev.iload_n (pc := 67) dX9_check_67 rfl ?_
          obtain ⟨g9, h⟩ := eGdB h
          refine Ev.ialdj (pc := 68) dX9_check_68 (j := x2.toNatClampNeg) lC_149 g9 rfl ?_
          refine Ev.bipush (pc := 69) dX9_check_69 (v := 6) (by decide) ?_
          refine Ev.icmp_eq (pc := 71) (tgt := 81) dX9_check_71 (by decide) (fun c9 => ?_) (fun c9 => ?_)
          · have h := eT h c9
            refine Ev.iconst (pc := 81) dX9_check_81 (v := 0) (by decide) ?_
            refine Ev.istore_n (pc := 82) dX9_check_82 (by decide) rfl rfl ?_
            exact Ev.fg (ev_X9_check_83 _ _ _ _ _ _ h) (And.intro rfl (And.intro rfl (And.intro rfl (And.intro rfl trivial))))
          · have h := eF h c9
            refine Ev.aload_n (pc := 74) dX9_check_74 rfl ?_
            refine Ev.ldc (pc := 75) dX9_check_75 ld_RX9_192 ?_
            refine eBk h (fun q6 hq6 h => ?_)
            refine Ev.callV (pc := 77) (as := [.int (-1000007)]) (st := []) (z := 1) dX9_check_77 wc_X9_found ml_RX9_42 im_X9_found se_X9_found lC_0 rfl rfl (ev_X9_found (-1000007) M _ hq6) rfl rfl (by decide) rfl rfl (Nat.le_of_ble_eq_true rfl) ?_
            obtain rfl := Option.some.inj h
            exact Ev.iret (pc := 80) dX9_check_80 rfl rfl
        · have h := eF h c9
          refine Ev.aload_n (pc := 53) dX9_check_53 rfl ?_
          refine Ev.ldc (pc := 54) dX9_check_54 ld_RX9_233 ?_
          refine eBk h (fun q7 hq7 h => ?_)
          refine Ev.callV (pc := 56) (as := [.int (-1000006)]) (st := []) (z := 1) dX9_check_56 wc_X9_found ml_RX9_42 im_X9_found se_X9_found lC_0 rfl rfl (ev_X9_found (-1000006) M _ hq7) rfl rfl (by decide) rfl rfl (Nat.le_of_ble_eq_true rfl) ?_
          obtain rfl := Option.some.inj h
          exact Ev.iret (pc := 59) dX9_check_59 rfl rfl
      · have h := eT h c9
        refine Ev.aload_n (pc := 35) dX9_check_35 rfl ?_
        refine Ev.ldc (pc := 36) dX9_check_36 ld_RX9_108 ?_
        refine eBk h (fun q8 hq8 h => ?_)
        refine Ev.callV (pc := 38) (as := [.int (-1000004)]) (st := []) (z := 1) dX9_check_38 wc_X9_found ml_RX9_42 im_X9_found se_X9_found lC_0 rfl rfl (ev_X9_found (-1000004) M _ hq8) rfl rfl (by decide) rfl rfl (Nat.le_of_ble_eq_true rfl) ?_
        obtain rfl := Option.some.inj h
        exact Ev.iret (pc := 41) dX9_check_41 rfl rfl
    · have h := eT h c9
      refine Ev.aload_n (pc := 17) dX9_check_17 rfl ?_
      refine Ev.ldc (pc := 18) dX9_check_18 ld_RX9_41 ?_
      refine eBk h (fun q9 hq9 h => ?_)
      refine Ev.callV (pc := 20) (as := [.int (-1000001)]) (st := []) (z := 1) dX9_check_20 wc_X9_found ml_RX9_42 im_X9_found se_X9_found lC_0 rfl rfl (ev_X9_found (-1000001) M _ hq9) rfl rfl (by decide) rfl rfl (Nat.le_of_ble_eq_true rfl) ?_
      obtain rfl := Option.some.inj h
      exact Ev.iret (pc := 23) dX9_check_23 rfl rfl
theorem dX10_isCloud_0 : decode cX10_isCloud 0 = .ok (.aload_n 0, 1) := by decide +kernel
theorem dX10_isCloud_1 : decode cX10_isCloud 1 = .ok (.getfield 20, 3) := by decide +kernel
theorem dX10_isCloud_4 : decode cX10_isCloud 4 = .ok (.iload_n 1, 1) := by decide +kernel
theorem dX10_isCloud_5 : decode cX10_isCloud 5 = .ok (.iaload, 1) := by decide +kernel
theorem dX10_isCloud_6 : decode cX10_isCloud 6 = .ok (.bipush 32, 2) := by decide +kernel
theorem dX10_isCloud_8 : decode cX10_isCloud 8 = .ok (.if_icmp .ne 24, 3) := by decide +kernel
theorem dX10_isCloud_11 : decode cX10_isCloud 11 = .ok (.aload_n 0, 1) := by decide +kernel
theorem dX10_isCloud_12 : decode cX10_isCloud 12 = .ok (.getfield 26, 3) := by decide +kernel
theorem dX10_isCloud_15 : decode cX10_isCloud 15 = .ok (.bipush 20, 2) := by decide +kernel
theorem dX10_isCloud_17 : decode cX10_isCloud 17 = .ok (.iload_n 1, 1) := by decide +kernel
theorem dX10_isCloud_18 : decode cX10_isCloud 18 = .ok (.imul, 1) := by decide +kernel
theorem dX10_isCloud_19 : decode cX10_isCloud 19 = .ok (.iload_n 2, 1) := by decide +kernel
theorem dX10_isCloud_20 : decode cX10_isCloud 20 = .ok (.iadd, 1) := by decide +kernel
theorem dX10_isCloud_21 : decode cX10_isCloud 21 = .ok (.iaload, 1) := by decide +kernel
theorem dX10_isCloud_22 : decode cX10_isCloud 22 = .ok (.sipush 999, 3) := by decide +kernel
theorem dX10_isCloud_25 : decode cX10_isCloud 25 = .ok (.if_icmp .ne 7, 3) := by decide +kernel
theorem dX10_isCloud_28 : decode cX10_isCloud 28 = .ok (.iconst 1, 1) := by decide +kernel
theorem dX10_isCloud_29 : decode cX10_isCloud 29 = .ok (.goto 4, 3) := by decide +kernel
theorem dX10_isCloud_32 : decode cX10_isCloud 32 = .ok (.iconst 0, 1) := by decide +kernel
theorem dX10_isCloud_33 : decode cX10_isCloud 33 = .ok (.ireturn, 1) := by decide +kernel
def F_X10_isCloud (x1 : Int32) (x2 : Int32) (M : eMem) : Option Int32 :=
  eG (eIn x1 4) <|
  if (M.1 4 x1.toNatClampNeg) = 32 then
    eG (eIn ((20 * x1) + x2) 80) <|
    if (M.1 6 ((20 * x1) + x2).toNatClampNeg) = 999 then
      some 1
    else
      some 0
  else
    some 0
set_option maxRecDepth 100000 in
set_option maxHeartbeats 4000000 in
theorem ev_X10_isCloud (x1 : Int32) (x2 : Int32) (M : eMem) (q : Int32) (h : F_X10_isCloud x1 x2 M = some q) : Ev layR 0 m_X10_isCloud 0 [some (.ref 0), some (.int x1), some (.int x2)] [] M (some (.int q), M) := by
  rw [F_X10_isCloud] at h
  refine Ev.aload_n (pc := 0) dX10_isCloud_0 rfl ?_
  refine Ev.getR (pc := 1) dX10_isCloud_1 fl_RX10_20 lR_0 rfl ?_
  refine Ev.iload_n (pc := 4) dX10_isCloud_4 rfl ?_
  obtain ⟨g9, h⟩ := eGdB h
  refine Ev.ialdj (pc := 5) dX10_isCloud_5 (j := x1.toNatClampNeg) lR_4 g9 rfl ?_
  refine Ev.bipush (pc := 6) dX10_isCloud_6 (v := 32) (by decide) ?_
  refine Ev.icmp_ne (pc := 8) (tgt := 32) dX10_isCloud_8 (by decide) (fun c9 => ?_) (fun c9 => ?_)
  · have h := eF h c9
    refine Ev.iconst (pc := 32) dX10_isCloud_32 (v := 0) (by decide) ?_
    obtain rfl := Option.some.inj h
    exact Ev.iret (pc := 33) dX10_isCloud_33 rfl rfl
  · have h := eT h c9
    refine Ev.aload_n (pc := 11) dX10_isCloud_11 rfl ?_
    refine Ev.getR (pc := 12) dX10_isCloud_12 fl_RX10_26 lR_0 rfl ?_
    refine Ev.bipush (pc := 15) dX10_isCloud_15 (v := 20) (by decide) ?_
    refine Ev.iload_n (pc := 17) dX10_isCloud_17 rfl ?_
    refine Ev.imul (pc := 18) dX10_isCloud_18 ?_
    refine Ev.iload_n (pc := 19) dX10_isCloud_19 rfl ?_
    refine Ev.iadd (pc := 20) dX10_isCloud_20 ?_
    obtain ⟨g9, h⟩ := eGdB h
    refine Ev.ialdj (pc := 21) dX10_isCloud_21 (j := ((20 * x1) + x2).toNatClampNeg) lR_6 g9 rfl ?_
    refine Ev.sipush (pc := 22) dX10_isCloud_22 (v := 999) (by decide) ?_
    refine Ev.icmp_ne (pc := 25) (tgt := 32) dX10_isCloud_25 (by decide) (fun c9 => ?_) (fun c9 => ?_)
    · have h := eF h c9
      refine Ev.iconst (pc := 32) dX10_isCloud_32 (v := 0) (by decide) ?_
      obtain rfl := Option.some.inj h
      exact Ev.iret (pc := 33) dX10_isCloud_33 rfl rfl
    · have h := eT h c9
      refine Ev.iconst (pc := 28) dX10_isCloud_28 (v := 1) (by decide) ?_
      refine Ev.goto (pc := 29) (tgt := 33) dX10_isCloud_29 (by decide) ?_
      obtain rfl := Option.some.inj h
      exact Ev.iret (pc := 33) dX10_isCloud_33 rfl rfl
theorem dX10_check_0 : decode cX10_check 0 = .ok (.iload_n 1, 1) := by decide +kernel
theorem dX10_check_1 : decode cX10_check 1 = .ok (.iconst 0, 1) := by decide +kernel
theorem dX10_check_2 : decode cX10_check 2 = .ok (.bipush 80, 2) := by decide +kernel
theorem dX10_check_4 : decode cX10_check 4 = .ok (.invokestatic 58, 3) := by decide +kernel
theorem dX10_check_7 : decode cX10_check 7 = .ok (.ifCond .eq 10, 3) := by decide +kernel
theorem dX10_check_10 : decode cX10_check 10 = .ok (.iload_n 2, 1) := by decide +kernel
theorem dX10_check_11 : decode cX10_check 11 = .ok (.invokestatic 134, 3) := by decide +kernel
theorem dX10_check_14 : decode cX10_check 14 = .ok (.ifCond .ne 9, 3) := by decide +kernel
theorem dX10_check_17 : decode cX10_check 17 = .ok (.aload_n 0, 1) := by decide +kernel
theorem dX10_check_18 : decode cX10_check 18 = .ok (.iconst 1, 1) := by decide +kernel
theorem dX10_check_19 : decode cX10_check 19 = .ok (.invokevirtual 66, 3) := by decide +kernel
theorem dX10_check_22 : decode cX10_check 22 = .ok (.ireturn, 1) := by decide +kernel
theorem dX10_check_23 : decode cX10_check 23 = .ok (.aload_n 0, 1) := by decide +kernel
theorem dX10_check_24 : decode cX10_check 24 = .ok (.iload_n 1, 1) := by decide +kernel
theorem dX10_check_25 : decode cX10_check 25 = .ok (.invokevirtual 292, 3) := by decide +kernel
theorem dX10_check_28 : decode cX10_check 28 = .ok (.ifCond .ne 9, 3) := by decide +kernel
theorem dX10_check_31 : decode cX10_check 31 = .ok (.aload_n 0, 1) := by decide +kernel
theorem dX10_check_32 : decode cX10_check 32 = .ok (.iconst 4, 1) := by decide +kernel
theorem dX10_check_33 : decode cX10_check 33 = .ok (.invokevirtual 66, 3) := by decide +kernel
theorem dX10_check_36 : decode cX10_check 36 = .ok (.ireturn, 1) := by decide +kernel
theorem dX10_check_37 : decode cX10_check 37 = .ok (.aload_n 0, 1) := by decide +kernel
theorem dX10_check_38 : decode cX10_check 38 = .ok (.getfield 20, 3) := by decide +kernel
theorem dX10_check_41 : decode cX10_check 41 = .ok (.iload_n 2, 1) := by decide +kernel
theorem dX10_check_42 : decode cX10_check 42 = .ok (.iaload, 1) := by decide +kernel
theorem dX10_check_43 : decode cX10_check 43 = .ok (.ifCond .ne 10, 3) := by decide +kernel
theorem dX10_check_46 : decode cX10_check 46 = .ok (.aload_n 0, 1) := by decide +kernel
theorem dX10_check_47 : decode cX10_check 47 = .ok (.bipush 6, 2) := by decide +kernel
theorem dX10_check_49 : decode cX10_check 49 = .ok (.invokevirtual 66, 3) := by decide +kernel
theorem dX10_check_52 : decode cX10_check 52 = .ok (.ireturn, 1) := by decide +kernel
theorem dX10_check_53 : decode cX10_check 53 = .ok (.aload_n 0, 1) := by decide +kernel
theorem dX10_check_54 : decode cX10_check 54 = .ok (.getfield 23, 3) := by decide +kernel
theorem dX10_check_57 : decode cX10_check 57 = .ok (.iload_n 2, 1) := by decide +kernel
theorem dX10_check_58 : decode cX10_check 58 = .ok (.iaload, 1) := by decide +kernel
theorem dX10_check_59 : decode cX10_check 59 = .ok (.bipush 6, 2) := by decide +kernel
theorem dX10_check_61 : decode cX10_check 61 = .ok (.if_icmp .eq 10, 3) := by decide +kernel
theorem dX10_check_64 : decode cX10_check 64 = .ok (.aload_n 0, 1) := by decide +kernel
theorem dX10_check_65 : decode cX10_check 65 = .ok (.bipush 7, 2) := by decide +kernel
theorem dX10_check_67 : decode cX10_check 67 = .ok (.invokevirtual 66, 3) := by decide +kernel
theorem dX10_check_70 : decode cX10_check 70 = .ok (.ireturn, 1) := by decide +kernel
theorem dX10_check_71 : decode cX10_check 71 = .ok (.iconst 0, 1) := by decide +kernel
theorem dX10_check_72 : decode cX10_check 72 = .ok (.istore_n 3, 1) := by decide +kernel
theorem dX10_check_73 : decode cX10_check 73 = .ok (.iload_n 3, 1) := by decide +kernel
theorem dX10_check_74 : decode cX10_check 74 = .ok (.bipush 6, 2) := by decide +kernel
theorem dX10_check_76 : decode cX10_check 76 = .ok (.if_icmp .ge 47, 3) := by decide +kernel
theorem dX10_check_79 : decode cX10_check 79 = .ok (.aload_n 0, 1) := by decide +kernel
theorem dX10_check_80 : decode cX10_check 80 = .ok (.iload_n 2, 1) := by decide +kernel
theorem dX10_check_81 : decode cX10_check 81 = .ok (.iload_n 3, 1) := by decide +kernel
theorem dX10_check_82 : decode cX10_check 82 = .ok (.invokevirtual 295, 3) := by decide +kernel
theorem dX10_check_85 : decode cX10_check 85 = .ok (.ifCond .ne 32, 3) := by decide +kernel
theorem dX10_check_88 : decode cX10_check 88 = .ok (.aload_n 0, 1) := by decide +kernel
theorem dX10_check_89 : decode cX10_check 89 = .ok (.getfield 26, 3) := by decide +kernel
theorem dX10_check_92 : decode cX10_check 92 = .ok (.bipush 20, 2) := by decide +kernel
theorem dX10_check_94 : decode cX10_check 94 = .ok (.iload_n 2, 1) := by decide +kernel
theorem dX10_check_95 : decode cX10_check 95 = .ok (.imul, 1) := by decide +kernel
theorem dX10_check_96 : decode cX10_check 96 = .ok (.iload_n 3, 1) := by decide +kernel
theorem dX10_check_97 : decode cX10_check 97 = .ok (.iadd, 1) := by decide +kernel
theorem dX10_check_98 : decode cX10_check 98 = .ok (.iaload, 1) := by decide +kernel
theorem dX10_check_99 : decode cX10_check 99 = .ok (.aload_n 0, 1) := by decide +kernel
theorem dX10_check_100 : decode cX10_check 100 = .ok (.getfield 7, 3) := by decide +kernel
theorem dX10_check_103 : decode cX10_check 103 = .ok (.sipush 1278, 3) := by decide +kernel
theorem dX10_check_106 : decode cX10_check 106 = .ok (.bipush 6, 2) := by decide +kernel
theorem dX10_check_108 : decode cX10_check 108 = .ok (.iload_n 1, 1) := by decide +kernel
theorem dX10_check_109 : decode cX10_check 109 = .ok (.imul, 1) := by decide +kernel
theorem dX10_check_110 : decode cX10_check 110 = .ok (.iadd, 1) := by decide +kernel
theorem dX10_check_111 : decode cX10_check 111 = .ok (.iload_n 3, 1) := by decide +kernel
theorem dX10_check_112 : decode cX10_check 112 = .ok (.iadd, 1) := by decide +kernel
theorem dX10_check_113 : decode cX10_check 113 = .ok (.iaload, 1) := by decide +kernel
theorem dX10_check_114 : decode cX10_check 114 = .ok (.if_icmp .ne 9, 3) := by decide +kernel
theorem dX10_check_117 : decode cX10_check 117 = .ok (.iinc 3 1, 3) := by decide +kernel
theorem dX10_check_120 : decode cX10_check 120 = .ok (.goto (-47), 3) := by decide +kernel
theorem dX10_check_123 : decode cX10_check 123 = .ok (.iload_n 3, 1) := by decide +kernel
theorem dX10_check_124 : decode cX10_check 124 = .ok (.ireturn, 1) := by decide +kernel
def F_X10_check_73  : Nat → Int32 → Int32 → Int32 → eMem → Option (Int32 × eMem)
  | 0, _, _, _, _ => none
  | n + 1, v1, v2, v3, M =>
    if v3 < 6 then
      (F_X10_isCloud v2 v3 M).bind fun q5 =>
      if q5 = 0 then
        eG (eIn ((20 * v2) + v3) 80) <|
        eG (eIn ((1278 + (6 * v1)) + v3) 2900) <|
        if (M.1 6 ((20 * v2) + v3).toNatClampNeg) = (M.1 1 ((1278 + (6 * v1)) + v3).toNatClampNeg) then
          F_X10_check_73 n v1 v2 (v3 + 1) M
        else
          some (v3, M)
      else
        F_X10_check_73 n v1 v2 (v3 + 1) M
    else
      some (v3, M)
set_option maxRecDepth 100000 in
set_option maxHeartbeats 4000000 in
theorem ev_X10_check_73  (q : (Int32 × eMem))  : ∀ (fuel : Nat) (v1 : Int32) (v2 : Int32) (v3 : Int32) (M : eMem), F_X10_check_73 fuel v1 v2 v3 M = some q → Ev layR 2 m_X10_check 73 [some (.ref 0), some (.int v1), some (.int v2), some (.int v3)] [] M (some (.int q.1), q.2) := by
  intro fuel
  induction fuel with
  | zero => intro v1 v2 v3 M h; rw [F_X10_check_73] at h; cases h
  | succ n ih =>
    intro v1 v2 v3 M h
    rw [F_X10_check_73] at h
    refine Ev.iload_n (pc := 73) dX10_check_73 rfl ?_
    refine Ev.bipush (pc := 74) dX10_check_74 (v := 6) (by decide) ?_
    refine Ev.icmp_ge (pc := 76) (tgt := 123) dX10_check_76 (by decide) (fun c9 => ?_) (fun c9 => ?_)
    · have h := eF h c9
      refine Ev.iload_n (pc := 123) dX10_check_123 rfl ?_
      obtain rfl := Option.some.inj h
      exact Ev.iret (pc := 124) dX10_check_124 rfl rfl
    · have h := eT h c9
      refine Ev.aload_n (pc := 79) dX10_check_79 rfl ?_
      refine Ev.iload_n (pc := 80) dX10_check_80 rfl ?_
      refine Ev.iload_n (pc := 81) dX10_check_81 rfl ?_
      refine eBk h (fun q5 hq5 h => ?_)
      refine Ev.callV (pc := 82) (as := [.int v2, .int v3]) (st := []) (z := 0) dX10_check_82 wc_X10_isCloud ml_RX10_295 im_X10_isCloud se_X10_isCloud lR_0 rfl rfl (ev_X10_isCloud v2 v3 M _ hq5) rfl rfl (by decide) rfl rfl (Nat.le_of_ble_eq_true rfl) ?_
      refine Ev.if_ne (pc := 85) (tgt := 117) dX10_check_85 (by decide) (fun c9 => ?_) (fun c9 => ?_)
      · have h := eF h c9
        refine Ev.iincv (pc := 117) dX10_check_117 (v := 1) (by decide) rfl (by decide) rfl rfl ?_
        refine Ev.goto (pc := 120) (tgt := 73) dX10_check_120 (by decide) ?_
        exact Ev.fg (ih _ _ _ _ h) (And.intro rfl (And.intro rfl (And.intro rfl (And.intro rfl trivial))))
      · have h := eT h c9
        refine Ev.aload_n (pc := 88) dX10_check_88 rfl ?_
        refine Ev.getR (pc := 89) dX10_check_89 fl_RX10_26 lR_0 rfl ?_
        refine Ev.bipush (pc := 92) dX10_check_92 (v := 20) (by decide) ?_
        refine Ev.iload_n (pc := 94) dX10_check_94 rfl ?_
        refine Ev.imul (pc := 95) dX10_check_95 ?_
        refine Ev.iload_n (pc := 96) dX10_check_96 rfl ?_
        refine Ev.iadd (pc := 97) dX10_check_97 ?_
        obtain ⟨g9, h⟩ := eGdB h
        refine Ev.ialdj (pc := 98) dX10_check_98 (j := ((20 * v2) + v3).toNatClampNeg) lR_6 g9 rfl ?_
        refine Ev.aload_n (pc := 99) dX10_check_99 rfl ?_
        refine Ev.getR (pc := 100) dX10_check_100 fl_RX10_7 lR_0 rfl ?_
        refine Ev.sipush (pc := 103) dX10_check_103 (v := 1278) (by decide) ?_
        refine Ev.bipush (pc := 106) dX10_check_106 (v := 6) (by decide) ?_
        refine Ev.iload_n (pc := 108) dX10_check_108 rfl ?_
        refine Ev.imul (pc := 109) dX10_check_109 ?_
        refine Ev.iadd (pc := 110) dX10_check_110 ?_
        refine Ev.iload_n (pc := 111) dX10_check_111 rfl ?_
        refine Ev.iadd (pc := 112) dX10_check_112 ?_
        obtain ⟨g9, h⟩ := eGdB h
        refine Ev.ialdj (pc := 113) dX10_check_113 (j := ((1278 + (6 * v1)) + v3).toNatClampNeg) lR_1 g9 rfl ?_
        refine Ev.icmp_ne (pc := 114) (tgt := 123) dX10_check_114 (by decide) (fun c9 => ?_) (fun c9 => ?_)
        · have h := eF h c9
          refine Ev.iload_n (pc := 123) dX10_check_123 rfl ?_
          obtain rfl := Option.some.inj h
          exact Ev.iret (pc := 124) dX10_check_124 rfl rfl
        · have h := eT h c9
          refine Ev.iincv (pc := 117) dX10_check_117 (v := 1) (by decide) rfl (by decide) rfl rfl ?_
          refine Ev.goto (pc := 120) (tgt := 73) dX10_check_120 (by decide) ?_
          exact Ev.fg (ih _ _ _ _ h) (And.intro rfl (And.intro rfl (And.intro rfl (And.intro rfl trivial))))
def F_X10_check (x1 : Int32) (x2 : Int32) (M : eMem) : Option (Int32 × eMem) :=
  (F_X10_in x1 0 80).bind fun q1 =>
  if q1 = 0 then
    (F_X10_finding 1 M).bind fun q2 =>
    some (q2.1, q2.2)
  else
    (F_X10_isSheet x2).bind fun q3 =>
    if q3 = 0 then
      (F_X10_finding 1 M).bind fun q9 =>
      some (q9.1, q9.2)
    else
      (F_X10_isClosed x1 M).bind fun q4 =>
      if q4 = 0 then
        (F_X10_finding 4 M).bind fun q8 =>
        some (q8.1, q8.2)
      else
        eG (eIn x2 4) <|
        if (M.1 4 x2.toNatClampNeg) = 0 then
          (F_X10_finding 6 M).bind fun q7 =>
          some (q7.1, q7.2)
        else
          eG (eIn x2 4) <|
          if (M.1 5 x2.toNatClampNeg) = 6 then
            F_X10_check_73 eFuel x1 x2 0 M
          else
            (F_X10_finding 7 M).bind fun q6 =>
            some (q6.1, q6.2)
set_option maxRecDepth 100000 in
set_option maxHeartbeats 4000000 in
theorem ev_X10_check (x1 : Int32) (x2 : Int32) (M : eMem) (q : (Int32 × eMem)) (h : F_X10_check x1 x2 M = some q) : Ev layR 2 m_X10_check 0 [some (.ref 0), some (.int x1), some (.int x2), none] [] M (some (.int q.1), q.2) := by
  rw [F_X10_check] at h
  refine Ev.iload_n (pc := 0) dX10_check_0 rfl ?_
  refine Ev.iconst (pc := 1) dX10_check_1 (v := 0) (by decide) ?_
  refine Ev.bipush (pc := 2) dX10_check_2 (v := 80) (by decide) ?_
  refine eBk h (fun q1 hq1 h => ?_)
  refine Ev.callS (pc := 4) (as := [.int x1, .int 0, .int 80]) (st := []) (z := 0) dX10_check_4 wc_X10_in ml_RX10_58 sm_X10_in (ev_X10_in x1 0 80 M _ hq1) rfl rfl (by decide) rfl rfl (Nat.le_of_ble_eq_true rfl) ?_
  refine Ev.if_eq (pc := 7) (tgt := 17) dX10_check_7 (by decide) (fun c9 => ?_) (fun c9 => ?_)
  · have h := eT h c9
    refine Ev.aload_n (pc := 17) dX10_check_17 rfl ?_
    refine Ev.iconst (pc := 18) dX10_check_18 (v := 1) (by decide) ?_
    refine eBk h (fun q2 hq2 h => ?_)
    refine Ev.callV (pc := 19) (as := [.int 1]) (st := []) (z := 0) dX10_check_19 wc_X10_finding ml_RX10_66 im_X10_finding se_X10_finding lR_0 rfl rfl (ev_X10_finding 1 M _ hq2) rfl rfl (by decide) rfl rfl (Nat.le_of_ble_eq_true rfl) ?_
    obtain rfl := Option.some.inj h
    exact Ev.iret (pc := 22) dX10_check_22 rfl rfl
  · have h := eF h c9
    refine Ev.iload_n (pc := 10) dX10_check_10 rfl ?_
    refine eBk h (fun q3 hq3 h => ?_)
    refine Ev.callS (pc := 11) (as := [.int x2]) (st := []) (z := 0) dX10_check_11 wc_X10_isSheet ml_RX10_134 sm_X10_isSheet (ev_X10_isSheet x2 M _ hq3) rfl rfl (by decide) rfl rfl (Nat.le_of_ble_eq_true rfl) ?_
    refine Ev.if_ne (pc := 14) (tgt := 23) dX10_check_14 (by decide) (fun c9 => ?_) (fun c9 => ?_)
    · have h := eF h c9
      refine Ev.aload_n (pc := 23) dX10_check_23 rfl ?_
      refine Ev.iload_n (pc := 24) dX10_check_24 rfl ?_
      refine eBk h (fun q4 hq4 h => ?_)
      refine Ev.callV (pc := 25) (as := [.int x1]) (st := []) (z := 0) dX10_check_25 wc_X10_isClosed ml_RX10_292 im_X10_isClosed se_X10_isClosed lR_0 rfl rfl (ev_X10_isClosed x1 M _ hq4) rfl rfl (by decide) rfl rfl (Nat.le_of_ble_eq_true rfl) ?_
      refine Ev.if_ne (pc := 28) (tgt := 37) dX10_check_28 (by decide) (fun c9 => ?_) (fun c9 => ?_)
      · have h := eF h c9
        refine Ev.aload_n (pc := 37) dX10_check_37 rfl ?_
        refine Ev.getR (pc := 38) dX10_check_38 fl_RX10_20 lR_0 rfl ?_
        refine Ev.iload_n (pc := 41) dX10_check_41 rfl ?_
        obtain ⟨g9, h⟩ := eGdB h
        refine Ev.ialdj (pc := 42) dX10_check_42 (j := x2.toNatClampNeg) lR_4 g9 rfl ?_
        refine Ev.if_ne (pc := 43) (tgt := 53) dX10_check_43 (by decide) (fun c9 => ?_) (fun c9 => ?_)
        · have h := eF h c9
          refine Ev.aload_n (pc := 53) dX10_check_53 rfl ?_
          refine Ev.getR (pc := 54) dX10_check_54 fl_RX10_23 lR_0 rfl ?_
          refine Ev.iload_n (pc := 57) dX10_check_57 rfl ?_
          obtain ⟨g9, h⟩ := eGdB h
          refine Ev.ialdj (pc := 58) dX10_check_58 (j := x2.toNatClampNeg) lR_5 g9 rfl ?_
          refine Ev.bipush (pc := 59) dX10_check_59 (v := 6) (by decide) ?_
          refine Ev.icmp_eq (pc := 61) (tgt := 71) dX10_check_61 (by decide) (fun c9 => ?_) (fun c9 => ?_)
          · have h := eT h c9
            refine Ev.iconst (pc := 71) dX10_check_71 (v := 0) (by decide) ?_
            refine Ev.istore_n (pc := 72) dX10_check_72 (by decide) rfl rfl ?_
            exact Ev.fg (ev_X10_check_73 _ _ _ _ _ _ h) (And.intro rfl (And.intro rfl (And.intro rfl (And.intro rfl trivial))))
          · have h := eF h c9
            refine Ev.aload_n (pc := 64) dX10_check_64 rfl ?_
            refine Ev.bipush (pc := 65) dX10_check_65 (v := 7) (by decide) ?_
            refine eBk h (fun q6 hq6 h => ?_)
            refine Ev.callV (pc := 67) (as := [.int 7]) (st := []) (z := 0) dX10_check_67 wc_X10_finding ml_RX10_66 im_X10_finding se_X10_finding lR_0 rfl rfl (ev_X10_finding 7 M _ hq6) rfl rfl (by decide) rfl rfl (Nat.le_of_ble_eq_true rfl) ?_
            obtain rfl := Option.some.inj h
            exact Ev.iret (pc := 70) dX10_check_70 rfl rfl
        · have h := eT h c9
          refine Ev.aload_n (pc := 46) dX10_check_46 rfl ?_
          refine Ev.bipush (pc := 47) dX10_check_47 (v := 6) (by decide) ?_
          refine eBk h (fun q7 hq7 h => ?_)
          refine Ev.callV (pc := 49) (as := [.int 6]) (st := []) (z := 0) dX10_check_49 wc_X10_finding ml_RX10_66 im_X10_finding se_X10_finding lR_0 rfl rfl (ev_X10_finding 6 M _ hq7) rfl rfl (by decide) rfl rfl (Nat.le_of_ble_eq_true rfl) ?_
          obtain rfl := Option.some.inj h
          exact Ev.iret (pc := 52) dX10_check_52 rfl rfl
      · have h := eT h c9
        refine Ev.aload_n (pc := 31) dX10_check_31 rfl ?_
        refine Ev.iconst (pc := 32) dX10_check_32 (v := 4) (by decide) ?_
        refine eBk h (fun q8 hq8 h => ?_)
        refine Ev.callV (pc := 33) (as := [.int 4]) (st := []) (z := 0) dX10_check_33 wc_X10_finding ml_RX10_66 im_X10_finding se_X10_finding lR_0 rfl rfl (ev_X10_finding 4 M _ hq8) rfl rfl (by decide) rfl rfl (Nat.le_of_ble_eq_true rfl) ?_
        obtain rfl := Option.some.inj h
        exact Ev.iret (pc := 36) dX10_check_36 rfl rfl
    · have h := eT h c9
      refine Ev.aload_n (pc := 17) dX10_check_17 rfl ?_
      refine Ev.iconst (pc := 18) dX10_check_18 (v := 1) (by decide) ?_
      refine eBk h (fun q9 hq9 h => ?_)
      refine Ev.callV (pc := 19) (as := [.int 1]) (st := []) (z := 0) dX10_check_19 wc_X10_finding ml_RX10_66 im_X10_finding se_X10_finding lR_0 rfl rfl (ev_X10_finding 1 M _ hq9) rfl rfl (by decide) rfl rfl (Nat.le_of_ble_eq_true rfl) ?_
      obtain rfl := Option.some.inj h
      exact Ev.iret (pc := 22) dX10_check_22 rfl rfl
theorem dX9_known_0 : decode cX9_known 0 = .ok (.iload_n 1, 1) := by decide +kernel
theorem dX9_known_1 : decode cX9_known 1 = .ok (.iconst 0, 1) := by decide +kernel
theorem dX9_known_2 : decode cX9_known 2 = .ok (.sipush 1943, 3) := by decide +kernel
theorem dX9_known_5 : decode cX9_known 5 = .ok (.invokestatic 55, 3) := by decide +kernel
theorem dX9_known_8 : decode cX9_known 8 = .ok (.ifCond .ne 10, 3) := by decide +kernel
theorem dX9_known_11 : decode cX9_known 11 = .ok (.aload_n 0, 1) := by decide +kernel
theorem dX9_known_12 : decode cX9_known 12 = .ok (.ldc 41, 2) := by decide +kernel
theorem dX9_known_14 : decode cX9_known 14 = .ok (.invokevirtual 42, 3) := by decide +kernel
theorem dX9_known_17 : decode cX9_known 17 = .ok (.ireturn, 1) := by decide +kernel
theorem dX9_known_18 : decode cX9_known 18 = .ok (.aload_n 0, 1) := by decide +kernel
theorem dX9_known_19 : decode cX9_known 19 = .ok (.getfield 12, 3) := by decide +kernel
theorem dX9_known_22 : decode cX9_known 22 = .ok (.getfield 212, 3) := by decide +kernel
theorem dX9_known_25 : decode cX9_known 25 = .ok (.iload_n 1, 1) := by decide +kernel
theorem dX9_known_26 : decode cX9_known 26 = .ok (.invokevirtual 380, 3) := by decide +kernel
theorem dX9_known_29 : decode cX9_known 29 = .ok (.ireturn, 1) := by decide +kernel
def F_X9_known (x1 : Int32) (M : eMem) : Option (Int32 × eMem) :=
  (F_X9_isBetween x1 0 1943).bind fun q1 =>
  if q1 = 0 then
    (F_X9_found (-1000001) M).bind fun q3 =>
    some (q3.1, q3.2)
  else
    (F_X1_knownBy x1 M).bind fun q2 =>
    some (q2, M)
set_option maxRecDepth 100000 in
set_option maxHeartbeats 4000000 in
theorem ev_X9_known (x1 : Int32) (M : eMem) (q : (Int32 × eMem)) (h : F_X9_known x1 M = some q) : Ev layC 2 m_X9_known 0 [some (.ref 0), some (.int x1)] [] M (some (.int q.1), q.2) := by
  rw [F_X9_known] at h
  refine Ev.iload_n (pc := 0) dX9_known_0 rfl ?_
  refine Ev.iconst (pc := 1) dX9_known_1 (v := 0) (by decide) ?_
  refine Ev.sipush (pc := 2) dX9_known_2 (v := 1943) (by decide) ?_
  refine eBk h (fun q1 hq1 h => ?_)
  refine Ev.callS (pc := 5) (as := [.int x1, .int 0, .int 1943]) (st := []) (z := 0) dX9_known_5 wc_X9_isBetween ml_RX9_55 sm_X9_isBetween (ev_X9_isBetween x1 0 1943 M _ hq1) rfl rfl (by decide) rfl rfl (Nat.le_of_ble_eq_true rfl) ?_
  refine Ev.if_ne (pc := 8) (tgt := 18) dX9_known_8 (by decide) (fun c9 => ?_) (fun c9 => ?_)
  · have h := eF h c9
    refine Ev.aload_n (pc := 18) dX9_known_18 rfl ?_
    refine Ev.getR (pc := 19) dX9_known_19 fl_RX9_12 lC_0 rfl ?_
    refine Ev.getR (pc := 22) dX9_known_22 fl_RX9_212 lC_1 rfl ?_
    refine Ev.iload_n (pc := 25) dX9_known_25 rfl ?_
    refine eBk h (fun q2 hq2 h => ?_)
    refine Ev.callV (pc := 26) (as := [.int x1]) (st := []) (z := 2) dX9_known_26 wc_X1_knownBy ml_RX9_380 im_X1_knownBy se_X1_knownBy lC_29 rfl rfl (ev_X1_knownBy x1 M _ hq2) rfl rfl (by decide) rfl rfl (Nat.le_of_ble_eq_true rfl) ?_
    obtain rfl := Option.some.inj h
    exact Ev.iret (pc := 29) dX9_known_29 rfl rfl
  · have h := eT h c9
    refine Ev.aload_n (pc := 11) dX9_known_11 rfl ?_
    refine Ev.ldc (pc := 12) dX9_known_12 ld_RX9_41 ?_
    refine eBk h (fun q3 hq3 h => ?_)
    refine Ev.callV (pc := 14) (as := [.int (-1000001)]) (st := []) (z := 1) dX9_known_14 wc_X9_found ml_RX9_42 im_X9_found se_X9_found lC_0 rfl rfl (ev_X9_found (-1000001) M _ hq3) rfl rfl (by decide) rfl rfl (Nat.le_of_ble_eq_true rfl) ?_
    obtain rfl := Option.some.inj h
    exact Ev.iret (pc := 17) dX9_known_17 rfl rfl
theorem dX10_known_0 : decode cX10_known 0 = .ok (.iload_n 1, 1) := by decide +kernel
theorem dX10_known_1 : decode cX10_known 1 = .ok (.invokestatic 127, 3) := by decide +kernel
theorem dX10_known_4 : decode cX10_known 4 = .ok (.ifCond .eq 11, 3) := by decide +kernel
theorem dX10_known_7 : decode cX10_known 7 = .ok (.aload_n 0, 1) := by decide +kernel
theorem dX10_known_8 : decode cX10_known 8 = .ok (.iload_n 1, 1) := by decide +kernel
theorem dX10_known_9 : decode cX10_known 9 = .ok (.invokevirtual 268, 3) := by decide +kernel
theorem dX10_known_12 : decode cX10_known 12 = .ok (.goto 8, 3) := by decide +kernel
theorem dX10_known_15 : decode cX10_known 15 = .ok (.aload_n 0, 1) := by decide +kernel
theorem dX10_known_16 : decode cX10_known 16 = .ok (.iconst 1, 1) := by decide +kernel
theorem dX10_known_17 : decode cX10_known 17 = .ok (.invokevirtual 66, 3) := by decide +kernel
theorem dX10_known_20 : decode cX10_known 20 = .ok (.ireturn, 1) := by decide +kernel
def F_X10_known (x1 : Int32) (M : eMem) : Option (Int32 × eMem) :=
  (F_X10_isHour x1).bind fun q1 =>
  if q1 = 0 then
    (F_X10_finding 1 M).bind fun q2 =>
    some (q2.1, q2.2)
  else
    (F_X10_knownBy x1 M).bind fun q3 =>
    some (q3, M)
set_option maxRecDepth 100000 in
set_option maxHeartbeats 4000000 in
theorem ev_X10_known (x1 : Int32) (M : eMem) (q : (Int32 × eMem)) (h : F_X10_known x1 M = some q) : Ev layR 2 m_X10_known 0 [some (.ref 0), some (.int x1)] [] M (some (.int q.1), q.2) := by
  rw [F_X10_known] at h
  refine Ev.iload_n (pc := 0) dX10_known_0 rfl ?_
  refine eBk h (fun q1 hq1 h => ?_)
  refine Ev.callS (pc := 1) (as := [.int x1]) (st := []) (z := 0) dX10_known_1 wc_X10_isHour ml_RX10_127 sm_X10_isHour (ev_X10_isHour x1 M _ hq1) rfl rfl (by decide) rfl rfl (Nat.le_of_ble_eq_true rfl) ?_
  refine Ev.if_eq (pc := 4) (tgt := 15) dX10_known_4 (by decide) (fun c9 => ?_) (fun c9 => ?_)
  · have h := eT h c9
    refine Ev.aload_n (pc := 15) dX10_known_15 rfl ?_
    refine Ev.iconst (pc := 16) dX10_known_16 (v := 1) (by decide) ?_
    refine eBk h (fun q2 hq2 h => ?_)
    refine Ev.callV (pc := 17) (as := [.int 1]) (st := []) (z := 0) dX10_known_17 wc_X10_finding ml_RX10_66 im_X10_finding se_X10_finding lR_0 rfl rfl (ev_X10_finding 1 M _ hq2) rfl rfl (by decide) rfl rfl (Nat.le_of_ble_eq_true rfl) ?_
    obtain rfl := Option.some.inj h
    exact Ev.iret (pc := 20) dX10_known_20 rfl rfl
  · have h := eF h c9
    refine Ev.aload_n (pc := 7) dX10_known_7 rfl ?_
    refine Ev.iload_n (pc := 8) dX10_known_8 rfl ?_
    refine eBk h (fun q3 hq3 h => ?_)
    refine Ev.callV (pc := 9) (as := [.int x1]) (st := []) (z := 2) dX10_known_9 wc_X10_knownBy ml_RX10_268 im_X10_knownBy se_X10_knownBy lR_0 rfl rfl (ev_X10_knownBy x1 M _ hq3) rfl rfl (by decide) rfl rfl (Nat.le_of_ble_eq_true rfl) ?_
    refine Ev.goto (pc := 12) (tgt := 20) dX10_known_12 (by decide) ?_
    obtain rfl := Option.some.inj h
    exact Ev.iret (pc := 20) dX10_known_20 rfl rfl
theorem dX9_sheet_0 : decode cX9_sheet 0 = .ok (.iload_n 1, 1) := by decide +kernel
theorem dX9_sheet_1 : decode cX9_sheet 1 = .ok (.iconst 4, 1) := by decide +kernel
theorem dX9_sheet_2 : decode cX9_sheet 2 = .ok (.invokestatic 37, 3) := by decide +kernel
theorem dX9_sheet_5 : decode cX9_sheet 5 = .ok (.ifCond .ne 10, 3) := by decide +kernel
theorem dX9_sheet_8 : decode cX9_sheet 8 = .ok (.aload_n 0, 1) := by decide +kernel
theorem dX9_sheet_9 : decode cX9_sheet 9 = .ok (.ldc 41, 2) := by decide +kernel
theorem dX9_sheet_11 : decode cX9_sheet 11 = .ok (.invokevirtual 42, 3) := by decide +kernel
theorem dX9_sheet_14 : decode cX9_sheet 14 = .ok (.ireturn, 1) := by decide +kernel
theorem dX9_sheet_15 : decode cX9_sheet 15 = .ok (.iload_n 2, 1) := by decide +kernel
theorem dX9_sheet_16 : decode cX9_sheet 16 = .ok (.ifCond .eq 22, 3) := by decide +kernel
theorem dX9_sheet_19 : decode cX9_sheet 19 = .ok (.iload_n 2, 1) := by decide +kernel
theorem dX9_sheet_20 : decode cX9_sheet 20 = .ok (.bipush 8, 2) := by decide +kernel
theorem dX9_sheet_22 : decode cX9_sheet 22 = .ok (.if_icmp .eq 16, 3) := by decide +kernel
theorem dX9_sheet_25 : decode cX9_sheet 25 = .ok (.iload_n 2, 1) := by decide +kernel
theorem dX9_sheet_26 : decode cX9_sheet 26 = .ok (.bipush 32, 2) := by decide +kernel
theorem dX9_sheet_28 : decode cX9_sheet 28 = .ok (.if_icmp .eq 10, 3) := by decide +kernel
theorem dX9_sheet_31 : decode cX9_sheet 31 = .ok (.aload_n 0, 1) := by decide +kernel
theorem dX9_sheet_32 : decode cX9_sheet 32 = .ok (.ldc 41, 2) := by decide +kernel
theorem dX9_sheet_34 : decode cX9_sheet 34 = .ok (.invokevirtual 42, 3) := by decide +kernel
theorem dX9_sheet_37 : decode cX9_sheet 37 = .ok (.ireturn, 1) := by decide +kernel
theorem dX9_sheet_38 : decode cX9_sheet 38 = .ok (.iload_n 3, 1) := by decide +kernel
theorem dX9_sheet_39 : decode cX9_sheet 39 = .ok (.ifCond .ge 10, 3) := by decide +kernel
theorem dX9_sheet_42 : decode cX9_sheet 42 = .ok (.aload_n 0, 1) := by decide +kernel
theorem dX9_sheet_43 : decode cX9_sheet 43 = .ok (.ldc 192, 2) := by decide +kernel
theorem dX9_sheet_45 : decode cX9_sheet 45 = .ok (.invokevirtual 42, 3) := by decide +kernel
theorem dX9_sheet_48 : decode cX9_sheet 48 = .ok (.ireturn, 1) := by decide +kernel
theorem dX9_sheet_49 : decode cX9_sheet 49 = .ok (.iload_n 3, 1) := by decide +kernel
theorem dX9_sheet_50 : decode cX9_sheet 50 = .ok (.bipush 20, 2) := by decide +kernel
theorem dX9_sheet_52 : decode cX9_sheet 52 = .ok (.if_icmp .le 10, 3) := by decide +kernel
theorem dX9_sheet_55 : decode cX9_sheet 55 = .ok (.aload_n 0, 1) := by decide +kernel
theorem dX9_sheet_56 : decode cX9_sheet 56 = .ok (.ldc 41, 2) := by decide +kernel
theorem dX9_sheet_58 : decode cX9_sheet 58 = .ok (.invokevirtual 42, 3) := by decide +kernel
theorem dX9_sheet_61 : decode cX9_sheet 61 = .ok (.ireturn, 1) := by decide +kernel
theorem dX9_sheet_62 : decode cX9_sheet 62 = .ok (.aload_n 0, 1) := by decide +kernel
theorem dX9_sheet_63 : decode cX9_sheet 63 = .ok (.getfield 29, 3) := by decide +kernel
theorem dX9_sheet_66 : decode cX9_sheet 66 = .ok (.getfield 383, 3) := by decide +kernel
theorem dX9_sheet_69 : decode cX9_sheet 69 = .ok (.iload_n 1, 1) := by decide +kernel
theorem dX9_sheet_70 : decode cX9_sheet 70 = .ok (.iload_n 2, 1) := by decide +kernel
theorem dX9_sheet_71 : decode cX9_sheet 71 = .ok (.iastore, 1) := by decide +kernel
theorem dX9_sheet_72 : decode cX9_sheet 72 = .ok (.aload_n 0, 1) := by decide +kernel
theorem dX9_sheet_73 : decode cX9_sheet 73 = .ok (.getfield 29, 3) := by decide +kernel
theorem dX9_sheet_76 : decode cX9_sheet 76 = .ok (.getfield 234, 3) := by decide +kernel
theorem dX9_sheet_79 : decode cX9_sheet 79 = .ok (.iload_n 1, 1) := by decide +kernel
theorem dX9_sheet_80 : decode cX9_sheet 80 = .ok (.iload_n 2, 1) := by decide +kernel
theorem dX9_sheet_81 : decode cX9_sheet 81 = .ok (.ifCond .ne 7, 3) := by decide +kernel
theorem dX9_sheet_84 : decode cX9_sheet 84 = .ok (.iconst 0, 1) := by decide +kernel
theorem dX9_sheet_85 : decode cX9_sheet 85 = .ok (.goto 4, 3) := by decide +kernel
theorem dX9_sheet_88 : decode cX9_sheet 88 = .ok (.iload_n 3, 1) := by decide +kernel
theorem dX9_sheet_89 : decode cX9_sheet 89 = .ok (.iastore, 1) := by decide +kernel
theorem dX9_sheet_90 : decode cX9_sheet 90 = .ok (.aload_n 0, 1) := by decide +kernel
theorem dX9_sheet_91 : decode cX9_sheet 91 = .ok (.getfield 29, 3) := by decide +kernel
theorem dX9_sheet_94 : decode cX9_sheet 94 = .ok (.getfield 237, 3) := by decide +kernel
theorem dX9_sheet_97 : decode cX9_sheet 97 = .ok (.iload_n 1, 1) := by decide +kernel
theorem dX9_sheet_98 : decode cX9_sheet 98 = .ok (.aaload, 1) := by decide +kernel
theorem dX9_sheet_99 : decode cX9_sheet 99 = .ok (.iconst 0, 1) := by decide +kernel
theorem dX9_sheet_100 : decode cX9_sheet 100 = .ok (.invokestatic 386, 3) := by decide +kernel
theorem dX9_sheet_103 : decode cX9_sheet 103 = .ok (.aload_n 0, 1) := by decide +kernel
theorem dX9_sheet_104 : decode cX9_sheet 104 = .ok (.getfield 29, 3) := by decide +kernel
theorem dX9_sheet_107 : decode cX9_sheet 107 = .ok (.getfield 234, 3) := by decide +kernel
theorem dX9_sheet_110 : decode cX9_sheet 110 = .ok (.iload_n 1, 1) := by decide +kernel
theorem dX9_sheet_111 : decode cX9_sheet 111 = .ok (.iaload, 1) := by decide +kernel
theorem dX9_sheet_112 : decode cX9_sheet 112 = .ok (.ireturn, 1) := by decide +kernel
def F_X9_sheet_89  (v1 : Int32) (s0 : Int32) (s1 : Int32) (M : eMem) : Option (Int32 × eMem) :=
  eG (eIn s1 4) <|
  eG (eIn v1 4) <|
  eG (eIn v1 4) <|
  some (((eFl32 (eI M 149 s1.toNatClampNeg s0) (151 + v1.toNatClampNeg) 20 0).1 149 v1.toNatClampNeg), (eFl32 (eI M 149 s1.toNatClampNeg s0) (151 + v1.toNatClampNeg) 20 0))
set_option maxRecDepth 100000 in
set_option maxHeartbeats 4000000 in
theorem ev_X9_sheet_89  (q : (Int32 × eMem))  (v1 : Int32) (s0 : Int32) (s1 : Int32) (M : eMem) (h : F_X9_sheet_89 v1 s0 s1 M = some q) : Ev layC 2 m_X9_sheet 89 [some (.ref 0), some (.int v1), none, none] [.int s0, .int s1, .ref 149] M (some (.int q.1), q.2) := by
  rw [F_X9_sheet_89] at h
  obtain ⟨g9, h⟩ := eGdB h
  refine Ev.iastj (pc := 89) dX9_sheet_89 (j := s1.toNatClampNeg) lC_149 g9 rfl ?_
  refine Ev.aload_n (pc := 90) dX9_sheet_90 rfl ?_
  refine Ev.getR (pc := 91) dX9_sheet_91 fl_RX9_29 lC_0 rfl ?_
  refine Ev.getR (pc := 94) dX9_sheet_94 fl_RX9_237 lC_147 rfl ?_
  refine Ev.iload_n (pc := 97) dX9_sheet_97 rfl ?_
  obtain ⟨g9, h⟩ := eGdB h
  have gg7 := eIn_lt g9
  refine Ev.aaldj (pc := 98) dX9_sheet_98 (z := 151 + v1.toNatClampNeg) lC_150 (by decide) (eIn_n0 g9) (grC_150 _ gg7) ?_
  refine Ev.iconst (pc := 99) dX9_sheet_99 (v := 0) (by decide) ?_
  refine Ev.callS (pc := 100) (as := [.ref (151 + v1.toNatClampNeg), .int 0]) (st := []) (z := 2) dX9_sheet_100 wc_J7_fill_53178 ml_RX9_386 sm_J7_fill_53178 (ev_J7_fill_53178 (glC_150 _ gg7) (by decide)) rfl rfl (by decide) rfl rfl (Nat.le_of_ble_eq_true rfl) ?_
  refine Ev.aload_n (pc := 103) dX9_sheet_103 rfl ?_
  refine Ev.getR (pc := 104) dX9_sheet_104 fl_RX9_29 lC_0 rfl ?_
  refine Ev.getR (pc := 107) dX9_sheet_107 fl_RX9_234 lC_147 rfl ?_
  refine Ev.iload_n (pc := 110) dX9_sheet_110 rfl ?_
  obtain ⟨g9, h⟩ := eGdB h
  refine Ev.ialdj (pc := 111) dX9_sheet_111 (j := v1.toNatClampNeg) lC_149 g9 rfl ?_
  obtain rfl := Option.some.inj h
  exact Ev.iret (pc := 112) dX9_sheet_112 rfl rfl
def F_X9_sheet_38  (v1 : Int32) (v2 : Int32) (v3 : Int32) (M : eMem) : Option (Int32 × eMem) :=
  if v3 < 0 then
    (F_X9_found (-1000007) M).bind fun q3 =>
    some (q3.1, q3.2)
  else
    if 20 < v3 then
      (F_X9_found (-1000001) M).bind fun q2 =>
      some (q2.1, q2.2)
    else
      eG (eIn v1 4) <|
      if v2 = 0 then
        F_X9_sheet_89 v1 0 v1 (eI M 148 v1.toNatClampNeg v2)
      else
        F_X9_sheet_89 v1 v3 v1 (eI M 148 v1.toNatClampNeg v2)
set_option maxRecDepth 100000 in
set_option maxHeartbeats 4000000 in
theorem ev_X9_sheet_38  (q : (Int32 × eMem))  (v1 : Int32) (v2 : Int32) (v3 : Int32) (M : eMem) (h : F_X9_sheet_38 v1 v2 v3 M = some q) : Ev layC 2 m_X9_sheet 38 [some (.ref 0), some (.int v1), some (.int v2), some (.int v3)] [] M (some (.int q.1), q.2) := by
  rw [F_X9_sheet_38] at h
  refine Ev.iload_n (pc := 38) dX9_sheet_38 rfl ?_
  refine Ev.if_ge (pc := 39) (tgt := 49) dX9_sheet_39 (by decide) (fun c9 => ?_) (fun c9 => ?_)
  · have h := eF h c9
    refine Ev.iload_n (pc := 49) dX9_sheet_49 rfl ?_
    refine Ev.bipush (pc := 50) dX9_sheet_50 (v := 20) (by decide) ?_
    refine Ev.icmp_le (pc := 52) (tgt := 62) dX9_sheet_52 (by decide) (fun c9 => ?_) (fun c9 => ?_)
    · have h := eF h c9
      refine Ev.aload_n (pc := 62) dX9_sheet_62 rfl ?_
      refine Ev.getR (pc := 63) dX9_sheet_63 fl_RX9_29 lC_0 rfl ?_
      refine Ev.getR (pc := 66) dX9_sheet_66 fl_RX9_383 lC_147 rfl ?_
      refine Ev.iload_n (pc := 69) dX9_sheet_69 rfl ?_
      refine Ev.iload_n (pc := 70) dX9_sheet_70 rfl ?_
      obtain ⟨g9, h⟩ := eGdB h
      refine Ev.iastj (pc := 71) dX9_sheet_71 (j := v1.toNatClampNeg) lC_148 g9 rfl ?_
      refine Ev.aload_n (pc := 72) dX9_sheet_72 rfl ?_
      refine Ev.getR (pc := 73) dX9_sheet_73 fl_RX9_29 lC_0 rfl ?_
      refine Ev.getR (pc := 76) dX9_sheet_76 fl_RX9_234 lC_147 rfl ?_
      refine Ev.iload_n (pc := 79) dX9_sheet_79 rfl ?_
      refine Ev.iload_n (pc := 80) dX9_sheet_80 rfl ?_
      refine Ev.if_ne (pc := 81) (tgt := 88) dX9_sheet_81 (by decide) (fun c9 => ?_) (fun c9 => ?_)
      · have h := eF h c9
        refine Ev.iload_n (pc := 88) dX9_sheet_88 rfl ?_
        exact Ev.fg (ev_X9_sheet_89 _ _ _ _ _ h) (And.intro rfl (And.intro rfl trivial))
      · have h := eT h c9
        refine Ev.iconst (pc := 84) dX9_sheet_84 (v := 0) (by decide) ?_
        refine Ev.goto (pc := 85) (tgt := 89) dX9_sheet_85 (by decide) ?_
        exact Ev.fg (ev_X9_sheet_89 _ _ _ _ _ h) (And.intro rfl (And.intro rfl trivial))
    · have h := eT h c9
      refine Ev.aload_n (pc := 55) dX9_sheet_55 rfl ?_
      refine Ev.ldc (pc := 56) dX9_sheet_56 ld_RX9_41 ?_
      refine eBk h (fun q2 hq2 h => ?_)
      refine Ev.callV (pc := 58) (as := [.int (-1000001)]) (st := []) (z := 1) dX9_sheet_58 wc_X9_found ml_RX9_42 im_X9_found se_X9_found lC_0 rfl rfl (ev_X9_found (-1000001) M _ hq2) rfl rfl (by decide) rfl rfl (Nat.le_of_ble_eq_true rfl) ?_
      obtain rfl := Option.some.inj h
      exact Ev.iret (pc := 61) dX9_sheet_61 rfl rfl
  · have h := eT h c9
    refine Ev.aload_n (pc := 42) dX9_sheet_42 rfl ?_
    refine Ev.ldc (pc := 43) dX9_sheet_43 ld_RX9_192 ?_
    refine eBk h (fun q3 hq3 h => ?_)
    refine Ev.callV (pc := 45) (as := [.int (-1000007)]) (st := []) (z := 1) dX9_sheet_45 wc_X9_found ml_RX9_42 im_X9_found se_X9_found lC_0 rfl rfl (ev_X9_found (-1000007) M _ hq3) rfl rfl (by decide) rfl rfl (Nat.le_of_ble_eq_true rfl) ?_
    obtain rfl := Option.some.inj h
    exact Ev.iret (pc := 48) dX9_sheet_48 rfl rfl
def F_X9_sheet (x1 : Int32) (x2 : Int32) (x3 : Int32) (M : eMem) : Option (Int32 × eMem) :=
  (F_X9_isIn x1 4).bind fun q1 =>
  if q1 = 0 then
    (F_X9_found (-1000001) M).bind fun q5 =>
    some (q5.1, q5.2)
  else
    if x2 = 0 then
      F_X9_sheet_38 x1 x2 x3 M
    else
      if x2 = 8 then
        F_X9_sheet_38 x1 x2 x3 M
      else
        if x2 = 32 then
          F_X9_sheet_38 x1 x2 x3 M
        else
          (F_X9_found (-1000001) M).bind fun q4 =>
          some (q4.1, q4.2)
set_option maxRecDepth 100000 in
set_option maxHeartbeats 4000000 in
theorem ev_X9_sheet (x1 : Int32) (x2 : Int32) (x3 : Int32) (M : eMem) (q : (Int32 × eMem)) (h : F_X9_sheet x1 x2 x3 M = some q) : Ev layC 2 m_X9_sheet 0 [some (.ref 0), some (.int x1), some (.int x2), some (.int x3)] [] M (some (.int q.1), q.2) := by
  rw [F_X9_sheet] at h
  refine Ev.iload_n (pc := 0) dX9_sheet_0 rfl ?_
  refine Ev.iconst (pc := 1) dX9_sheet_1 (v := 4) (by decide) ?_
  refine eBk h (fun q1 hq1 h => ?_)
  refine Ev.callS (pc := 2) (as := [.int x1, .int 4]) (st := []) (z := 0) dX9_sheet_2 wc_X9_isIn ml_RX9_37 sm_X9_isIn (ev_X9_isIn x1 4 M _ hq1) rfl rfl (by decide) rfl rfl (Nat.le_of_ble_eq_true rfl) ?_
  refine Ev.if_ne (pc := 5) (tgt := 15) dX9_sheet_5 (by decide) (fun c9 => ?_) (fun c9 => ?_)
  · have h := eF h c9
    refine Ev.iload_n (pc := 15) dX9_sheet_15 rfl ?_
    refine Ev.if_eq (pc := 16) (tgt := 38) dX9_sheet_16 (by decide) (fun c9 => ?_) (fun c9 => ?_)
    · have h := eT h c9
      exact Ev.fg (ev_X9_sheet_38 _ _ _ _ _ h) (And.intro rfl (And.intro rfl (And.intro rfl (And.intro rfl trivial))))
    · have h := eF h c9
      refine Ev.iload_n (pc := 19) dX9_sheet_19 rfl ?_
      refine Ev.bipush (pc := 20) dX9_sheet_20 (v := 8) (by decide) ?_
      refine Ev.icmp_eq (pc := 22) (tgt := 38) dX9_sheet_22 (by decide) (fun c9 => ?_) (fun c9 => ?_)
      · have h := eT h c9
        exact Ev.fg (ev_X9_sheet_38 _ _ _ _ _ h) (And.intro rfl (And.intro rfl (And.intro rfl (And.intro rfl trivial))))
      · have h := eF h c9
        refine Ev.iload_n (pc := 25) dX9_sheet_25 rfl ?_
        refine Ev.bipush (pc := 26) dX9_sheet_26 (v := 32) (by decide) ?_
        refine Ev.icmp_eq (pc := 28) (tgt := 38) dX9_sheet_28 (by decide) (fun c9 => ?_) (fun c9 => ?_)
        · have h := eT h c9
          exact Ev.fg (ev_X9_sheet_38 _ _ _ _ _ h) (And.intro rfl (And.intro rfl (And.intro rfl (And.intro rfl trivial))))
        · have h := eF h c9
          refine Ev.aload_n (pc := 31) dX9_sheet_31 rfl ?_
          refine Ev.ldc (pc := 32) dX9_sheet_32 ld_RX9_41 ?_
          refine eBk h (fun q4 hq4 h => ?_)
          refine Ev.callV (pc := 34) (as := [.int (-1000001)]) (st := []) (z := 1) dX9_sheet_34 wc_X9_found ml_RX9_42 im_X9_found se_X9_found lC_0 rfl rfl (ev_X9_found (-1000001) M _ hq4) rfl rfl (by decide) rfl rfl (Nat.le_of_ble_eq_true rfl) ?_
          obtain rfl := Option.some.inj h
          exact Ev.iret (pc := 37) dX9_sheet_37 rfl rfl
  · have h := eT h c9
    refine Ev.aload_n (pc := 8) dX9_sheet_8 rfl ?_
    refine Ev.ldc (pc := 9) dX9_sheet_9 ld_RX9_41 ?_
    refine eBk h (fun q5 hq5 h => ?_)
    refine Ev.callV (pc := 11) (as := [.int (-1000001)]) (st := []) (z := 1) dX9_sheet_11 wc_X9_found ml_RX9_42 im_X9_found se_X9_found lC_0 rfl rfl (ev_X9_found (-1000001) M _ hq5) rfl rfl (by decide) rfl rfl (Nat.le_of_ble_eq_true rfl) ?_
    obtain rfl := Option.some.inj h
    exact Ev.iret (pc := 14) dX9_sheet_14 rfl rfl
theorem dX10_sheet_0 : decode cX10_sheet 0 = .ok (.iload_n 1, 1) := by decide +kernel
theorem dX10_sheet_1 : decode cX10_sheet 1 = .ok (.invokestatic 134, 3) := by decide +kernel
theorem dX10_sheet_4 : decode cX10_sheet 4 = .ok (.ifCond .eq 19, 3) := by decide +kernel
theorem dX10_sheet_7 : decode cX10_sheet 7 = .ok (.iload_n 2, 1) := by decide +kernel
theorem dX10_sheet_8 : decode cX10_sheet 8 = .ok (.ifCond .eq 21, 3) := by decide +kernel
theorem dX10_sheet_11 : decode cX10_sheet 11 = .ok (.iload_n 2, 1) := by decide +kernel
theorem dX10_sheet_12 : decode cX10_sheet 12 = .ok (.bipush 8, 2) := by decide +kernel
theorem dX10_sheet_14 : decode cX10_sheet 14 = .ok (.if_icmp .eq 15, 3) := by decide +kernel
theorem dX10_sheet_17 : decode cX10_sheet 17 = .ok (.iload_n 2, 1) := by decide +kernel
theorem dX10_sheet_18 : decode cX10_sheet 18 = .ok (.bipush 32, 2) := by decide +kernel
theorem dX10_sheet_20 : decode cX10_sheet 20 = .ok (.if_icmp .eq 9, 3) := by decide +kernel
theorem dX10_sheet_23 : decode cX10_sheet 23 = .ok (.aload_n 0, 1) := by decide +kernel
theorem dX10_sheet_24 : decode cX10_sheet 24 = .ok (.iconst 1, 1) := by decide +kernel
theorem dX10_sheet_25 : decode cX10_sheet 25 = .ok (.invokevirtual 66, 3) := by decide +kernel
theorem dX10_sheet_28 : decode cX10_sheet 28 = .ok (.ireturn, 1) := by decide +kernel
theorem dX10_sheet_29 : decode cX10_sheet 29 = .ok (.iload_n 3, 1) := by decide +kernel
theorem dX10_sheet_30 : decode cX10_sheet 30 = .ok (.ifCond .ge 10, 3) := by decide +kernel
theorem dX10_sheet_33 : decode cX10_sheet 33 = .ok (.aload_n 0, 1) := by decide +kernel
theorem dX10_sheet_34 : decode cX10_sheet 34 = .ok (.bipush 7, 2) := by decide +kernel
theorem dX10_sheet_36 : decode cX10_sheet 36 = .ok (.invokevirtual 66, 3) := by decide +kernel
theorem dX10_sheet_39 : decode cX10_sheet 39 = .ok (.ireturn, 1) := by decide +kernel
theorem dX10_sheet_40 : decode cX10_sheet 40 = .ok (.iload_n 3, 1) := by decide +kernel
theorem dX10_sheet_41 : decode cX10_sheet 41 = .ok (.bipush 20, 2) := by decide +kernel
theorem dX10_sheet_43 : decode cX10_sheet 43 = .ok (.if_icmp .le 9, 3) := by decide +kernel
theorem dX10_sheet_46 : decode cX10_sheet 46 = .ok (.aload_n 0, 1) := by decide +kernel
theorem dX10_sheet_47 : decode cX10_sheet 47 = .ok (.iconst 1, 1) := by decide +kernel
theorem dX10_sheet_48 : decode cX10_sheet 48 = .ok (.invokevirtual 66, 3) := by decide +kernel
theorem dX10_sheet_51 : decode cX10_sheet 51 = .ok (.ireturn, 1) := by decide +kernel
theorem dX10_sheet_52 : decode cX10_sheet 52 = .ok (.aload_n 0, 1) := by decide +kernel
theorem dX10_sheet_53 : decode cX10_sheet 53 = .ok (.getfield 20, 3) := by decide +kernel
theorem dX10_sheet_56 : decode cX10_sheet 56 = .ok (.iload_n 1, 1) := by decide +kernel
theorem dX10_sheet_57 : decode cX10_sheet 57 = .ok (.iload_n 2, 1) := by decide +kernel
theorem dX10_sheet_58 : decode cX10_sheet 58 = .ok (.iastore, 1) := by decide +kernel
theorem dX10_sheet_59 : decode cX10_sheet 59 = .ok (.aload_n 0, 1) := by decide +kernel
theorem dX10_sheet_60 : decode cX10_sheet 60 = .ok (.getfield 23, 3) := by decide +kernel
theorem dX10_sheet_63 : decode cX10_sheet 63 = .ok (.iload_n 1, 1) := by decide +kernel
theorem dX10_sheet_64 : decode cX10_sheet 64 = .ok (.iload_n 2, 1) := by decide +kernel
theorem dX10_sheet_65 : decode cX10_sheet 65 = .ok (.ifCond .ne 7, 3) := by decide +kernel
theorem dX10_sheet_68 : decode cX10_sheet 68 = .ok (.iconst 0, 1) := by decide +kernel
theorem dX10_sheet_69 : decode cX10_sheet 69 = .ok (.goto 4, 3) := by decide +kernel
theorem dX10_sheet_72 : decode cX10_sheet 72 = .ok (.iload_n 3, 1) := by decide +kernel
theorem dX10_sheet_73 : decode cX10_sheet 73 = .ok (.iastore, 1) := by decide +kernel
theorem dX10_sheet_74 : decode cX10_sheet 74 = .ok (.iconst 0, 1) := by decide +kernel
theorem dX10_sheet_75 : decode cX10_sheet 75 = .ok (.istore 4, 2) := by decide +kernel
theorem dX10_sheet_77 : decode cX10_sheet 77 = .ok (.iload 4, 2) := by decide +kernel
theorem dX10_sheet_79 : decode cX10_sheet 79 = .ok (.bipush 20, 2) := by decide +kernel
theorem dX10_sheet_81 : decode cX10_sheet 81 = .ok (.if_icmp .ge 22, 3) := by decide +kernel
theorem dX10_sheet_84 : decode cX10_sheet 84 = .ok (.aload_n 0, 1) := by decide +kernel
theorem dX10_sheet_85 : decode cX10_sheet 85 = .ok (.getfield 26, 3) := by decide +kernel
theorem dX10_sheet_88 : decode cX10_sheet 88 = .ok (.bipush 20, 2) := by decide +kernel
theorem dX10_sheet_90 : decode cX10_sheet 90 = .ok (.iload_n 1, 1) := by decide +kernel
theorem dX10_sheet_91 : decode cX10_sheet 91 = .ok (.imul, 1) := by decide +kernel
theorem dX10_sheet_92 : decode cX10_sheet 92 = .ok (.iload 4, 2) := by decide +kernel
theorem dX10_sheet_94 : decode cX10_sheet 94 = .ok (.iadd, 1) := by decide +kernel
theorem dX10_sheet_95 : decode cX10_sheet 95 = .ok (.iconst 0, 1) := by decide +kernel
theorem dX10_sheet_96 : decode cX10_sheet 96 = .ok (.iastore, 1) := by decide +kernel
theorem dX10_sheet_97 : decode cX10_sheet 97 = .ok (.iinc 4 1, 3) := by decide +kernel
theorem dX10_sheet_100 : decode cX10_sheet 100 = .ok (.goto (-23), 3) := by decide +kernel
theorem dX10_sheet_103 : decode cX10_sheet 103 = .ok (.iload_n 2, 1) := by decide +kernel
theorem dX10_sheet_104 : decode cX10_sheet 104 = .ok (.ifCond .ne 7, 3) := by decide +kernel
theorem dX10_sheet_107 : decode cX10_sheet 107 = .ok (.iconst 0, 1) := by decide +kernel
theorem dX10_sheet_108 : decode cX10_sheet 108 = .ok (.goto 4, 3) := by decide +kernel
theorem dX10_sheet_111 : decode cX10_sheet 111 = .ok (.iload_n 3, 1) := by decide +kernel
theorem dX10_sheet_112 : decode cX10_sheet 112 = .ok (.ireturn, 1) := by decide +kernel
def F_X10_sheet_77 (K103 : Int32 → Int32 → eMem → Option (Int32 × eMem)) : Nat → Int32 → Int32 → Int32 → Int32 → eMem → Option (Int32 × eMem)
  | 0, _, _, _, _, _ => none
  | n + 1, v1, v2, v3, v4, M =>
    if v4 < 20 then
      eG (eIn ((20 * v1) + v4) 80) <|
      F_X10_sheet_77 K103 n v1 v2 v3 (v4 + 1) (eI M 6 ((20 * v1) + v4).toNatClampNeg 0)
    else
      K103 v2 v3 M
set_option maxRecDepth 100000 in
set_option maxHeartbeats 4000000 in
theorem ev_X10_sheet_77 (K103 : Int32 → Int32 → eMem → Option (Int32 × eMem)) (q : (Int32 × eMem)) (hK103 : ∀ (v2 : Int32) (v3 : Int32) (M : eMem), K103 v2 v3 M = some q → Ev layR 2 m_X10_sheet 103 [none, none, some (.int v2), some (.int v3), none] [] M (some (.int q.1), q.2)) : ∀ (fuel : Nat) (v1 : Int32) (v2 : Int32) (v3 : Int32) (v4 : Int32) (M : eMem), F_X10_sheet_77 K103 fuel v1 v2 v3 v4 M = some q → Ev layR 2 m_X10_sheet 77 [some (.ref 0), some (.int v1), some (.int v2), some (.int v3), some (.int v4)] [] M (some (.int q.1), q.2) := by
  intro fuel
  induction fuel with
  | zero => intro v1 v2 v3 v4 M h; rw [F_X10_sheet_77] at h; cases h
  | succ n ih =>
    intro v1 v2 v3 v4 M h
    rw [F_X10_sheet_77] at h
    refine Ev.iload (pc := 77) dX10_sheet_77 rfl ?_
    refine Ev.bipush (pc := 79) dX10_sheet_79 (v := 20) (by decide) ?_
    refine Ev.icmp_ge (pc := 81) (tgt := 103) dX10_sheet_81 (by decide) (fun c9 => ?_) (fun c9 => ?_)
    · have h := eF h c9
      exact Ev.fg (hK103 _ _ _ h) (And.intro rfl (And.intro rfl trivial))
    · have h := eT h c9
      refine Ev.aload_n (pc := 84) dX10_sheet_84 rfl ?_
      refine Ev.getR (pc := 85) dX10_sheet_85 fl_RX10_26 lR_0 rfl ?_
      refine Ev.bipush (pc := 88) dX10_sheet_88 (v := 20) (by decide) ?_
      refine Ev.iload_n (pc := 90) dX10_sheet_90 rfl ?_
      refine Ev.imul (pc := 91) dX10_sheet_91 ?_
      refine Ev.iload (pc := 92) dX10_sheet_92 rfl ?_
      refine Ev.iadd (pc := 94) dX10_sheet_94 ?_
      refine Ev.iconst (pc := 95) dX10_sheet_95 (v := 0) (by decide) ?_
      obtain ⟨g9, h⟩ := eGdB h
      refine Ev.iastj (pc := 96) dX10_sheet_96 (j := ((20 * v1) + v4).toNatClampNeg) lR_6 g9 rfl ?_
      refine Ev.iincv (pc := 97) dX10_sheet_97 (v := 1) (by decide) rfl (by decide) rfl rfl ?_
      refine Ev.goto (pc := 100) (tgt := 77) dX10_sheet_100 (by decide) ?_
      exact Ev.fg (ih _ _ _ _ _ h) (And.intro rfl (And.intro rfl (And.intro rfl (And.intro rfl (And.intro rfl trivial)))))
def F_X10_sheet_73  (v1 : Int32) (v2 : Int32) (v3 : Int32) (s0 : Int32) (s1 : Int32) (M : eMem) : Option (Int32 × eMem) :=
  eG (eIn s1 4) <|
  F_X10_sheet_77
    (fun v2 v3 M =>
      if v2 = 0 then
        some (0, M)
      else
        some (v3, M))
    eFuel v1 v2 v3 0 (eI M 5 s1.toNatClampNeg s0)
set_option maxRecDepth 100000 in
set_option maxHeartbeats 4000000 in
theorem ev_X10_sheet_73  (q : (Int32 × eMem))  (v1 : Int32) (v2 : Int32) (v3 : Int32) (s0 : Int32) (s1 : Int32) (M : eMem) (h : F_X10_sheet_73 v1 v2 v3 s0 s1 M = some q) : Ev layR 2 m_X10_sheet 73 [some (.ref 0), some (.int v1), some (.int v2), some (.int v3), none] [.int s0, .int s1, .ref 5] M (some (.int q.1), q.2) := by
  rw [F_X10_sheet_73] at h
  obtain ⟨g9, h⟩ := eGdB h
  refine Ev.iastj (pc := 73) dX10_sheet_73 (j := s1.toNatClampNeg) lR_5 g9 rfl ?_
  refine Ev.iconst (pc := 74) dX10_sheet_74 (v := 0) (by decide) ?_
  refine Ev.istore (pc := 75) dX10_sheet_75 (by decide) rfl rfl ?_
  refine Ev.fg (ev_X10_sheet_77 _ _ ?_ _ _ _ _ _ _ h) (And.intro rfl (And.intro rfl (And.intro rfl (And.intro rfl (And.intro rfl trivial)))))
  · intro v2 v3 M h
    refine Ev.iload_n (pc := 103) dX10_sheet_103 rfl ?_
    refine Ev.if_ne (pc := 104) (tgt := 111) dX10_sheet_104 (by decide) (fun c9 => ?_) (fun c9 => ?_)
    · have h := eF h c9
      refine Ev.iload_n (pc := 111) dX10_sheet_111 rfl ?_
      obtain rfl := Option.some.inj h
      exact Ev.iret (pc := 112) dX10_sheet_112 rfl rfl
    · have h := eT h c9
      refine Ev.iconst (pc := 107) dX10_sheet_107 (v := 0) (by decide) ?_
      refine Ev.goto (pc := 108) (tgt := 112) dX10_sheet_108 (by decide) ?_
      obtain rfl := Option.some.inj h
      exact Ev.iret (pc := 112) dX10_sheet_112 rfl rfl
def F_X10_sheet_29  (v1 : Int32) (v2 : Int32) (v3 : Int32) (M : eMem) : Option (Int32 × eMem) :=
  if v3 < 0 then
    (F_X10_finding 7 M).bind fun q4 =>
    some (q4.1, q4.2)
  else
    if 20 < v3 then
      (F_X10_finding 1 M).bind fun q3 =>
      some (q3.1, q3.2)
    else
      eG (eIn v1 4) <|
      if v2 = 0 then
        F_X10_sheet_73 v1 v2 v3 0 v1 (eI M 4 v1.toNatClampNeg v2)
      else
        F_X10_sheet_73 v1 v2 v3 v3 v1 (eI M 4 v1.toNatClampNeg v2)
set_option maxRecDepth 100000 in
set_option maxHeartbeats 4000000 in
theorem ev_X10_sheet_29  (q : (Int32 × eMem))  (v1 : Int32) (v2 : Int32) (v3 : Int32) (M : eMem) (h : F_X10_sheet_29 v1 v2 v3 M = some q) : Ev layR 2 m_X10_sheet 29 [some (.ref 0), some (.int v1), some (.int v2), some (.int v3), none] [] M (some (.int q.1), q.2) := by
  rw [F_X10_sheet_29] at h
  refine Ev.iload_n (pc := 29) dX10_sheet_29 rfl ?_
  refine Ev.if_ge (pc := 30) (tgt := 40) dX10_sheet_30 (by decide) (fun c9 => ?_) (fun c9 => ?_)
  · have h := eF h c9
    refine Ev.iload_n (pc := 40) dX10_sheet_40 rfl ?_
    refine Ev.bipush (pc := 41) dX10_sheet_41 (v := 20) (by decide) ?_
    refine Ev.icmp_le (pc := 43) (tgt := 52) dX10_sheet_43 (by decide) (fun c9 => ?_) (fun c9 => ?_)
    · have h := eF h c9
      refine Ev.aload_n (pc := 52) dX10_sheet_52 rfl ?_
      refine Ev.getR (pc := 53) dX10_sheet_53 fl_RX10_20 lR_0 rfl ?_
      refine Ev.iload_n (pc := 56) dX10_sheet_56 rfl ?_
      refine Ev.iload_n (pc := 57) dX10_sheet_57 rfl ?_
      obtain ⟨g9, h⟩ := eGdB h
      refine Ev.iastj (pc := 58) dX10_sheet_58 (j := v1.toNatClampNeg) lR_4 g9 rfl ?_
      refine Ev.aload_n (pc := 59) dX10_sheet_59 rfl ?_
      refine Ev.getR (pc := 60) dX10_sheet_60 fl_RX10_23 lR_0 rfl ?_
      refine Ev.iload_n (pc := 63) dX10_sheet_63 rfl ?_
      refine Ev.iload_n (pc := 64) dX10_sheet_64 rfl ?_
      refine Ev.if_ne (pc := 65) (tgt := 72) dX10_sheet_65 (by decide) (fun c9 => ?_) (fun c9 => ?_)
      · have h := eF h c9
        refine Ev.iload_n (pc := 72) dX10_sheet_72 rfl ?_
        exact Ev.fg (ev_X10_sheet_73 _ _ _ _ _ _ _ h) (And.intro rfl (And.intro rfl (And.intro rfl (And.intro rfl trivial))))
      · have h := eT h c9
        refine Ev.iconst (pc := 68) dX10_sheet_68 (v := 0) (by decide) ?_
        refine Ev.goto (pc := 69) (tgt := 73) dX10_sheet_69 (by decide) ?_
        exact Ev.fg (ev_X10_sheet_73 _ _ _ _ _ _ _ h) (And.intro rfl (And.intro rfl (And.intro rfl (And.intro rfl trivial))))
    · have h := eT h c9
      refine Ev.aload_n (pc := 46) dX10_sheet_46 rfl ?_
      refine Ev.iconst (pc := 47) dX10_sheet_47 (v := 1) (by decide) ?_
      refine eBk h (fun q3 hq3 h => ?_)
      refine Ev.callV (pc := 48) (as := [.int 1]) (st := []) (z := 0) dX10_sheet_48 wc_X10_finding ml_RX10_66 im_X10_finding se_X10_finding lR_0 rfl rfl (ev_X10_finding 1 M _ hq3) rfl rfl (by decide) rfl rfl (Nat.le_of_ble_eq_true rfl) ?_
      obtain rfl := Option.some.inj h
      exact Ev.iret (pc := 51) dX10_sheet_51 rfl rfl
  · have h := eT h c9
    refine Ev.aload_n (pc := 33) dX10_sheet_33 rfl ?_
    refine Ev.bipush (pc := 34) dX10_sheet_34 (v := 7) (by decide) ?_
    refine eBk h (fun q4 hq4 h => ?_)
    refine Ev.callV (pc := 36) (as := [.int 7]) (st := []) (z := 0) dX10_sheet_36 wc_X10_finding ml_RX10_66 im_X10_finding se_X10_finding lR_0 rfl rfl (ev_X10_finding 7 M _ hq4) rfl rfl (by decide) rfl rfl (Nat.le_of_ble_eq_true rfl) ?_
    obtain rfl := Option.some.inj h
    exact Ev.iret (pc := 39) dX10_sheet_39 rfl rfl
def F_X10_sheet (x1 : Int32) (x2 : Int32) (x3 : Int32) (M : eMem) : Option (Int32 × eMem) :=
  (F_X10_isSheet x1).bind fun q1 =>
  if q1 = 0 then
    (F_X10_finding 1 M).bind fun q2 =>
    some (q2.1, q2.2)
  else
    if x2 = 0 then
      F_X10_sheet_29 x1 x2 x3 M
    else
      if x2 = 8 then
        F_X10_sheet_29 x1 x2 x3 M
      else
        if x2 = 32 then
          F_X10_sheet_29 x1 x2 x3 M
        else
          (F_X10_finding 1 M).bind fun q5 =>
          some (q5.1, q5.2)
set_option maxRecDepth 100000 in
set_option maxHeartbeats 4000000 in
theorem ev_X10_sheet (x1 : Int32) (x2 : Int32) (x3 : Int32) (M : eMem) (q : (Int32 × eMem)) (h : F_X10_sheet x1 x2 x3 M = some q) : Ev layR 2 m_X10_sheet 0 [some (.ref 0), some (.int x1), some (.int x2), some (.int x3), none] [] M (some (.int q.1), q.2) := by
  rw [F_X10_sheet] at h
  refine Ev.iload_n (pc := 0) dX10_sheet_0 rfl ?_
  refine eBk h (fun q1 hq1 h => ?_)
  refine Ev.callS (pc := 1) (as := [.int x1]) (st := []) (z := 0) dX10_sheet_1 wc_X10_isSheet ml_RX10_134 sm_X10_isSheet (ev_X10_isSheet x1 M _ hq1) rfl rfl (by decide) rfl rfl (Nat.le_of_ble_eq_true rfl) ?_
  refine Ev.if_eq (pc := 4) (tgt := 23) dX10_sheet_4 (by decide) (fun c9 => ?_) (fun c9 => ?_)
  · have h := eT h c9
    refine Ev.aload_n (pc := 23) dX10_sheet_23 rfl ?_
    refine Ev.iconst (pc := 24) dX10_sheet_24 (v := 1) (by decide) ?_
    refine eBk h (fun q2 hq2 h => ?_)
    refine Ev.callV (pc := 25) (as := [.int 1]) (st := []) (z := 0) dX10_sheet_25 wc_X10_finding ml_RX10_66 im_X10_finding se_X10_finding lR_0 rfl rfl (ev_X10_finding 1 M _ hq2) rfl rfl (by decide) rfl rfl (Nat.le_of_ble_eq_true rfl) ?_
    obtain rfl := Option.some.inj h
    exact Ev.iret (pc := 28) dX10_sheet_28 rfl rfl
  · have h := eF h c9
    refine Ev.iload_n (pc := 7) dX10_sheet_7 rfl ?_
    refine Ev.if_eq (pc := 8) (tgt := 29) dX10_sheet_8 (by decide) (fun c9 => ?_) (fun c9 => ?_)
    · have h := eT h c9
      exact Ev.fg (ev_X10_sheet_29 _ _ _ _ _ h) (And.intro rfl (And.intro rfl (And.intro rfl (And.intro rfl trivial))))
    · have h := eF h c9
      refine Ev.iload_n (pc := 11) dX10_sheet_11 rfl ?_
      refine Ev.bipush (pc := 12) dX10_sheet_12 (v := 8) (by decide) ?_
      refine Ev.icmp_eq (pc := 14) (tgt := 29) dX10_sheet_14 (by decide) (fun c9 => ?_) (fun c9 => ?_)
      · have h := eT h c9
        exact Ev.fg (ev_X10_sheet_29 _ _ _ _ _ h) (And.intro rfl (And.intro rfl (And.intro rfl (And.intro rfl trivial))))
      · have h := eF h c9
        refine Ev.iload_n (pc := 17) dX10_sheet_17 rfl ?_
        refine Ev.bipush (pc := 18) dX10_sheet_18 (v := 32) (by decide) ?_
        refine Ev.icmp_eq (pc := 20) (tgt := 29) dX10_sheet_20 (by decide) (fun c9 => ?_) (fun c9 => ?_)
        · have h := eT h c9
          exact Ev.fg (ev_X10_sheet_29 _ _ _ _ _ h) (And.intro rfl (And.intro rfl (And.intro rfl (And.intro rfl trivial))))
        · have h := eF h c9
          refine Ev.aload_n (pc := 23) dX10_sheet_23 rfl ?_
          refine Ev.iconst (pc := 24) dX10_sheet_24 (v := 1) (by decide) ?_
          refine eBk h (fun q5 hq5 h => ?_)
          refine Ev.callV (pc := 25) (as := [.int 1]) (st := []) (z := 0) dX10_sheet_25 wc_X10_finding ml_RX10_66 im_X10_finding se_X10_finding lR_0 rfl rfl (ev_X10_finding 1 M _ hq5) rfl rfl (by decide) rfl rfl (Nat.le_of_ble_eq_true rfl) ?_
          obtain rfl := Option.some.inj h
          exact Ev.iret (pc := 28) dX10_sheet_28 rfl rfl
theorem dX9_write_0 : decode cX9_write 0 = .ok (.iload_n 1, 1) := by decide +kernel
theorem dX9_write_1 : decode cX9_write 1 = .ok (.iconst 4, 1) := by decide +kernel
theorem dX9_write_2 : decode cX9_write 2 = .ok (.invokestatic 37, 3) := by decide +kernel
theorem dX9_write_5 : decode cX9_write 5 = .ok (.ifCond .ne 10, 3) := by decide +kernel
theorem dX9_write_8 : decode cX9_write 8 = .ok (.aload_n 0, 1) := by decide +kernel
theorem dX9_write_9 : decode cX9_write 9 = .ok (.ldc 41, 2) := by decide +kernel
theorem dX9_write_11 : decode cX9_write 11 = .ok (.invokevirtual 42, 3) := by decide +kernel
theorem dX9_write_14 : decode cX9_write 14 = .ok (.ireturn, 1) := by decide +kernel
theorem dX9_write_15 : decode cX9_write 15 = .ok (.aload_n 0, 1) := by decide +kernel
theorem dX9_write_16 : decode cX9_write 16 = .ok (.getfield 29, 3) := by decide +kernel
theorem dX9_write_19 : decode cX9_write 19 = .ok (.iload_n 1, 1) := by decide +kernel
theorem dX9_write_20 : decode cX9_write 20 = .ok (.invokevirtual 230, 3) := by decide +kernel
theorem dX9_write_23 : decode cX9_write 23 = .ok (.ifCond .eq 10, 3) := by decide +kernel
theorem dX9_write_26 : decode cX9_write 26 = .ok (.aload_n 0, 1) := by decide +kernel
theorem dX9_write_27 : decode cX9_write 27 = .ok (.ldc 233, 2) := by decide +kernel
theorem dX9_write_29 : decode cX9_write 29 = .ok (.invokevirtual 42, 3) := by decide +kernel
theorem dX9_write_32 : decode cX9_write 32 = .ok (.ireturn, 1) := by decide +kernel
theorem dX9_write_33 : decode cX9_write 33 = .ok (.iload_n 2, 1) := by decide +kernel
theorem dX9_write_34 : decode cX9_write 34 = .ok (.aload_n 0, 1) := by decide +kernel
theorem dX9_write_35 : decode cX9_write 35 = .ok (.getfield 29, 3) := by decide +kernel
theorem dX9_write_38 : decode cX9_write 38 = .ok (.getfield 234, 3) := by decide +kernel
theorem dX9_write_41 : decode cX9_write 41 = .ok (.iload_n 1, 1) := by decide +kernel
theorem dX9_write_42 : decode cX9_write 42 = .ok (.iaload, 1) := by decide +kernel
theorem dX9_write_43 : decode cX9_write 43 = .ok (.invokestatic 37, 3) := by decide +kernel
theorem dX9_write_46 : decode cX9_write 46 = .ok (.ifCond .ne 10, 3) := by decide +kernel
theorem dX9_write_49 : decode cX9_write 49 = .ok (.aload_n 0, 1) := by decide +kernel
theorem dX9_write_50 : decode cX9_write 50 = .ok (.ldc 41, 2) := by decide +kernel
theorem dX9_write_52 : decode cX9_write 52 = .ok (.invokevirtual 42, 3) := by decide +kernel
theorem dX9_write_55 : decode cX9_write 55 = .ok (.ireturn, 1) := by decide +kernel
theorem dX9_write_56 : decode cX9_write 56 = .ok (.iload_n 3, 1) := by decide +kernel
theorem dX9_write_57 : decode cX9_write 57 = .ok (.sipush (-9999), 3) := by decide +kernel
theorem dX9_write_60 : decode cX9_write 60 = .ok (.sipush 9999, 3) := by decide +kernel
theorem dX9_write_63 : decode cX9_write 63 = .ok (.invokestatic 55, 3) := by decide +kernel
theorem dX9_write_66 : decode cX9_write 66 = .ok (.ifCond .ne 10, 3) := by decide +kernel
theorem dX9_write_69 : decode cX9_write 69 = .ok (.aload_n 0, 1) := by decide +kernel
theorem dX9_write_70 : decode cX9_write 70 = .ok (.ldc 41, 2) := by decide +kernel
theorem dX9_write_72 : decode cX9_write 72 = .ok (.invokevirtual 42, 3) := by decide +kernel
theorem dX9_write_75 : decode cX9_write 75 = .ok (.ireturn, 1) := by decide +kernel
theorem dX9_write_76 : decode cX9_write 76 = .ok (.aload_n 0, 1) := by decide +kernel
theorem dX9_write_77 : decode cX9_write 77 = .ok (.getfield 29, 3) := by decide +kernel
theorem dX9_write_80 : decode cX9_write 80 = .ok (.getfield 237, 3) := by decide +kernel
theorem dX9_write_83 : decode cX9_write 83 = .ok (.iload_n 1, 1) := by decide +kernel
theorem dX9_write_84 : decode cX9_write 84 = .ok (.aaload, 1) := by decide +kernel
theorem dX9_write_85 : decode cX9_write 85 = .ok (.iload_n 2, 1) := by decide +kernel
theorem dX9_write_86 : decode cX9_write 86 = .ok (.aload_n 0, 1) := by decide +kernel
theorem dX9_write_87 : decode cX9_write 87 = .ok (.getfield 29, 3) := by decide +kernel
theorem dX9_write_90 : decode cX9_write 90 = .ok (.getfield 383, 3) := by decide +kernel
theorem dX9_write_93 : decode cX9_write 93 = .ok (.iload_n 1, 1) := by decide +kernel
theorem dX9_write_94 : decode cX9_write 94 = .ok (.iaload, 1) := by decide +kernel
theorem dX9_write_95 : decode cX9_write 95 = .ok (.bipush 8, 2) := by decide +kernel
theorem dX9_write_97 : decode cX9_write 97 = .ok (.if_icmp .ne 8, 3) := by decide +kernel
theorem dX9_write_100 : decode cX9_write 100 = .ok (.iload_n 3, 1) := by decide +kernel
theorem dX9_write_101 : decode cX9_write 101 = .ok (.i2b, 1) := by decide +kernel
theorem dX9_write_102 : decode cX9_write 102 = .ok (.goto 4, 3) := by decide +kernel
theorem dX9_write_105 : decode cX9_write 105 = .ok (.iload_n 3, 1) := by decide +kernel
theorem dX9_write_106 : decode cX9_write 106 = .ok (.iastore, 1) := by decide +kernel
theorem dX9_write_107 : decode cX9_write 107 = .ok (.iconst 1, 1) := by decide +kernel
theorem dX9_write_108 : decode cX9_write 108 = .ok (.ireturn, 1) := by decide +kernel
def F_X9_write (x1 : Int32) (x2 : Int32) (x3 : Int32) (M : eMem) : Option (Int32 × eMem) :=
  (F_X9_isIn x1 4).bind fun q1 =>
  if q1 = 0 then
    (F_X9_found (-1000001) M).bind fun q8 =>
    some (q8.1, q8.2)
  else
    (F_X4_isMissing x1 M).bind fun q2 =>
    if q2 = 0 then
      eG (eIn x1 4) <|
      (F_X9_isIn x2 (M.1 149 x1.toNatClampNeg)).bind fun q3 =>
      if q3 = 0 then
        (F_X9_found (-1000001) M).bind fun q6 =>
        some (q6.1, q6.2)
      else
        (F_X9_isBetween x3 (-9999) 9999).bind fun q4 =>
        if q4 = 0 then
          (F_X9_found (-1000001) M).bind fun q5 =>
          some (q5.1, q5.2)
        else
          eG (eIn x1 4) <|
          eG (eIn x1 4) <|
          if (M.1 148 x1.toNatClampNeg) = 8 then
            eG (eIn x2 20) <|
            some (1, (eI M (151 + x1.toNatClampNeg) x2.toNatClampNeg x3.toInt8.toInt32))
          else
            eG (eIn x2 20) <|
            some (1, (eI M (151 + x1.toNatClampNeg) x2.toNatClampNeg x3))
    else
      (F_X9_found (-1000006) M).bind fun q7 =>
      some (q7.1, q7.2)
set_option maxRecDepth 100000 in
set_option maxHeartbeats 4000000 in
theorem ev_X9_write (x1 : Int32) (x2 : Int32) (x3 : Int32) (M : eMem) (q : (Int32 × eMem)) (h : F_X9_write x1 x2 x3 M = some q) : Ev layC 2 m_X9_write 0 [some (.ref 0), some (.int x1), some (.int x2), some (.int x3)] [] M (some (.int q.1), q.2) := by
  rw [F_X9_write] at h
  refine Ev.iload_n (pc := 0) dX9_write_0 rfl ?_
  refine Ev.iconst (pc := 1) dX9_write_1 (v := 4) (by decide) ?_
  refine eBk h (fun q1 hq1 h => ?_)
  refine Ev.callS (pc := 2) (as := [.int x1, .int 4]) (st := []) (z := 0) dX9_write_2 wc_X9_isIn ml_RX9_37 sm_X9_isIn (ev_X9_isIn x1 4 M _ hq1) rfl rfl (by decide) rfl rfl (Nat.le_of_ble_eq_true rfl) ?_
  refine Ev.if_ne (pc := 5) (tgt := 15) dX9_write_5 (by decide) (fun c9 => ?_) (fun c9 => ?_)
  · have h := eF h c9
    refine Ev.aload_n (pc := 15) dX9_write_15 rfl ?_
    refine Ev.getR (pc := 16) dX9_write_16 fl_RX9_29 lC_0 rfl ?_
    refine Ev.iload_n (pc := 19) dX9_write_19 rfl ?_
    refine eBk h (fun q2 hq2 h => ?_)
    refine Ev.callV (pc := 20) (as := [.int x1]) (st := []) (z := 0) dX9_write_20 wc_X4_isMissing ml_RX9_230 im_X4_isMissing se_X4_isMissing lC_147 rfl rfl (ev_X4_isMissing x1 M _ hq2) rfl rfl (by decide) rfl rfl (Nat.le_of_ble_eq_true rfl) ?_
    refine Ev.if_eq (pc := 23) (tgt := 33) dX9_write_23 (by decide) (fun c9 => ?_) (fun c9 => ?_)
    · have h := eT h c9
      refine Ev.iload_n (pc := 33) dX9_write_33 rfl ?_
      refine Ev.aload_n (pc := 34) dX9_write_34 rfl ?_
      refine Ev.getR (pc := 35) dX9_write_35 fl_RX9_29 lC_0 rfl ?_
      refine Ev.getR (pc := 38) dX9_write_38 fl_RX9_234 lC_147 rfl ?_
      refine Ev.iload_n (pc := 41) dX9_write_41 rfl ?_
      obtain ⟨g9, h⟩ := eGdB h
      refine Ev.ialdj (pc := 42) dX9_write_42 (j := x1.toNatClampNeg) lC_149 g9 rfl ?_
      refine eBk h (fun q3 hq3 h => ?_)
      refine Ev.callS (pc := 43) (as := [.int x2, .int (M.1 149 x1.toNatClampNeg)]) (st := []) (z := 0) dX9_write_43 wc_X9_isIn ml_RX9_37 sm_X9_isIn (ev_X9_isIn x2 (M.1 149 x1.toNatClampNeg) M _ hq3) rfl rfl (by decide) rfl rfl (Nat.le_of_ble_eq_true rfl) ?_
      refine Ev.if_ne (pc := 46) (tgt := 56) dX9_write_46 (by decide) (fun c9 => ?_) (fun c9 => ?_)
      · have h := eF h c9
        refine Ev.iload_n (pc := 56) dX9_write_56 rfl ?_
        refine Ev.sipush (pc := 57) dX9_write_57 (v := (-9999)) (by decide) ?_
        refine Ev.sipush (pc := 60) dX9_write_60 (v := 9999) (by decide) ?_
        refine eBk h (fun q4 hq4 h => ?_)
        refine Ev.callS (pc := 63) (as := [.int x3, .int (-9999), .int 9999]) (st := []) (z := 0) dX9_write_63 wc_X9_isBetween ml_RX9_55 sm_X9_isBetween (ev_X9_isBetween x3 (-9999) 9999 M _ hq4) rfl rfl (by decide) rfl rfl (Nat.le_of_ble_eq_true rfl) ?_
        refine Ev.if_ne (pc := 66) (tgt := 76) dX9_write_66 (by decide) (fun c9 => ?_) (fun c9 => ?_)
        · have h := eF h c9
          refine Ev.aload_n (pc := 76) dX9_write_76 rfl ?_
          refine Ev.getR (pc := 77) dX9_write_77 fl_RX9_29 lC_0 rfl ?_
          refine Ev.getR (pc := 80) dX9_write_80 fl_RX9_237 lC_147 rfl ?_
          refine Ev.iload_n (pc := 83) dX9_write_83 rfl ?_
          obtain ⟨g9, h⟩ := eGdB h
          have gg5 := eIn_lt g9
          refine Ev.aaldj (pc := 84) dX9_write_84 (z := 151 + x1.toNatClampNeg) lC_150 (by decide) (eIn_n0 g9) (grC_150 _ gg5) ?_
          refine Ev.iload_n (pc := 85) dX9_write_85 rfl ?_
          refine Ev.aload_n (pc := 86) dX9_write_86 rfl ?_
          refine Ev.getR (pc := 87) dX9_write_87 fl_RX9_29 lC_0 rfl ?_
          refine Ev.getR (pc := 90) dX9_write_90 fl_RX9_383 lC_147 rfl ?_
          refine Ev.iload_n (pc := 93) dX9_write_93 rfl ?_
          obtain ⟨g9, h⟩ := eGdB h
          refine Ev.ialdj (pc := 94) dX9_write_94 (j := x1.toNatClampNeg) lC_148 g9 rfl ?_
          refine Ev.bipush (pc := 95) dX9_write_95 (v := 8) (by decide) ?_
          refine Ev.icmp_ne (pc := 97) (tgt := 105) dX9_write_97 (by decide) (fun c9 => ?_) (fun c9 => ?_)
          · have h := eF h c9
            refine Ev.iload_n (pc := 105) dX9_write_105 rfl ?_
            obtain ⟨g9, h⟩ := eGdB h
            refine Ev.iastj (pc := 106) dX9_write_106 (j := x2.toNatClampNeg) (glC_150 _ gg5) g9 rfl ?_
            refine Ev.iconst (pc := 107) dX9_write_107 (v := 1) (by decide) ?_
            obtain rfl := Option.some.inj h
            exact Ev.iret (pc := 108) dX9_write_108 rfl rfl
          · have h := eT h c9
            refine Ev.iload_n (pc := 100) dX9_write_100 rfl ?_
            refine Ev.i2b (pc := 101) dX9_write_101 ?_
            refine Ev.goto (pc := 102) (tgt := 106) dX9_write_102 (by decide) ?_
            obtain ⟨g9, h⟩ := eGdB h
            refine Ev.iastj (pc := 106) dX9_write_106 (j := x2.toNatClampNeg) (glC_150 _ gg5) g9 rfl ?_
            refine Ev.iconst (pc := 107) dX9_write_107 (v := 1) (by decide) ?_
            obtain rfl := Option.some.inj h
            exact Ev.iret (pc := 108) dX9_write_108 rfl rfl
        · have h := eT h c9
          refine Ev.aload_n (pc := 69) dX9_write_69 rfl ?_
          refine Ev.ldc (pc := 70) dX9_write_70 ld_RX9_41 ?_
          refine eBk h (fun q5 hq5 h => ?_)
          refine Ev.callV (pc := 72) (as := [.int (-1000001)]) (st := []) (z := 1) dX9_write_72 wc_X9_found ml_RX9_42 im_X9_found se_X9_found lC_0 rfl rfl (ev_X9_found (-1000001) M _ hq5) rfl rfl (by decide) rfl rfl (Nat.le_of_ble_eq_true rfl) ?_
          obtain rfl := Option.some.inj h
          exact Ev.iret (pc := 75) dX9_write_75 rfl rfl
      · have h := eT h c9
        refine Ev.aload_n (pc := 49) dX9_write_49 rfl ?_
        refine Ev.ldc (pc := 50) dX9_write_50 ld_RX9_41 ?_
        refine eBk h (fun q6 hq6 h => ?_)
        refine Ev.callV (pc := 52) (as := [.int (-1000001)]) (st := []) (z := 1) dX9_write_52 wc_X9_found ml_RX9_42 im_X9_found se_X9_found lC_0 rfl rfl (ev_X9_found (-1000001) M _ hq6) rfl rfl (by decide) rfl rfl (Nat.le_of_ble_eq_true rfl) ?_
        obtain rfl := Option.some.inj h
        exact Ev.iret (pc := 55) dX9_write_55 rfl rfl
    · have h := eF h c9
      refine Ev.aload_n (pc := 26) dX9_write_26 rfl ?_
      refine Ev.ldc (pc := 27) dX9_write_27 ld_RX9_233 ?_
      refine eBk h (fun q7 hq7 h => ?_)
      refine Ev.callV (pc := 29) (as := [.int (-1000006)]) (st := []) (z := 1) dX9_write_29 wc_X9_found ml_RX9_42 im_X9_found se_X9_found lC_0 rfl rfl (ev_X9_found (-1000006) M _ hq7) rfl rfl (by decide) rfl rfl (Nat.le_of_ble_eq_true rfl) ?_
      obtain rfl := Option.some.inj h
      exact Ev.iret (pc := 32) dX9_write_32 rfl rfl
  · have h := eT h c9
    refine Ev.aload_n (pc := 8) dX9_write_8 rfl ?_
    refine Ev.ldc (pc := 9) dX9_write_9 ld_RX9_41 ?_
    refine eBk h (fun q8 hq8 h => ?_)
    refine Ev.callV (pc := 11) (as := [.int (-1000001)]) (st := []) (z := 1) dX9_write_11 wc_X9_found ml_RX9_42 im_X9_found se_X9_found lC_0 rfl rfl (ev_X9_found (-1000001) M _ hq8) rfl rfl (by decide) rfl rfl (Nat.le_of_ble_eq_true rfl) ?_
    obtain rfl := Option.some.inj h
    exact Ev.iret (pc := 14) dX9_write_14 rfl rfl
theorem dX10_write_0 : decode cX10_write 0 = .ok (.iload_n 1, 1) := by decide +kernel
theorem dX10_write_1 : decode cX10_write 1 = .ok (.invokestatic 134, 3) := by decide +kernel
theorem dX10_write_4 : decode cX10_write 4 = .ok (.ifCond .ne 9, 3) := by decide +kernel
theorem dX10_write_7 : decode cX10_write 7 = .ok (.aload_n 0, 1) := by decide +kernel
theorem dX10_write_8 : decode cX10_write 8 = .ok (.iconst 1, 1) := by decide +kernel
theorem dX10_write_9 : decode cX10_write 9 = .ok (.invokevirtual 66, 3) := by decide +kernel
theorem dX10_write_12 : decode cX10_write 12 = .ok (.ireturn, 1) := by decide +kernel
theorem dX10_write_13 : decode cX10_write 13 = .ok (.aload_n 0, 1) := by decide +kernel
theorem dX10_write_14 : decode cX10_write 14 = .ok (.getfield 20, 3) := by decide +kernel
theorem dX10_write_17 : decode cX10_write 17 = .ok (.iload_n 1, 1) := by decide +kernel
theorem dX10_write_18 : decode cX10_write 18 = .ok (.iaload, 1) := by decide +kernel
theorem dX10_write_19 : decode cX10_write 19 = .ok (.ifCond .ne 10, 3) := by decide +kernel
theorem dX10_write_22 : decode cX10_write 22 = .ok (.aload_n 0, 1) := by decide +kernel
theorem dX10_write_23 : decode cX10_write 23 = .ok (.bipush 6, 2) := by decide +kernel
theorem dX10_write_25 : decode cX10_write 25 = .ok (.invokevirtual 66, 3) := by decide +kernel
theorem dX10_write_28 : decode cX10_write 28 = .ok (.ireturn, 1) := by decide +kernel
theorem dX10_write_29 : decode cX10_write 29 = .ok (.iload_n 2, 1) := by decide +kernel
theorem dX10_write_30 : decode cX10_write 30 = .ok (.iconst 0, 1) := by decide +kernel
theorem dX10_write_31 : decode cX10_write 31 = .ok (.aload_n 0, 1) := by decide +kernel
theorem dX10_write_32 : decode cX10_write 32 = .ok (.getfield 23, 3) := by decide +kernel
theorem dX10_write_35 : decode cX10_write 35 = .ok (.iload_n 1, 1) := by decide +kernel
theorem dX10_write_36 : decode cX10_write 36 = .ok (.iaload, 1) := by decide +kernel
theorem dX10_write_37 : decode cX10_write 37 = .ok (.iconst 1, 1) := by decide +kernel
theorem dX10_write_38 : decode cX10_write 38 = .ok (.isub, 1) := by decide +kernel
theorem dX10_write_39 : decode cX10_write 39 = .ok (.invokestatic 58, 3) := by decide +kernel
theorem dX10_write_42 : decode cX10_write 42 = .ok (.ifCond .eq 16, 3) := by decide +kernel
theorem dX10_write_45 : decode cX10_write 45 = .ok (.iload_n 3, 1) := by decide +kernel
theorem dX10_write_46 : decode cX10_write 46 = .ok (.sipush (-9999), 3) := by decide +kernel
theorem dX10_write_49 : decode cX10_write 49 = .ok (.sipush 9999, 3) := by decide +kernel
theorem dX10_write_52 : decode cX10_write 52 = .ok (.invokestatic 58, 3) := by decide +kernel
theorem dX10_write_55 : decode cX10_write 55 = .ok (.ifCond .ne 9, 3) := by decide +kernel
theorem dX10_write_58 : decode cX10_write 58 = .ok (.aload_n 0, 1) := by decide +kernel
theorem dX10_write_59 : decode cX10_write 59 = .ok (.iconst 1, 1) := by decide +kernel
theorem dX10_write_60 : decode cX10_write 60 = .ok (.invokevirtual 66, 3) := by decide +kernel
theorem dX10_write_63 : decode cX10_write 63 = .ok (.ireturn, 1) := by decide +kernel
theorem dX10_write_64 : decode cX10_write 64 = .ok (.aload_n 0, 1) := by decide +kernel
theorem dX10_write_65 : decode cX10_write 65 = .ok (.getfield 26, 3) := by decide +kernel
theorem dX10_write_68 : decode cX10_write 68 = .ok (.bipush 20, 2) := by decide +kernel
theorem dX10_write_70 : decode cX10_write 70 = .ok (.iload_n 1, 1) := by decide +kernel
theorem dX10_write_71 : decode cX10_write 71 = .ok (.imul, 1) := by decide +kernel
theorem dX10_write_72 : decode cX10_write 72 = .ok (.iload_n 2, 1) := by decide +kernel
theorem dX10_write_73 : decode cX10_write 73 = .ok (.iadd, 1) := by decide +kernel
theorem dX10_write_74 : decode cX10_write 74 = .ok (.aload_n 0, 1) := by decide +kernel
theorem dX10_write_75 : decode cX10_write 75 = .ok (.getfield 20, 3) := by decide +kernel
theorem dX10_write_78 : decode cX10_write 78 = .ok (.iload_n 1, 1) := by decide +kernel
theorem dX10_write_79 : decode cX10_write 79 = .ok (.iaload, 1) := by decide +kernel
theorem dX10_write_80 : decode cX10_write 80 = .ok (.bipush 8, 2) := by decide +kernel
theorem dX10_write_82 : decode cX10_write 82 = .ok (.if_icmp .ne 8, 3) := by decide +kernel
theorem dX10_write_85 : decode cX10_write 85 = .ok (.iload_n 3, 1) := by decide +kernel
theorem dX10_write_86 : decode cX10_write 86 = .ok (.i2b, 1) := by decide +kernel
theorem dX10_write_87 : decode cX10_write 87 = .ok (.goto 4, 3) := by decide +kernel
theorem dX10_write_90 : decode cX10_write 90 = .ok (.iload_n 3, 1) := by decide +kernel
theorem dX10_write_91 : decode cX10_write 91 = .ok (.iastore, 1) := by decide +kernel
theorem dX10_write_92 : decode cX10_write 92 = .ok (.iconst 1, 1) := by decide +kernel
theorem dX10_write_93 : decode cX10_write 93 = .ok (.ireturn, 1) := by decide +kernel
def F_X10_write (x1 : Int32) (x2 : Int32) (x3 : Int32) (M : eMem) : Option (Int32 × eMem) :=
  (F_X10_isSheet x1).bind fun q1 =>
  if q1 = 0 then
    (F_X10_finding 1 M).bind fun q7 =>
    some (q7.1, q7.2)
  else
    eG (eIn x1 4) <|
    if (M.1 4 x1.toNatClampNeg) = 0 then
      (F_X10_finding 6 M).bind fun q6 =>
      some (q6.1, q6.2)
    else
      eG (eIn x1 4) <|
      (F_X10_in x2 0 ((M.1 5 x1.toNatClampNeg) - 1)).bind fun q2 =>
      if q2 = 0 then
        (F_X10_finding 1 M).bind fun q3 =>
        some (q3.1, q3.2)
      else
        (F_X10_in x3 (-9999) 9999).bind fun q4 =>
        if q4 = 0 then
          (F_X10_finding 1 M).bind fun q5 =>
          some (q5.1, q5.2)
        else
          eG (eIn x1 4) <|
          if (M.1 4 x1.toNatClampNeg) = 8 then
            eG (eIn ((20 * x1) + x2) 80) <|
            some (1, (eI M 6 ((20 * x1) + x2).toNatClampNeg x3.toInt8.toInt32))
          else
            eG (eIn ((20 * x1) + x2) 80) <|
            some (1, (eI M 6 ((20 * x1) + x2).toNatClampNeg x3))
set_option maxRecDepth 100000 in
set_option maxHeartbeats 4000000 in
theorem ev_X10_write (x1 : Int32) (x2 : Int32) (x3 : Int32) (M : eMem) (q : (Int32 × eMem)) (h : F_X10_write x1 x2 x3 M = some q) : Ev layR 2 m_X10_write 0 [some (.ref 0), some (.int x1), some (.int x2), some (.int x3)] [] M (some (.int q.1), q.2) := by
  rw [F_X10_write] at h
  refine Ev.iload_n (pc := 0) dX10_write_0 rfl ?_
  refine eBk h (fun q1 hq1 h => ?_)
  refine Ev.callS (pc := 1) (as := [.int x1]) (st := []) (z := 0) dX10_write_1 wc_X10_isSheet ml_RX10_134 sm_X10_isSheet (ev_X10_isSheet x1 M _ hq1) rfl rfl (by decide) rfl rfl (Nat.le_of_ble_eq_true rfl) ?_
  refine Ev.if_ne (pc := 4) (tgt := 13) dX10_write_4 (by decide) (fun c9 => ?_) (fun c9 => ?_)
  · have h := eF h c9
    refine Ev.aload_n (pc := 13) dX10_write_13 rfl ?_
    refine Ev.getR (pc := 14) dX10_write_14 fl_RX10_20 lR_0 rfl ?_
    refine Ev.iload_n (pc := 17) dX10_write_17 rfl ?_
    obtain ⟨g9, h⟩ := eGdB h
    refine Ev.ialdj (pc := 18) dX10_write_18 (j := x1.toNatClampNeg) lR_4 g9 rfl ?_
    refine Ev.if_ne (pc := 19) (tgt := 29) dX10_write_19 (by decide) (fun c9 => ?_) (fun c9 => ?_)
    · have h := eF h c9
      refine Ev.iload_n (pc := 29) dX10_write_29 rfl ?_
      refine Ev.iconst (pc := 30) dX10_write_30 (v := 0) (by decide) ?_
      refine Ev.aload_n (pc := 31) dX10_write_31 rfl ?_
      refine Ev.getR (pc := 32) dX10_write_32 fl_RX10_23 lR_0 rfl ?_
      refine Ev.iload_n (pc := 35) dX10_write_35 rfl ?_
      obtain ⟨g9, h⟩ := eGdB h
      refine Ev.ialdj (pc := 36) dX10_write_36 (j := x1.toNatClampNeg) lR_5 g9 rfl ?_
      refine Ev.iconst (pc := 37) dX10_write_37 (v := 1) (by decide) ?_
      refine Ev.isub (pc := 38) dX10_write_38 ?_
      refine eBk h (fun q2 hq2 h => ?_)
      refine Ev.callS (pc := 39) (as := [.int x2, .int 0, .int ((M.1 5 x1.toNatClampNeg) - 1)]) (st := []) (z := 0) dX10_write_39 wc_X10_in ml_RX10_58 sm_X10_in (ev_X10_in x2 0 ((M.1 5 x1.toNatClampNeg) - 1) M _ hq2) rfl rfl (by decide) rfl rfl (Nat.le_of_ble_eq_true rfl) ?_
      refine Ev.if_eq (pc := 42) (tgt := 58) dX10_write_42 (by decide) (fun c9 => ?_) (fun c9 => ?_)
      · have h := eT h c9
        refine Ev.aload_n (pc := 58) dX10_write_58 rfl ?_
        refine Ev.iconst (pc := 59) dX10_write_59 (v := 1) (by decide) ?_
        refine eBk h (fun q3 hq3 h => ?_)
        refine Ev.callV (pc := 60) (as := [.int 1]) (st := []) (z := 0) dX10_write_60 wc_X10_finding ml_RX10_66 im_X10_finding se_X10_finding lR_0 rfl rfl (ev_X10_finding 1 M _ hq3) rfl rfl (by decide) rfl rfl (Nat.le_of_ble_eq_true rfl) ?_
        obtain rfl := Option.some.inj h
        exact Ev.iret (pc := 63) dX10_write_63 rfl rfl
      · have h := eF h c9
        refine Ev.iload_n (pc := 45) dX10_write_45 rfl ?_
        refine Ev.sipush (pc := 46) dX10_write_46 (v := (-9999)) (by decide) ?_
        refine Ev.sipush (pc := 49) dX10_write_49 (v := 9999) (by decide) ?_
        refine eBk h (fun q4 hq4 h => ?_)
        refine Ev.callS (pc := 52) (as := [.int x3, .int (-9999), .int 9999]) (st := []) (z := 0) dX10_write_52 wc_X10_in ml_RX10_58 sm_X10_in (ev_X10_in x3 (-9999) 9999 M _ hq4) rfl rfl (by decide) rfl rfl (Nat.le_of_ble_eq_true rfl) ?_
        refine Ev.if_ne (pc := 55) (tgt := 64) dX10_write_55 (by decide) (fun c9 => ?_) (fun c9 => ?_)
        · have h := eF h c9
          refine Ev.aload_n (pc := 64) dX10_write_64 rfl ?_
          refine Ev.getR (pc := 65) dX10_write_65 fl_RX10_26 lR_0 rfl ?_
          refine Ev.bipush (pc := 68) dX10_write_68 (v := 20) (by decide) ?_
          refine Ev.iload_n (pc := 70) dX10_write_70 rfl ?_
          refine Ev.imul (pc := 71) dX10_write_71 ?_
          refine Ev.iload_n (pc := 72) dX10_write_72 rfl ?_
          refine Ev.iadd (pc := 73) dX10_write_73 ?_
          refine Ev.aload_n (pc := 74) dX10_write_74 rfl ?_
          refine Ev.getR (pc := 75) dX10_write_75 fl_RX10_20 lR_0 rfl ?_
          refine Ev.iload_n (pc := 78) dX10_write_78 rfl ?_
          obtain ⟨g9, h⟩ := eGdB h
          refine Ev.ialdj (pc := 79) dX10_write_79 (j := x1.toNatClampNeg) lR_4 g9 rfl ?_
          refine Ev.bipush (pc := 80) dX10_write_80 (v := 8) (by decide) ?_
          refine Ev.icmp_ne (pc := 82) (tgt := 90) dX10_write_82 (by decide) (fun c9 => ?_) (fun c9 => ?_)
          · have h := eF h c9
            refine Ev.iload_n (pc := 90) dX10_write_90 rfl ?_
            obtain ⟨g9, h⟩ := eGdB h
            refine Ev.iastj (pc := 91) dX10_write_91 (j := ((20 * x1) + x2).toNatClampNeg) lR_6 g9 rfl ?_
            refine Ev.iconst (pc := 92) dX10_write_92 (v := 1) (by decide) ?_
            obtain rfl := Option.some.inj h
            exact Ev.iret (pc := 93) dX10_write_93 rfl rfl
          · have h := eT h c9
            refine Ev.iload_n (pc := 85) dX10_write_85 rfl ?_
            refine Ev.i2b (pc := 86) dX10_write_86 ?_
            refine Ev.goto (pc := 87) (tgt := 91) dX10_write_87 (by decide) ?_
            obtain ⟨g9, h⟩ := eGdB h
            refine Ev.iastj (pc := 91) dX10_write_91 (j := ((20 * x1) + x2).toNatClampNeg) lR_6 g9 rfl ?_
            refine Ev.iconst (pc := 92) dX10_write_92 (v := 1) (by decide) ?_
            obtain rfl := Option.some.inj h
            exact Ev.iret (pc := 93) dX10_write_93 rfl rfl
        · have h := eT h c9
          refine Ev.aload_n (pc := 58) dX10_write_58 rfl ?_
          refine Ev.iconst (pc := 59) dX10_write_59 (v := 1) (by decide) ?_
          refine eBk h (fun q5 hq5 h => ?_)
          refine Ev.callV (pc := 60) (as := [.int 1]) (st := []) (z := 0) dX10_write_60 wc_X10_finding ml_RX10_66 im_X10_finding se_X10_finding lR_0 rfl rfl (ev_X10_finding 1 M _ hq5) rfl rfl (by decide) rfl rfl (Nat.le_of_ble_eq_true rfl) ?_
          obtain rfl := Option.some.inj h
          exact Ev.iret (pc := 63) dX10_write_63 rfl rfl
    · have h := eT h c9
      refine Ev.aload_n (pc := 22) dX10_write_22 rfl ?_
      refine Ev.bipush (pc := 23) dX10_write_23 (v := 6) (by decide) ?_
      refine eBk h (fun q6 hq6 h => ?_)
      refine Ev.callV (pc := 25) (as := [.int 6]) (st := []) (z := 0) dX10_write_25 wc_X10_finding ml_RX10_66 im_X10_finding se_X10_finding lR_0 rfl rfl (ev_X10_finding 6 M _ hq6) rfl rfl (by decide) rfl rfl (Nat.le_of_ble_eq_true rfl) ?_
      obtain rfl := Option.some.inj h
      exact Ev.iret (pc := 28) dX10_write_28 rfl rfl
  · have h := eT h c9
    refine Ev.aload_n (pc := 7) dX10_write_7 rfl ?_
    refine Ev.iconst (pc := 8) dX10_write_8 (v := 1) (by decide) ?_
    refine eBk h (fun q7 hq7 h => ?_)
    refine Ev.callV (pc := 9) (as := [.int 1]) (st := []) (z := 0) dX10_write_9 wc_X10_finding ml_RX10_66 im_X10_finding se_X10_finding lR_0 rfl rfl (ev_X10_finding 1 M _ hq7) rfl rfl (by decide) rfl rfl (Nat.le_of_ble_eq_true rfl) ?_
    obtain rfl := Option.some.inj h
    exact Ev.iret (pc := 12) dX10_write_12 rfl rfl
theorem dX9_read_0 : decode cX9_read 0 = .ok (.iload_n 1, 1) := by decide +kernel
theorem dX9_read_1 : decode cX9_read 1 = .ok (.iconst 4, 1) := by decide +kernel
theorem dX9_read_2 : decode cX9_read 2 = .ok (.invokestatic 37, 3) := by decide +kernel
theorem dX9_read_5 : decode cX9_read 5 = .ok (.ifCond .ne 10, 3) := by decide +kernel
theorem dX9_read_8 : decode cX9_read 8 = .ok (.aload_n 0, 1) := by decide +kernel
theorem dX9_read_9 : decode cX9_read 9 = .ok (.ldc 41, 2) := by decide +kernel
theorem dX9_read_11 : decode cX9_read 11 = .ok (.invokevirtual 42, 3) := by decide +kernel
theorem dX9_read_14 : decode cX9_read 14 = .ok (.ireturn, 1) := by decide +kernel
theorem dX9_read_15 : decode cX9_read 15 = .ok (.aload_n 0, 1) := by decide +kernel
theorem dX9_read_16 : decode cX9_read 16 = .ok (.getfield 29, 3) := by decide +kernel
theorem dX9_read_19 : decode cX9_read 19 = .ok (.iload_n 1, 1) := by decide +kernel
theorem dX9_read_20 : decode cX9_read 20 = .ok (.invokevirtual 230, 3) := by decide +kernel
theorem dX9_read_23 : decode cX9_read 23 = .ok (.ifCond .eq 10, 3) := by decide +kernel
theorem dX9_read_26 : decode cX9_read 26 = .ok (.aload_n 0, 1) := by decide +kernel
theorem dX9_read_27 : decode cX9_read 27 = .ok (.ldc 233, 2) := by decide +kernel
theorem dX9_read_29 : decode cX9_read 29 = .ok (.invokevirtual 42, 3) := by decide +kernel
theorem dX9_read_32 : decode cX9_read 32 = .ok (.ireturn, 1) := by decide +kernel
theorem dX9_read_33 : decode cX9_read 33 = .ok (.iload_n 2, 1) := by decide +kernel
theorem dX9_read_34 : decode cX9_read 34 = .ok (.aload_n 0, 1) := by decide +kernel
theorem dX9_read_35 : decode cX9_read 35 = .ok (.getfield 29, 3) := by decide +kernel
theorem dX9_read_38 : decode cX9_read 38 = .ok (.getfield 234, 3) := by decide +kernel
theorem dX9_read_41 : decode cX9_read 41 = .ok (.iload_n 1, 1) := by decide +kernel
theorem dX9_read_42 : decode cX9_read 42 = .ok (.iaload, 1) := by decide +kernel
theorem dX9_read_43 : decode cX9_read 43 = .ok (.invokestatic 37, 3) := by decide +kernel
theorem dX9_read_46 : decode cX9_read 46 = .ok (.ifCond .ne 10, 3) := by decide +kernel
theorem dX9_read_49 : decode cX9_read 49 = .ok (.aload_n 0, 1) := by decide +kernel
theorem dX9_read_50 : decode cX9_read 50 = .ok (.ldc 41, 2) := by decide +kernel
theorem dX9_read_52 : decode cX9_read 52 = .ok (.invokevirtual 42, 3) := by decide +kernel
theorem dX9_read_55 : decode cX9_read 55 = .ok (.ireturn, 1) := by decide +kernel
theorem dX9_read_56 : decode cX9_read 56 = .ok (.aload_n 0, 1) := by decide +kernel
theorem dX9_read_57 : decode cX9_read 57 = .ok (.getfield 29, 3) := by decide +kernel
theorem dX9_read_60 : decode cX9_read 60 = .ok (.getfield 237, 3) := by decide +kernel
theorem dX9_read_63 : decode cX9_read 63 = .ok (.iload_n 1, 1) := by decide +kernel
theorem dX9_read_64 : decode cX9_read 64 = .ok (.aaload, 1) := by decide +kernel
theorem dX9_read_65 : decode cX9_read 65 = .ok (.iload_n 2, 1) := by decide +kernel
theorem dX9_read_66 : decode cX9_read 66 = .ok (.iaload, 1) := by decide +kernel
theorem dX9_read_67 : decode cX9_read 67 = .ok (.ireturn, 1) := by decide +kernel
def F_X9_read (x1 : Int32) (x2 : Int32) (M : eMem) : Option (Int32 × eMem) :=
  (F_X9_isIn x1 4).bind fun q1 =>
  if q1 = 0 then
    (F_X9_found (-1000001) M).bind fun q6 =>
    some (q6.1, q6.2)
  else
    (F_X4_isMissing x1 M).bind fun q2 =>
    if q2 = 0 then
      eG (eIn x1 4) <|
      (F_X9_isIn x2 (M.1 149 x1.toNatClampNeg)).bind fun q3 =>
      if q3 = 0 then
        (F_X9_found (-1000001) M).bind fun q4 =>
        some (q4.1, q4.2)
      else
        eG (eIn x1 4) <|
        eG (eIn x2 20) <|
        some ((M.1 (151 + x1.toNatClampNeg) x2.toNatClampNeg), M)
    else
      (F_X9_found (-1000006) M).bind fun q5 =>
      some (q5.1, q5.2)
set_option maxRecDepth 100000 in
set_option maxHeartbeats 4000000 in
theorem ev_X9_read (x1 : Int32) (x2 : Int32) (M : eMem) (q : (Int32 × eMem)) (h : F_X9_read x1 x2 M = some q) : Ev layC 2 m_X9_read 0 [some (.ref 0), some (.int x1), some (.int x2)] [] M (some (.int q.1), q.2) := by
  rw [F_X9_read] at h
  refine Ev.iload_n (pc := 0) dX9_read_0 rfl ?_
  refine Ev.iconst (pc := 1) dX9_read_1 (v := 4) (by decide) ?_
  refine eBk h (fun q1 hq1 h => ?_)
  refine Ev.callS (pc := 2) (as := [.int x1, .int 4]) (st := []) (z := 0) dX9_read_2 wc_X9_isIn ml_RX9_37 sm_X9_isIn (ev_X9_isIn x1 4 M _ hq1) rfl rfl (by decide) rfl rfl (Nat.le_of_ble_eq_true rfl) ?_
  refine Ev.if_ne (pc := 5) (tgt := 15) dX9_read_5 (by decide) (fun c9 => ?_) (fun c9 => ?_)
  · have h := eF h c9
    refine Ev.aload_n (pc := 15) dX9_read_15 rfl ?_
    refine Ev.getR (pc := 16) dX9_read_16 fl_RX9_29 lC_0 rfl ?_
    refine Ev.iload_n (pc := 19) dX9_read_19 rfl ?_
    refine eBk h (fun q2 hq2 h => ?_)
    refine Ev.callV (pc := 20) (as := [.int x1]) (st := []) (z := 0) dX9_read_20 wc_X4_isMissing ml_RX9_230 im_X4_isMissing se_X4_isMissing lC_147 rfl rfl (ev_X4_isMissing x1 M _ hq2) rfl rfl (by decide) rfl rfl (Nat.le_of_ble_eq_true rfl) ?_
    refine Ev.if_eq (pc := 23) (tgt := 33) dX9_read_23 (by decide) (fun c9 => ?_) (fun c9 => ?_)
    · have h := eT h c9
      refine Ev.iload_n (pc := 33) dX9_read_33 rfl ?_
      refine Ev.aload_n (pc := 34) dX9_read_34 rfl ?_
      refine Ev.getR (pc := 35) dX9_read_35 fl_RX9_29 lC_0 rfl ?_
      refine Ev.getR (pc := 38) dX9_read_38 fl_RX9_234 lC_147 rfl ?_
      refine Ev.iload_n (pc := 41) dX9_read_41 rfl ?_
      obtain ⟨g9, h⟩ := eGdB h
      refine Ev.ialdj (pc := 42) dX9_read_42 (j := x1.toNatClampNeg) lC_149 g9 rfl ?_
      refine eBk h (fun q3 hq3 h => ?_)
      refine Ev.callS (pc := 43) (as := [.int x2, .int (M.1 149 x1.toNatClampNeg)]) (st := []) (z := 0) dX9_read_43 wc_X9_isIn ml_RX9_37 sm_X9_isIn (ev_X9_isIn x2 (M.1 149 x1.toNatClampNeg) M _ hq3) rfl rfl (by decide) rfl rfl (Nat.le_of_ble_eq_true rfl) ?_
      refine Ev.if_ne (pc := 46) (tgt := 56) dX9_read_46 (by decide) (fun c9 => ?_) (fun c9 => ?_)
      · have h := eF h c9
        refine Ev.aload_n (pc := 56) dX9_read_56 rfl ?_
        refine Ev.getR (pc := 57) dX9_read_57 fl_RX9_29 lC_0 rfl ?_
        refine Ev.getR (pc := 60) dX9_read_60 fl_RX9_237 lC_147 rfl ?_
        refine Ev.iload_n (pc := 63) dX9_read_63 rfl ?_
        obtain ⟨g9, h⟩ := eGdB h
        have gg5 := eIn_lt g9
        refine Ev.aaldj (pc := 64) dX9_read_64 (z := 151 + x1.toNatClampNeg) lC_150 (by decide) (eIn_n0 g9) (grC_150 _ gg5) ?_
        refine Ev.iload_n (pc := 65) dX9_read_65 rfl ?_
        obtain ⟨g9, h⟩ := eGdB h
        refine Ev.ialdj (pc := 66) dX9_read_66 (j := x2.toNatClampNeg) (glC_150 _ gg5) g9 rfl ?_
        obtain rfl := Option.some.inj h
        exact Ev.iret (pc := 67) dX9_read_67 rfl rfl
      · have h := eT h c9
        refine Ev.aload_n (pc := 49) dX9_read_49 rfl ?_
        refine Ev.ldc (pc := 50) dX9_read_50 ld_RX9_41 ?_
        refine eBk h (fun q4 hq4 h => ?_)
        refine Ev.callV (pc := 52) (as := [.int (-1000001)]) (st := []) (z := 1) dX9_read_52 wc_X9_found ml_RX9_42 im_X9_found se_X9_found lC_0 rfl rfl (ev_X9_found (-1000001) M _ hq4) rfl rfl (by decide) rfl rfl (Nat.le_of_ble_eq_true rfl) ?_
        obtain rfl := Option.some.inj h
        exact Ev.iret (pc := 55) dX9_read_55 rfl rfl
    · have h := eF h c9
      refine Ev.aload_n (pc := 26) dX9_read_26 rfl ?_
      refine Ev.ldc (pc := 27) dX9_read_27 ld_RX9_233 ?_
      refine eBk h (fun q5 hq5 h => ?_)
      refine Ev.callV (pc := 29) (as := [.int (-1000006)]) (st := []) (z := 1) dX9_read_29 wc_X9_found ml_RX9_42 im_X9_found se_X9_found lC_0 rfl rfl (ev_X9_found (-1000006) M _ hq5) rfl rfl (by decide) rfl rfl (Nat.le_of_ble_eq_true rfl) ?_
      obtain rfl := Option.some.inj h
      exact Ev.iret (pc := 32) dX9_read_32 rfl rfl
  · have h := eT h c9
    refine Ev.aload_n (pc := 8) dX9_read_8 rfl ?_
    refine Ev.ldc (pc := 9) dX9_read_9 ld_RX9_41 ?_
    refine eBk h (fun q6 hq6 h => ?_)
    refine Ev.callV (pc := 11) (as := [.int (-1000001)]) (st := []) (z := 1) dX9_read_11 wc_X9_found ml_RX9_42 im_X9_found se_X9_found lC_0 rfl rfl (ev_X9_found (-1000001) M _ hq6) rfl rfl (by decide) rfl rfl (Nat.le_of_ble_eq_true rfl) ?_
    obtain rfl := Option.some.inj h
    exact Ev.iret (pc := 14) dX9_read_14 rfl rfl
theorem dX10_read_0 : decode cX10_read 0 = .ok (.iload_n 1, 1) := by decide +kernel
theorem dX10_read_1 : decode cX10_read 1 = .ok (.invokestatic 134, 3) := by decide +kernel
theorem dX10_read_4 : decode cX10_read 4 = .ok (.ifCond .ne 9, 3) := by decide +kernel
theorem dX10_read_7 : decode cX10_read 7 = .ok (.aload_n 0, 1) := by decide +kernel
theorem dX10_read_8 : decode cX10_read 8 = .ok (.iconst 1, 1) := by decide +kernel
theorem dX10_read_9 : decode cX10_read 9 = .ok (.invokevirtual 66, 3) := by decide +kernel
theorem dX10_read_12 : decode cX10_read 12 = .ok (.ireturn, 1) := by decide +kernel
theorem dX10_read_13 : decode cX10_read 13 = .ok (.aload_n 0, 1) := by decide +kernel
theorem dX10_read_14 : decode cX10_read 14 = .ok (.getfield 20, 3) := by decide +kernel
theorem dX10_read_17 : decode cX10_read 17 = .ok (.iload_n 1, 1) := by decide +kernel
theorem dX10_read_18 : decode cX10_read 18 = .ok (.iaload, 1) := by decide +kernel
theorem dX10_read_19 : decode cX10_read 19 = .ok (.ifCond .ne 10, 3) := by decide +kernel
theorem dX10_read_22 : decode cX10_read 22 = .ok (.aload_n 0, 1) := by decide +kernel
theorem dX10_read_23 : decode cX10_read 23 = .ok (.bipush 6, 2) := by decide +kernel
theorem dX10_read_25 : decode cX10_read 25 = .ok (.invokevirtual 66, 3) := by decide +kernel
theorem dX10_read_28 : decode cX10_read 28 = .ok (.ireturn, 1) := by decide +kernel
theorem dX10_read_29 : decode cX10_read 29 = .ok (.iload_n 2, 1) := by decide +kernel
theorem dX10_read_30 : decode cX10_read 30 = .ok (.iconst 0, 1) := by decide +kernel
theorem dX10_read_31 : decode cX10_read 31 = .ok (.aload_n 0, 1) := by decide +kernel
theorem dX10_read_32 : decode cX10_read 32 = .ok (.getfield 23, 3) := by decide +kernel
theorem dX10_read_35 : decode cX10_read 35 = .ok (.iload_n 1, 1) := by decide +kernel
theorem dX10_read_36 : decode cX10_read 36 = .ok (.iaload, 1) := by decide +kernel
theorem dX10_read_37 : decode cX10_read 37 = .ok (.iconst 1, 1) := by decide +kernel
theorem dX10_read_38 : decode cX10_read 38 = .ok (.isub, 1) := by decide +kernel
theorem dX10_read_39 : decode cX10_read 39 = .ok (.invokestatic 58, 3) := by decide +kernel
theorem dX10_read_42 : decode cX10_read 42 = .ok (.ifCond .eq 17, 3) := by decide +kernel
theorem dX10_read_45 : decode cX10_read 45 = .ok (.aload_n 0, 1) := by decide +kernel
theorem dX10_read_46 : decode cX10_read 46 = .ok (.getfield 26, 3) := by decide +kernel
theorem dX10_read_49 : decode cX10_read 49 = .ok (.bipush 20, 2) := by decide +kernel
theorem dX10_read_51 : decode cX10_read 51 = .ok (.iload_n 1, 1) := by decide +kernel
theorem dX10_read_52 : decode cX10_read 52 = .ok (.imul, 1) := by decide +kernel
theorem dX10_read_53 : decode cX10_read 53 = .ok (.iload_n 2, 1) := by decide +kernel
theorem dX10_read_54 : decode cX10_read 54 = .ok (.iadd, 1) := by decide +kernel
theorem dX10_read_55 : decode cX10_read 55 = .ok (.iaload, 1) := by decide +kernel
theorem dX10_read_56 : decode cX10_read 56 = .ok (.goto 8, 3) := by decide +kernel
theorem dX10_read_59 : decode cX10_read 59 = .ok (.aload_n 0, 1) := by decide +kernel
theorem dX10_read_60 : decode cX10_read 60 = .ok (.iconst 1, 1) := by decide +kernel
theorem dX10_read_61 : decode cX10_read 61 = .ok (.invokevirtual 66, 3) := by decide +kernel
theorem dX10_read_64 : decode cX10_read 64 = .ok (.ireturn, 1) := by decide +kernel
def F_X10_read (x1 : Int32) (x2 : Int32) (M : eMem) : Option (Int32 × eMem) :=
  (F_X10_isSheet x1).bind fun q1 =>
  if q1 = 0 then
    (F_X10_finding 1 M).bind fun q5 =>
    some (q5.1, q5.2)
  else
    eG (eIn x1 4) <|
    if (M.1 4 x1.toNatClampNeg) = 0 then
      (F_X10_finding 6 M).bind fun q4 =>
      some (q4.1, q4.2)
    else
      eG (eIn x1 4) <|
      (F_X10_in x2 0 ((M.1 5 x1.toNatClampNeg) - 1)).bind fun q2 =>
      if q2 = 0 then
        (F_X10_finding 1 M).bind fun q3 =>
        some (q3.1, q3.2)
      else
        eG (eIn ((20 * x1) + x2) 80) <|
        some ((M.1 6 ((20 * x1) + x2).toNatClampNeg), M)
set_option maxRecDepth 100000 in
set_option maxHeartbeats 4000000 in
theorem ev_X10_read (x1 : Int32) (x2 : Int32) (M : eMem) (q : (Int32 × eMem)) (h : F_X10_read x1 x2 M = some q) : Ev layR 2 m_X10_read 0 [some (.ref 0), some (.int x1), some (.int x2)] [] M (some (.int q.1), q.2) := by
  rw [F_X10_read] at h
  refine Ev.iload_n (pc := 0) dX10_read_0 rfl ?_
  refine eBk h (fun q1 hq1 h => ?_)
  refine Ev.callS (pc := 1) (as := [.int x1]) (st := []) (z := 0) dX10_read_1 wc_X10_isSheet ml_RX10_134 sm_X10_isSheet (ev_X10_isSheet x1 M _ hq1) rfl rfl (by decide) rfl rfl (Nat.le_of_ble_eq_true rfl) ?_
  refine Ev.if_ne (pc := 4) (tgt := 13) dX10_read_4 (by decide) (fun c9 => ?_) (fun c9 => ?_)
  · have h := eF h c9
    refine Ev.aload_n (pc := 13) dX10_read_13 rfl ?_
    refine Ev.getR (pc := 14) dX10_read_14 fl_RX10_20 lR_0 rfl ?_
    refine Ev.iload_n (pc := 17) dX10_read_17 rfl ?_
    obtain ⟨g9, h⟩ := eGdB h
    refine Ev.ialdj (pc := 18) dX10_read_18 (j := x1.toNatClampNeg) lR_4 g9 rfl ?_
    refine Ev.if_ne (pc := 19) (tgt := 29) dX10_read_19 (by decide) (fun c9 => ?_) (fun c9 => ?_)
    · have h := eF h c9
      refine Ev.iload_n (pc := 29) dX10_read_29 rfl ?_
      refine Ev.iconst (pc := 30) dX10_read_30 (v := 0) (by decide) ?_
      refine Ev.aload_n (pc := 31) dX10_read_31 rfl ?_
      refine Ev.getR (pc := 32) dX10_read_32 fl_RX10_23 lR_0 rfl ?_
      refine Ev.iload_n (pc := 35) dX10_read_35 rfl ?_
      obtain ⟨g9, h⟩ := eGdB h
      refine Ev.ialdj (pc := 36) dX10_read_36 (j := x1.toNatClampNeg) lR_5 g9 rfl ?_
      refine Ev.iconst (pc := 37) dX10_read_37 (v := 1) (by decide) ?_
      refine Ev.isub (pc := 38) dX10_read_38 ?_
      refine eBk h (fun q2 hq2 h => ?_)
      refine Ev.callS (pc := 39) (as := [.int x2, .int 0, .int ((M.1 5 x1.toNatClampNeg) - 1)]) (st := []) (z := 0) dX10_read_39 wc_X10_in ml_RX10_58 sm_X10_in (ev_X10_in x2 0 ((M.1 5 x1.toNatClampNeg) - 1) M _ hq2) rfl rfl (by decide) rfl rfl (Nat.le_of_ble_eq_true rfl) ?_
      refine Ev.if_eq (pc := 42) (tgt := 59) dX10_read_42 (by decide) (fun c9 => ?_) (fun c9 => ?_)
      · have h := eT h c9
        refine Ev.aload_n (pc := 59) dX10_read_59 rfl ?_
        refine Ev.iconst (pc := 60) dX10_read_60 (v := 1) (by decide) ?_
        refine eBk h (fun q3 hq3 h => ?_)
        refine Ev.callV (pc := 61) (as := [.int 1]) (st := []) (z := 0) dX10_read_61 wc_X10_finding ml_RX10_66 im_X10_finding se_X10_finding lR_0 rfl rfl (ev_X10_finding 1 M _ hq3) rfl rfl (by decide) rfl rfl (Nat.le_of_ble_eq_true rfl) ?_
        obtain rfl := Option.some.inj h
        exact Ev.iret (pc := 64) dX10_read_64 rfl rfl
      · have h := eF h c9
        refine Ev.aload_n (pc := 45) dX10_read_45 rfl ?_
        refine Ev.getR (pc := 46) dX10_read_46 fl_RX10_26 lR_0 rfl ?_
        refine Ev.bipush (pc := 49) dX10_read_49 (v := 20) (by decide) ?_
        refine Ev.iload_n (pc := 51) dX10_read_51 rfl ?_
        refine Ev.imul (pc := 52) dX10_read_52 ?_
        refine Ev.iload_n (pc := 53) dX10_read_53 rfl ?_
        refine Ev.iadd (pc := 54) dX10_read_54 ?_
        obtain ⟨g9, h⟩ := eGdB h
        refine Ev.ialdj (pc := 55) dX10_read_55 (j := ((20 * x1) + x2).toNatClampNeg) lR_6 g9 rfl ?_
        refine Ev.goto (pc := 56) (tgt := 64) dX10_read_56 (by decide) ?_
        obtain rfl := Option.some.inj h
        exact Ev.iret (pc := 64) dX10_read_64 rfl rfl
    · have h := eT h c9
      refine Ev.aload_n (pc := 22) dX10_read_22 rfl ?_
      refine Ev.bipush (pc := 23) dX10_read_23 (v := 6) (by decide) ?_
      refine eBk h (fun q4 hq4 h => ?_)
      refine Ev.callV (pc := 25) (as := [.int 6]) (st := []) (z := 0) dX10_read_25 wc_X10_finding ml_RX10_66 im_X10_finding se_X10_finding lR_0 rfl rfl (ev_X10_finding 6 M _ hq4) rfl rfl (by decide) rfl rfl (Nat.le_of_ble_eq_true rfl) ?_
      obtain rfl := Option.some.inj h
      exact Ev.iret (pc := 28) dX10_read_28 rfl rfl
  · have h := eT h c9
    refine Ev.aload_n (pc := 7) dX10_read_7 rfl ?_
    refine Ev.iconst (pc := 8) dX10_read_8 (v := 1) (by decide) ?_
    refine eBk h (fun q5 hq5 h => ?_)
    refine Ev.callV (pc := 9) (as := [.int 1]) (st := []) (z := 0) dX10_read_9 wc_X10_finding ml_RX10_66 im_X10_finding se_X10_finding lR_0 rfl rfl (ev_X10_finding 1 M _ hq5) rfl rfl (by decide) rfl rfl (Nat.le_of_ble_eq_true rfl) ?_
    obtain rfl := Option.some.inj h
    exact Ev.iret (pc := 12) dX10_read_12 rfl rfl
theorem dX4_hasRange_0 : decode cX4_hasRange 0 = .ok (.iload_n 2, 1) := by decide +kernel
theorem dX4_hasRange_1 : decode cX4_hasRange 1 = .ok (.ifCond .lt 33, 3) := by decide +kernel
theorem dX4_hasRange_4 : decode cX4_hasRange 4 = .ok (.iload_n 3, 1) := by decide +kernel
theorem dX4_hasRange_5 : decode cX4_hasRange 5 = .ok (.ifCond .lt 29, 3) := by decide +kernel
theorem dX4_hasRange_8 : decode cX4_hasRange 8 = .ok (.iload_n 2, 1) := by decide +kernel
theorem dX4_hasRange_9 : decode cX4_hasRange 9 = .ok (.aload_n 0, 1) := by decide +kernel
theorem dX4_hasRange_10 : decode cX4_hasRange 10 = .ok (.getfield 15, 3) := by decide +kernel
theorem dX4_hasRange_13 : decode cX4_hasRange 13 = .ok (.iload_n 1, 1) := by decide +kernel
theorem dX4_hasRange_14 : decode cX4_hasRange 14 = .ok (.iaload, 1) := by decide +kernel
theorem dX4_hasRange_15 : decode cX4_hasRange 15 = .ok (.if_icmp .gt 19, 3) := by decide +kernel
theorem dX4_hasRange_18 : decode cX4_hasRange 18 = .ok (.iload_n 3, 1) := by decide +kernel
theorem dX4_hasRange_19 : decode cX4_hasRange 19 = .ok (.aload_n 0, 1) := by decide +kernel
theorem dX4_hasRange_20 : decode cX4_hasRange 20 = .ok (.getfield 15, 3) := by decide +kernel
theorem dX4_hasRange_23 : decode cX4_hasRange 23 = .ok (.iload_n 1, 1) := by decide +kernel
theorem dX4_hasRange_24 : decode cX4_hasRange 24 = .ok (.iaload, 1) := by decide +kernel
theorem dX4_hasRange_25 : decode cX4_hasRange 25 = .ok (.iload_n 2, 1) := by decide +kernel
theorem dX4_hasRange_26 : decode cX4_hasRange 26 = .ok (.isub, 1) := by decide +kernel
theorem dX4_hasRange_27 : decode cX4_hasRange 27 = .ok (.if_icmp .gt 7, 3) := by decide +kernel
theorem dX4_hasRange_30 : decode cX4_hasRange 30 = .ok (.iconst 1, 1) := by decide +kernel
theorem dX4_hasRange_31 : decode cX4_hasRange 31 = .ok (.goto 4, 3) := by decide +kernel
theorem dX4_hasRange_34 : decode cX4_hasRange 34 = .ok (.iconst 0, 1) := by decide +kernel
theorem dX4_hasRange_35 : decode cX4_hasRange 35 = .ok (.ireturn, 1) := by decide +kernel
def F_X4_hasRange (x1 : Int32) (x2 : Int32) (x3 : Int32) (M : eMem) : Option Int32 :=
  if x2 < 0 then
    some 0
  else
    if x3 < 0 then
      some 0
    else
      eG (eIn x1 4) <|
      if (M.1 149 x1.toNatClampNeg) < x2 then
        some 0
      else
        eG (eIn x1 4) <|
        if ((M.1 149 x1.toNatClampNeg) - x2) < x3 then
          some 0
        else
          some 1
set_option maxRecDepth 100000 in
set_option maxHeartbeats 4000000 in
theorem ev_X4_hasRange (x1 : Int32) (x2 : Int32) (x3 : Int32) (M : eMem) (q : Int32) (h : F_X4_hasRange x1 x2 x3 M = some q) : Ev layC 0 m_X4_hasRange 0 [some (.ref 147), some (.int x1), some (.int x2), some (.int x3)] [] M (some (.int q), M) := by
  rw [F_X4_hasRange] at h
  refine Ev.iload_n (pc := 0) dX4_hasRange_0 rfl ?_
  refine Ev.if_lt (pc := 1) (tgt := 34) dX4_hasRange_1 (by decide) (fun c9 => ?_) (fun c9 => ?_)
  · have h := eT h c9
    refine Ev.iconst (pc := 34) dX4_hasRange_34 (v := 0) (by decide) ?_
    obtain rfl := Option.some.inj h
    exact Ev.iret (pc := 35) dX4_hasRange_35 rfl rfl
  · have h := eF h c9
    refine Ev.iload_n (pc := 4) dX4_hasRange_4 rfl ?_
    refine Ev.if_lt (pc := 5) (tgt := 34) dX4_hasRange_5 (by decide) (fun c9 => ?_) (fun c9 => ?_)
    · have h := eT h c9
      refine Ev.iconst (pc := 34) dX4_hasRange_34 (v := 0) (by decide) ?_
      obtain rfl := Option.some.inj h
      exact Ev.iret (pc := 35) dX4_hasRange_35 rfl rfl
    · have h := eF h c9
      refine Ev.iload_n (pc := 8) dX4_hasRange_8 rfl ?_
      refine Ev.aload_n (pc := 9) dX4_hasRange_9 rfl ?_
      refine Ev.getR (pc := 10) dX4_hasRange_10 fl_RX4_15 lC_147 rfl ?_
      refine Ev.iload_n (pc := 13) dX4_hasRange_13 rfl ?_
      obtain ⟨g9, h⟩ := eGdB h
      refine Ev.ialdj (pc := 14) dX4_hasRange_14 (j := x1.toNatClampNeg) lC_149 g9 rfl ?_
      refine Ev.icmp_gt (pc := 15) (tgt := 34) dX4_hasRange_15 (by decide) (fun c9 => ?_) (fun c9 => ?_)
      · have h := eT h c9
        refine Ev.iconst (pc := 34) dX4_hasRange_34 (v := 0) (by decide) ?_
        obtain rfl := Option.some.inj h
        exact Ev.iret (pc := 35) dX4_hasRange_35 rfl rfl
      · have h := eF h c9
        refine Ev.iload_n (pc := 18) dX4_hasRange_18 rfl ?_
        refine Ev.aload_n (pc := 19) dX4_hasRange_19 rfl ?_
        refine Ev.getR (pc := 20) dX4_hasRange_20 fl_RX4_15 lC_147 rfl ?_
        refine Ev.iload_n (pc := 23) dX4_hasRange_23 rfl ?_
        obtain ⟨g9, h⟩ := eGdB h
        refine Ev.ialdj (pc := 24) dX4_hasRange_24 (j := x1.toNatClampNeg) lC_149 g9 rfl ?_
        refine Ev.iload_n (pc := 25) dX4_hasRange_25 rfl ?_
        refine Ev.isub (pc := 26) dX4_hasRange_26 ?_
        refine Ev.icmp_gt (pc := 27) (tgt := 34) dX4_hasRange_27 (by decide) (fun c9 => ?_) (fun c9 => ?_)
        · have h := eT h c9
          refine Ev.iconst (pc := 34) dX4_hasRange_34 (v := 0) (by decide) ?_
          obtain rfl := Option.some.inj h
          exact Ev.iret (pc := 35) dX4_hasRange_35 rfl rfl
        · have h := eF h c9
          refine Ev.iconst (pc := 30) dX4_hasRange_30 (v := 1) (by decide) ?_
          refine Ev.goto (pc := 31) (tgt := 35) dX4_hasRange_31 (by decide) ?_
          obtain rfl := Option.some.inj h
          exact Ev.iret (pc := 35) dX4_hasRange_35 rfl rfl
