theorem dX6_readTest_0 : decode cX6_readTest 0 = .ok (.aload_n 1, 1) := by decide +kernel
theorem dX6_readTest_1 : decode cX6_readTest 1 = .ok (.getfield 71, 3) := by decide +kernel
theorem dX6_readTest_4 : decode cX6_readTest 4 = .ok (.iload_n 2, 1) := by decide +kernel
theorem dX6_readTest_5 : decode cX6_readTest 5 = .ok (.aload_n 0, 1) := by decide +kernel
theorem dX6_readTest_6 : decode cX6_readTest 6 = .ok (.bipush 33, 2) := by decide +kernel
theorem dX6_readTest_8 : decode cX6_readTest 8 = .ok (.invokevirtual 31, 3) := by decide +kernel
theorem dX6_readTest_11 : decode cX6_readTest 11 = .ok (.bastore, 1) := by decide +kernel
theorem dX6_readTest_12 : decode cX6_readTest 12 = .ok (.aload_n 0, 1) := by decide +kernel
theorem dX6_readTest_13 : decode cX6_readTest 13 = .ok (.ldc 74, 2) := by decide +kernel
theorem dX6_readTest_15 : decode cX6_readTest 15 = .ok (.invokevirtual 44, 3) := by decide +kernel
theorem dX6_readTest_18 : decode cX6_readTest 18 = .ok (.istore_n 3, 1) := by decide +kernel
theorem dX6_readTest_19 : decode cX6_readTest 19 = .ok (.iload_n 3, 1) := by decide +kernel
theorem dX6_readTest_20 : decode cX6_readTest 20 = .ok (.iconst (-1), 1) := by decide +kernel
theorem dX6_readTest_21 : decode cX6_readTest 21 = .ok (.if_icmp .ne 5, 3) := by decide +kernel
theorem dX6_readTest_24 : decode cX6_readTest 24 = .ok (.iconst 0, 1) := by decide +kernel
theorem dX6_readTest_25 : decode cX6_readTest 25 = .ok (.ireturn, 1) := by decide +kernel
theorem dX6_readTest_26 : decode cX6_readTest 26 = .ok (.aload_n 0, 1) := by decide +kernel
theorem dX6_readTest_27 : decode cX6_readTest 27 = .ok (.ldc 76, 2) := by decide +kernel
theorem dX6_readTest_29 : decode cX6_readTest 29 = .ok (.invokevirtual 44, 3) := by decide +kernel
theorem dX6_readTest_32 : decode cX6_readTest 32 = .ok (.istore 4, 2) := by decide +kernel
theorem dX6_readTest_34 : decode cX6_readTest 34 = .ok (.iload 4, 2) := by decide +kernel
theorem dX6_readTest_36 : decode cX6_readTest 36 = .ok (.iconst (-1), 1) := by decide +kernel
theorem dX6_readTest_37 : decode cX6_readTest 37 = .ok (.if_icmp .ne 5, 3) := by decide +kernel
theorem dX6_readTest_40 : decode cX6_readTest 40 = .ok (.iconst 0, 1) := by decide +kernel
theorem dX6_readTest_41 : decode cX6_readTest 41 = .ok (.ireturn, 1) := by decide +kernel
theorem dX6_readTest_42 : decode cX6_readTest 42 = .ok (.aload_n 0, 1) := by decide +kernel
theorem dX6_readTest_43 : decode cX6_readTest 43 = .ok (.getfield 23, 3) := by decide +kernel
theorem dX6_readTest_46 : decode cX6_readTest 46 = .ok (.istore 5, 2) := by decide +kernel
theorem dX6_readTest_48 : decode cX6_readTest 48 = .ok (.iconst 0, 1) := by decide +kernel
theorem dX6_readTest_49 : decode cX6_readTest 49 = .ok (.istore 6, 2) := by decide +kernel
theorem dX6_readTest_51 : decode cX6_readTest 51 = .ok (.aload_n 0, 1) := by decide +kernel
theorem dX6_readTest_52 : decode cX6_readTest 52 = .ok (.getfield 23, 3) := by decide +kernel
theorem dX6_readTest_55 : decode cX6_readTest 55 = .ok (.aload_n 0, 1) := by decide +kernel
theorem dX6_readTest_56 : decode cX6_readTest 56 = .ok (.getfield 15, 3) := by decide +kernel
theorem dX6_readTest_59 : decode cX6_readTest 59 = .ok (.if_icmp .ge 66, 3) := by decide +kernel
theorem dX6_readTest_62 : decode cX6_readTest 62 = .ok (.aload_n 0, 1) := by decide +kernel
theorem dX6_readTest_63 : decode cX6_readTest 63 = .ok (.getfield 23, 3) := by decide +kernel
theorem dX6_readTest_66 : decode cX6_readTest 66 = .ok (.iload 5, 2) := by decide +kernel
theorem dX6_readTest_68 : decode cX6_readTest 68 = .ok (.iconst 4, 1) := by decide +kernel
theorem dX6_readTest_69 : decode cX6_readTest 69 = .ok (.iadd, 1) := by decide +kernel
theorem dX6_readTest_70 : decode cX6_readTest 70 = .ok (.if_icmp .ge 55, 3) := by decide +kernel
theorem dX6_readTest_73 : decode cX6_readTest 73 = .ok (.aload_n 0, 1) := by decide +kernel
theorem dX6_readTest_74 : decode cX6_readTest 74 = .ok (.getfield 9, 3) := by decide +kernel
theorem dX6_readTest_77 : decode cX6_readTest 77 = .ok (.aload_n 0, 1) := by decide +kernel
theorem dX6_readTest_78 : decode cX6_readTest 78 = .ok (.getfield 23, 3) := by decide +kernel
theorem dX6_readTest_81 : decode cX6_readTest 81 = .ok (.iaload, 1) := by decide +kernel
theorem dX6_readTest_82 : decode cX6_readTest 82 = .ok (.bipush 48, 2) := by decide +kernel
theorem dX6_readTest_84 : decode cX6_readTest 84 = .ok (.bipush 57, 2) := by decide +kernel
theorem dX6_readTest_86 : decode cX6_readTest 86 = .ok (.invokestatic 78, 3) := by decide +kernel
theorem dX6_readTest_89 : decode cX6_readTest 89 = .ok (.ifCond .eq 36, 3) := by decide +kernel
theorem dX6_readTest_92 : decode cX6_readTest 92 = .ok (.bipush 10, 2) := by decide +kernel
theorem dX6_readTest_94 : decode cX6_readTest 94 = .ok (.iload 6, 2) := by decide +kernel
theorem dX6_readTest_96 : decode cX6_readTest 96 = .ok (.imul, 1) := by decide +kernel
theorem dX6_readTest_97 : decode cX6_readTest 97 = .ok (.aload_n 0, 1) := by decide +kernel
theorem dX6_readTest_98 : decode cX6_readTest 98 = .ok (.getfield 9, 3) := by decide +kernel
theorem dX6_readTest_101 : decode cX6_readTest 101 = .ok (.aload_n 0, 1) := by decide +kernel
theorem dX6_readTest_102 : decode cX6_readTest 102 = .ok (.getfield 23, 3) := by decide +kernel
theorem dX6_readTest_105 : decode cX6_readTest 105 = .ok (.iaload, 1) := by decide +kernel
theorem dX6_readTest_106 : decode cX6_readTest 106 = .ok (.iadd, 1) := by decide +kernel
theorem dX6_readTest_107 : decode cX6_readTest 107 = .ok (.bipush 48, 2) := by decide +kernel
theorem dX6_readTest_109 : decode cX6_readTest 109 = .ok (.isub, 1) := by decide +kernel
theorem dX6_readTest_110 : decode cX6_readTest 110 = .ok (.istore 6, 2) := by decide +kernel
theorem dX6_readTest_112 : decode cX6_readTest 112 = .ok (.aload_n 0, 1) := by decide +kernel
theorem dX6_readTest_113 : decode cX6_readTest 113 = .ok (.dup, 1) := by decide +kernel
theorem dX6_readTest_114 : decode cX6_readTest 114 = .ok (.getfield 23, 3) := by decide +kernel
theorem dX6_readTest_117 : decode cX6_readTest 117 = .ok (.iconst 1, 1) := by decide +kernel
theorem dX6_readTest_118 : decode cX6_readTest 118 = .ok (.iadd, 1) := by decide +kernel
theorem dX6_readTest_119 : decode cX6_readTest 119 = .ok (.putfield 23, 3) := by decide +kernel
theorem dX6_readTest_122 : decode cX6_readTest 122 = .ok (.goto (-71), 3) := by decide +kernel
theorem dX6_readTest_125 : decode cX6_readTest 125 = .ok (.aload_n 1, 1) := by decide +kernel
theorem dX6_readTest_126 : decode cX6_readTest 126 = .ok (.getfield 82, 3) := by decide +kernel
theorem dX6_readTest_129 : decode cX6_readTest 129 = .ok (.iload_n 2, 1) := by decide +kernel
theorem dX6_readTest_130 : decode cX6_readTest 130 = .ok (.iload_n 3, 1) := by decide +kernel
theorem dX6_readTest_131 : decode cX6_readTest 131 = .ok (.iastore, 1) := by decide +kernel
theorem dX6_readTest_132 : decode cX6_readTest 132 = .ok (.aload_n 1, 1) := by decide +kernel
theorem dX6_readTest_133 : decode cX6_readTest 133 = .ok (.getfield 85, 3) := by decide +kernel
theorem dX6_readTest_136 : decode cX6_readTest 136 = .ok (.iload_n 2, 1) := by decide +kernel
theorem dX6_readTest_137 : decode cX6_readTest 137 = .ok (.iload 4, 2) := by decide +kernel
theorem dX6_readTest_139 : decode cX6_readTest 139 = .ok (.iastore, 1) := by decide +kernel
theorem dX6_readTest_140 : decode cX6_readTest 140 = .ok (.aload_n 1, 1) := by decide +kernel
theorem dX6_readTest_141 : decode cX6_readTest 141 = .ok (.getfield 88, 3) := by decide +kernel
theorem dX6_readTest_144 : decode cX6_readTest 144 = .ok (.iload_n 2, 1) := by decide +kernel
theorem dX6_readTest_145 : decode cX6_readTest 145 = .ok (.iload 6, 2) := by decide +kernel
theorem dX6_readTest_147 : decode cX6_readTest 147 = .ok (.iastore, 1) := by decide +kernel
theorem dX6_readTest_148 : decode cX6_readTest 148 = .ok (.aload_n 0, 1) := by decide +kernel
theorem dX6_readTest_149 : decode cX6_readTest 149 = .ok (.getfield 23, 3) := by decide +kernel
theorem dX6_readTest_152 : decode cX6_readTest 152 = .ok (.iload 5, 2) := by decide +kernel
theorem dX6_readTest_154 : decode cX6_readTest 154 = .ok (.if_icmp .le 7, 3) := by decide +kernel
theorem dX6_readTest_157 : decode cX6_readTest 157 = .ok (.iconst 1, 1) := by decide +kernel
theorem dX6_readTest_158 : decode cX6_readTest 158 = .ok (.goto 4, 3) := by decide +kernel
theorem dX6_readTest_161 : decode cX6_readTest 161 = .ok (.iconst 0, 1) := by decide +kernel
theorem dX6_readTest_162 : decode cX6_readTest 162 = .ok (.ireturn, 1) := by decide +kernel
def F_X6_readTest_51 (K125 : Int32 → Int32 → Int32 → Int32 → Int32 → eMem → Option (Int32 × eMem)) : Nat → Int32 → Int32 → Int32 → Int32 → Int32 → eMem → Option (Int32 × eMem)
  | 0, _, _, _, _, _, _ => none
  | n + 1, v2, v3, v4, v5, v6, M =>
    if (M.1 145 2) < (M.1 145 1) then
      if (M.1 145 2) < (v5 + 4) then
        eG (eIn (M.1 145 2) 120) <|
        (F_X9_isBetween (M.1 146 (M.1 145 2).toNatClampNeg) 48 57).bind fun q4 =>
        if q4 = 0 then
          K125 v2 v3 v4 v5 v6 M
        else
          eG (eIn (M.1 145 2) 120) <|
          F_X6_readTest_51 K125 n v2 v3 v4 v5 (((10 * v6) + (M.1 146 (M.1 145 2).toNatClampNeg)) - 48) (eI M 145 2 ((M.1 145 2) + 1))
      else
        K125 v2 v3 v4 v5 v6 M
    else
      K125 v2 v3 v4 v5 v6 M
set_option maxRecDepth 100000 in
set_option maxHeartbeats 4000000 in
theorem ev_X6_readTest_51 (K125 : Int32 → Int32 → Int32 → Int32 → Int32 → eMem → Option (Int32 × eMem)) (q : (Int32 × eMem)) (hK125 : ∀ (v2 : Int32) (v3 : Int32) (v4 : Int32) (v5 : Int32) (v6 : Int32) (M : eMem), K125 v2 v3 v4 v5 v6 M = some q → Ev layC 7 m_X6_readTest 125 [some (.ref 145), some (.ref 40), some (.int v2), some (.int v3), some (.int v4), some (.int v5), some (.int v6)] [] M (some (.int q.1), q.2)) : ∀ (fuel : Nat) (v2 : Int32) (v3 : Int32) (v4 : Int32) (v5 : Int32) (v6 : Int32) (M : eMem), F_X6_readTest_51 K125 fuel v2 v3 v4 v5 v6 M = some q → Ev layC 7 m_X6_readTest 51 [some (.ref 145), some (.ref 40), some (.int v2), some (.int v3), some (.int v4), some (.int v5), some (.int v6)] [] M (some (.int q.1), q.2) := by
  intro fuel
  induction fuel with
  | zero => intro v2 v3 v4 v5 v6 M h; rw [F_X6_readTest_51] at h; cases h
  | succ n ih =>
    intro v2 v3 v4 v5 v6 M h
    rw [F_X6_readTest_51] at h
    refine Ev.aload_n (pc := 51) dX6_readTest_51 rfl ?_
    refine Ev.getI (pc := 52) dX6_readTest_52 fl_RX6_23 lC_145 rfl ?_
    refine Ev.aload_n (pc := 55) dX6_readTest_55 rfl ?_
    refine Ev.getI (pc := 56) dX6_readTest_56 fl_RX6_15 lC_145 rfl ?_
    refine Ev.icmp_ge (pc := 59) (tgt := 125) dX6_readTest_59 (by decide) (fun c9 => ?_) (fun c9 => ?_)
    · have h := eF h c9
      exact Ev.fg (hK125 _ _ _ _ _ _ h) (And.intro rfl (And.intro rfl (And.intro rfl (And.intro rfl (And.intro rfl (And.intro rfl (And.intro rfl trivial)))))))
    · have h := eT h c9
      refine Ev.aload_n (pc := 62) dX6_readTest_62 rfl ?_
      refine Ev.getI (pc := 63) dX6_readTest_63 fl_RX6_23 lC_145 rfl ?_
      refine Ev.iload (pc := 66) dX6_readTest_66 rfl ?_
      refine Ev.iconst (pc := 68) dX6_readTest_68 (v := 4) (by decide) ?_
      refine Ev.iadd (pc := 69) dX6_readTest_69 ?_
      refine Ev.icmp_ge (pc := 70) (tgt := 125) dX6_readTest_70 (by decide) (fun c9 => ?_) (fun c9 => ?_)
      · have h := eF h c9
        exact Ev.fg (hK125 _ _ _ _ _ _ h) (And.intro rfl (And.intro rfl (And.intro rfl (And.intro rfl (And.intro rfl (And.intro rfl (And.intro rfl trivial)))))))
      · have h := eT h c9
        refine Ev.aload_n (pc := 73) dX6_readTest_73 rfl ?_
        refine Ev.getR (pc := 74) dX6_readTest_74 fl_RX6_9 lC_145 rfl ?_
        refine Ev.aload_n (pc := 77) dX6_readTest_77 rfl ?_
        refine Ev.getI (pc := 78) dX6_readTest_78 fl_RX6_23 lC_145 rfl ?_
        obtain ⟨g9, h⟩ := eGdB h
        refine Ev.ialdj (pc := 81) dX6_readTest_81 (j := (M.1 145 2).toNatClampNeg) lC_146 g9 rfl ?_
        refine Ev.bipush (pc := 82) dX6_readTest_82 (v := 48) (by decide) ?_
        refine Ev.bipush (pc := 84) dX6_readTest_84 (v := 57) (by decide) ?_
        refine eBk h (fun q4 hq4 h => ?_)
        refine Ev.callSN (host := "GhostCoast") (pc := 86) (as := [.int (M.1 146 (M.1 145 2).toNatClampNeg), .int 48, .int 57]) (st := []) (z := 0) dX6_readTest_86 wc_X9_isBetween mn_RX6_78 sm_X9_isBetween (ev_X9_isBetween (M.1 146 (M.1 145 2).toNatClampNeg) 48 57 M _ hq4) rfl rfl (by decide) rfl rfl (Nat.le_of_ble_eq_true rfl) ?_
        refine Ev.if_eq (pc := 89) (tgt := 125) dX6_readTest_89 (by decide) (fun c9 => ?_) (fun c9 => ?_)
        · have h := eT h c9
          exact Ev.fg (hK125 _ _ _ _ _ _ h) (And.intro rfl (And.intro rfl (And.intro rfl (And.intro rfl (And.intro rfl (And.intro rfl (And.intro rfl trivial)))))))
        · have h := eF h c9
          refine Ev.bipush (pc := 92) dX6_readTest_92 (v := 10) (by decide) ?_
          refine Ev.iload (pc := 94) dX6_readTest_94 rfl ?_
          refine Ev.imul (pc := 96) dX6_readTest_96 ?_
          refine Ev.aload_n (pc := 97) dX6_readTest_97 rfl ?_
          refine Ev.getR (pc := 98) dX6_readTest_98 fl_RX6_9 lC_145 rfl ?_
          refine Ev.aload_n (pc := 101) dX6_readTest_101 rfl ?_
          refine Ev.getI (pc := 102) dX6_readTest_102 fl_RX6_23 lC_145 rfl ?_
          obtain ⟨g9, h⟩ := eGdB h
          refine Ev.ialdj (pc := 105) dX6_readTest_105 (j := (M.1 145 2).toNatClampNeg) lC_146 g9 rfl ?_
          refine Ev.iadd (pc := 106) dX6_readTest_106 ?_
          refine Ev.bipush (pc := 107) dX6_readTest_107 (v := 48) (by decide) ?_
          refine Ev.isub (pc := 109) dX6_readTest_109 ?_
          refine Ev.istore (pc := 110) dX6_readTest_110 (by decide) rfl rfl ?_
          refine Ev.aload_n (pc := 112) dX6_readTest_112 rfl ?_
          refine Ev.dup (pc := 113) dX6_readTest_113 rfl ?_
          refine Ev.getI (pc := 114) dX6_readTest_114 fl_RX6_23 lC_145 rfl ?_
          refine Ev.iconst (pc := 117) dX6_readTest_117 (v := 1) (by decide) ?_
          refine Ev.iadd (pc := 118) dX6_readTest_118 ?_
          refine Ev.putI (pc := 119) dX6_readTest_119 fp_RX6_23 lC_145 rfl rfl rfl ?_
          refine Ev.goto (pc := 122) (tgt := 51) dX6_readTest_122 (by decide) ?_
          exact Ev.fg (ih _ _ _ _ _ _ h) (And.intro rfl (And.intro rfl (And.intro rfl (And.intro rfl (And.intro rfl (And.intro rfl (And.intro rfl trivial)))))))
def F_X6_readTest (x2 : Int32) (M : eMem) : Option (Int32 × eMem) :=
  (F_X6_take 33 M).bind fun q1 =>
  eG (eIn x2 320) <|
  (F_X6_choose_v4 (eI q1.2 48 x2.toNatClampNeg (vp_nar .boolean q1.1))).bind fun q2 =>
  if q2.1 = (-1) then
    some (0, q2.2)
  else
    (F_X6_choose_v5 q2.2).bind fun q3 =>
    if q3.1 = (-1) then
      some (0, q3.2)
    else
      F_X6_readTest_51
        (fun v2 v3 v4 v5 v6 M =>
          eG (eIn v2 320) <|
          eG (eIn v2 320) <|
          eG (eIn v2 320) <|
          if v5 < (M.1 145 2) then
            some (1, (eI (eI (eI M 50 v2.toNatClampNeg v3) 51 v2.toNatClampNeg v4) 52 v2.toNatClampNeg v6))
          else
            some (0, (eI (eI (eI M 50 v2.toNatClampNeg v3) 51 v2.toNatClampNeg v4) 52 v2.toNatClampNeg v6)))
        eFuel x2 q2.1 q3.1 (q3.2.1 145 2) 0 q3.2
set_option maxRecDepth 100000 in
set_option maxHeartbeats 4000000 in
theorem ev_X6_readTest (x2 : Int32) (M : eMem) (q : (Int32 × eMem)) (h : F_X6_readTest x2 M = some q) : Ev layC 7 m_X6_readTest 0 [some (.ref 145), some (.ref 40), some (.int x2), none, none, none, none] [] M (some (.int q.1), q.2) := by
  rw [F_X6_readTest] at h
  refine Ev.aload_n (pc := 0) dX6_readTest_0 rfl ?_
  refine Ev.getR (pc := 1) dX6_readTest_1 fl_RX6_71 lC_40 rfl ?_
  refine Ev.iload_n (pc := 4) dX6_readTest_4 rfl ?_
  refine Ev.aload_n (pc := 5) dX6_readTest_5 rfl ?_
  refine Ev.bipush (pc := 6) dX6_readTest_6 (v := 33) (by decide) ?_
  refine eBk h (fun q1 hq1 h => ?_)
  refine Ev.callV (pc := 8) (as := [.int 33]) (st := [.int x2, .ref 48]) (z := 0) dX6_readTest_8 wc_X6_take ml_RX6_31 im_X6_take se_X6_take lC_145 rfl rfl (ev_X6_take 33 M _ hq1) rfl rfl (by decide) rfl rfl (Nat.le_of_ble_eq_true rfl) ?_
  obtain ⟨g9, h⟩ := eGdB h
  refine Ev.zastj (pc := 11) dX6_readTest_11 (j := x2.toNatClampNeg) lC_48 g9 rfl ?_
  refine Ev.aload_n (pc := 12) dX6_readTest_12 rfl ?_
  refine Ev.ldcS (pc := 13) dX6_readTest_13 (j := 3) (by decide) rfl rfl ?_
  refine eBk h (fun q2 hq2 h => ?_)
  refine Ev.callV (pc := 15) (as := [.ref 2003]) (st := []) (z := 5) dX6_readTest_15 wc_X6_choose ml_RX6_44 im_X6_choose se_X6_choose lC_145 rfl rfl (ev_X6_choose_v4  (eI q1.2 48 x2.toNatClampNeg (vp_nar .boolean q1.1)) _ hq2) rfl rfl (by decide) rfl rfl (Nat.le_of_ble_eq_true rfl) ?_
  refine Ev.istore_n (pc := 18) dX6_readTest_18 (by decide) rfl rfl ?_
  refine Ev.iload_n (pc := 19) dX6_readTest_19 rfl ?_
  refine Ev.iconst (pc := 20) dX6_readTest_20 (v := (-1)) (by decide) ?_
  refine Ev.icmp_ne (pc := 21) (tgt := 26) dX6_readTest_21 (by decide) (fun c9 => ?_) (fun c9 => ?_)
  · have h := eF h c9
    refine Ev.aload_n (pc := 26) dX6_readTest_26 rfl ?_
    refine Ev.ldcS (pc := 27) dX6_readTest_27 (j := 4) (by decide) rfl rfl ?_
    refine eBk h (fun q3 hq3 h => ?_)
    refine Ev.callV (pc := 29) (as := [.ref 2004]) (st := []) (z := 5) dX6_readTest_29 wc_X6_choose ml_RX6_44 im_X6_choose se_X6_choose lC_145 rfl rfl (ev_X6_choose_v5  q2.2 _ hq3) rfl rfl (by decide) rfl rfl (Nat.le_of_ble_eq_true rfl) ?_
    refine Ev.istore (pc := 32) dX6_readTest_32 (by decide) rfl rfl ?_
    refine Ev.iload (pc := 34) dX6_readTest_34 rfl ?_
    refine Ev.iconst (pc := 36) dX6_readTest_36 (v := (-1)) (by decide) ?_
    refine Ev.icmp_ne (pc := 37) (tgt := 42) dX6_readTest_37 (by decide) (fun c9 => ?_) (fun c9 => ?_)
    · have h := eF h c9
      refine Ev.aload_n (pc := 42) dX6_readTest_42 rfl ?_
      refine Ev.getI (pc := 43) dX6_readTest_43 fl_RX6_23 lC_145 rfl ?_
      refine Ev.istore (pc := 46) dX6_readTest_46 (by decide) rfl rfl ?_
      refine Ev.iconst (pc := 48) dX6_readTest_48 (v := 0) (by decide) ?_
      refine Ev.istore (pc := 49) dX6_readTest_49 (by decide) rfl rfl ?_
      refine Ev.fg (ev_X6_readTest_51 _ _ ?_ _ _ _ _ _ _ _ h) (And.intro rfl (And.intro rfl (And.intro rfl (And.intro rfl (And.intro rfl (And.intro rfl (And.intro rfl trivial)))))))
      · intro v2 v3 v4 v5 v6 M h
        refine Ev.aload_n (pc := 125) dX6_readTest_125 rfl ?_
        refine Ev.getR (pc := 126) dX6_readTest_126 fl_RX6_82 lC_40 rfl ?_
        refine Ev.iload_n (pc := 129) dX6_readTest_129 rfl ?_
        refine Ev.iload_n (pc := 130) dX6_readTest_130 rfl ?_
        obtain ⟨g9, h⟩ := eGdB h
        refine Ev.iastj (pc := 131) dX6_readTest_131 (j := v2.toNatClampNeg) lC_50 g9 rfl ?_
        refine Ev.aload_n (pc := 132) dX6_readTest_132 rfl ?_
        refine Ev.getR (pc := 133) dX6_readTest_133 fl_RX6_85 lC_40 rfl ?_
        refine Ev.iload_n (pc := 136) dX6_readTest_136 rfl ?_
        refine Ev.iload (pc := 137) dX6_readTest_137 rfl ?_
        obtain ⟨g9, h⟩ := eGdB h
        refine Ev.iastj (pc := 139) dX6_readTest_139 (j := v2.toNatClampNeg) lC_51 g9 rfl ?_
        refine Ev.aload_n (pc := 140) dX6_readTest_140 rfl ?_
        refine Ev.getR (pc := 141) dX6_readTest_141 fl_RX6_88 lC_40 rfl ?_
        refine Ev.iload_n (pc := 144) dX6_readTest_144 rfl ?_
        refine Ev.iload (pc := 145) dX6_readTest_145 rfl ?_
        obtain ⟨g9, h⟩ := eGdB h
        refine Ev.iastj (pc := 147) dX6_readTest_147 (j := v2.toNatClampNeg) lC_52 g9 rfl ?_
        refine Ev.aload_n (pc := 148) dX6_readTest_148 rfl ?_
        refine Ev.getIv (pc := 149) dX6_readTest_149 (v := (M.1 145 2)) fl_RX6_23 lC_145 rfl ((eI_n (by decide)).trans ((eI_n (by decide)).trans (eI_n (by decide)))) ?_
        refine Ev.iload (pc := 152) dX6_readTest_152 rfl ?_
        refine Ev.icmp_le (pc := 154) (tgt := 161) dX6_readTest_154 (by decide) (fun c9 => ?_) (fun c9 => ?_)
        · have h := eF h c9
          refine Ev.iconst (pc := 161) dX6_readTest_161 (v := 0) (by decide) ?_
          obtain rfl := Option.some.inj h
          exact Ev.iret (pc := 162) dX6_readTest_162 rfl rfl
        · have h := eT h c9
          refine Ev.iconst (pc := 157) dX6_readTest_157 (v := 1) (by decide) ?_
          refine Ev.goto (pc := 158) (tgt := 162) dX6_readTest_158 (by decide) ?_
          obtain rfl := Option.some.inj h
          exact Ev.iret (pc := 162) dX6_readTest_162 rfl rfl
    · have h := eT h c9
      refine Ev.iconst (pc := 40) dX6_readTest_40 (v := 0) (by decide) ?_
      obtain rfl := Option.some.inj h
      exact Ev.iret (pc := 41) dX6_readTest_41 rfl rfl
  · have h := eT h c9
    refine Ev.iconst (pc := 24) dX6_readTest_24 (v := 0) (by decide) ?_
    obtain rfl := Option.some.inj h
    exact Ev.iret (pc := 25) dX6_readTest_25 rfl rfl
theorem dX6_readTests_0 : decode cX6_readTests 0 = .ok (.iconst 0, 1) := by decide +kernel
theorem dX6_readTests_1 : decode cX6_readTests 1 = .ok (.istore_n 3, 1) := by decide +kernel
theorem dX6_readTests_2 : decode cX6_readTests 2 = .ok (.iconst 0, 1) := by decide +kernel
theorem dX6_readTests_3 : decode cX6_readTests 3 = .ok (.istore 4, 2) := by decide +kernel
theorem dX6_readTests_5 : decode cX6_readTests 5 = .ok (.iload 4, 2) := by decide +kernel
theorem dX6_readTests_7 : decode cX6_readTests 7 = .ok (.iconst 4, 1) := by decide +kernel
theorem dX6_readTests_8 : decode cX6_readTests 8 = .ok (.if_icmp .ge 79, 3) := by decide +kernel
theorem dX6_readTests_11 : decode cX6_readTests 11 = .ok (.iconst 4, 1) := by decide +kernel
theorem dX6_readTests_12 : decode cX6_readTests 12 = .ok (.iload_n 2, 1) := by decide +kernel
theorem dX6_readTests_13 : decode cX6_readTests 13 = .ok (.imul, 1) := by decide +kernel
theorem dX6_readTests_14 : decode cX6_readTests 14 = .ok (.iload 4, 2) := by decide +kernel
theorem dX6_readTests_16 : decode cX6_readTests 16 = .ok (.iadd, 1) := by decide +kernel
theorem dX6_readTests_17 : decode cX6_readTests 17 = .ok (.istore 5, 2) := by decide +kernel
theorem dX6_readTests_19 : decode cX6_readTests 19 = .ok (.aload_n 1, 1) := by decide +kernel
theorem dX6_readTests_20 : decode cX6_readTests 20 = .ok (.getfield 64, 3) := by decide +kernel
theorem dX6_readTests_23 : decode cX6_readTests 23 = .ok (.iload 5, 2) := by decide +kernel
theorem dX6_readTests_25 : decode cX6_readTests 25 = .ok (.iload_n 3, 1) := by decide +kernel
theorem dX6_readTests_26 : decode cX6_readTests 26 = .ok (.bastore, 1) := by decide +kernel
theorem dX6_readTests_27 : decode cX6_readTests 27 = .ok (.aload_n 0, 1) := by decide +kernel
theorem dX6_readTests_28 : decode cX6_readTests 28 = .ok (.aload_n 1, 1) := by decide +kernel
theorem dX6_readTests_29 : decode cX6_readTests 29 = .ok (.iload 5, 2) := by decide +kernel
theorem dX6_readTests_31 : decode cX6_readTests 31 = .ok (.invokevirtual 68, 3) := by decide +kernel
theorem dX6_readTests_34 : decode cX6_readTests 34 = .ok (.ifCond .ne 5, 3) := by decide +kernel
theorem dX6_readTests_37 : decode cX6_readTests 37 = .ok (.iconst 0, 1) := by decide +kernel
theorem dX6_readTests_38 : decode cX6_readTests 38 = .ok (.ireturn, 1) := by decide +kernel
theorem dX6_readTests_39 : decode cX6_readTests 39 = .ok (.aload_n 1, 1) := by decide +kernel
theorem dX6_readTests_40 : decode cX6_readTests 40 = .ok (.getfield 56, 3) := by decide +kernel
theorem dX6_readTests_43 : decode cX6_readTests 43 = .ok (.iload_n 2, 1) := by decide +kernel
theorem dX6_readTests_44 : decode cX6_readTests 44 = .ok (.iload 4, 2) := by decide +kernel
theorem dX6_readTests_46 : decode cX6_readTests 46 = .ok (.iconst 1, 1) := by decide +kernel
theorem dX6_readTests_47 : decode cX6_readTests 47 = .ok (.iadd, 1) := by decide +kernel
theorem dX6_readTests_48 : decode cX6_readTests 48 = .ok (.iastore, 1) := by decide +kernel
theorem dX6_readTests_49 : decode cX6_readTests 49 = .ok (.iload 4, 2) := by decide +kernel
theorem dX6_readTests_51 : decode cX6_readTests 51 = .ok (.iconst 1, 1) := by decide +kernel
theorem dX6_readTests_52 : decode cX6_readTests 52 = .ok (.iadd, 1) := by decide +kernel
theorem dX6_readTests_53 : decode cX6_readTests 53 = .ok (.iconst 4, 1) := by decide +kernel
theorem dX6_readTests_54 : decode cX6_readTests 54 = .ok (.if_icmp .ne 5, 3) := by decide +kernel
theorem dX6_readTests_57 : decode cX6_readTests 57 = .ok (.iconst 1, 1) := by decide +kernel
theorem dX6_readTests_58 : decode cX6_readTests 58 = .ok (.ireturn, 1) := by decide +kernel
theorem dX6_readTests_59 : decode cX6_readTests 59 = .ok (.aload_n 0, 1) := by decide +kernel
theorem dX6_readTests_60 : decode cX6_readTests 60 = .ok (.bipush 124, 2) := by decide +kernel
theorem dX6_readTests_62 : decode cX6_readTests 62 = .ok (.invokevirtual 31, 3) := by decide +kernel
theorem dX6_readTests_65 : decode cX6_readTests 65 = .ok (.istore_n 3, 1) := by decide +kernel
theorem dX6_readTests_66 : decode cX6_readTests 66 = .ok (.iload_n 3, 1) := by decide +kernel
theorem dX6_readTests_67 : decode cX6_readTests 67 = .ok (.ifCond .ne 14, 3) := by decide +kernel
theorem dX6_readTests_70 : decode cX6_readTests 70 = .ok (.aload_n 0, 1) := by decide +kernel
theorem dX6_readTests_71 : decode cX6_readTests 71 = .ok (.bipush 38, 2) := by decide +kernel
theorem dX6_readTests_73 : decode cX6_readTests 73 = .ok (.invokevirtual 31, 3) := by decide +kernel
theorem dX6_readTests_76 : decode cX6_readTests 76 = .ok (.ifCond .ne 5, 3) := by decide +kernel
theorem dX6_readTests_79 : decode cX6_readTests 79 = .ok (.iconst 1, 1) := by decide +kernel
theorem dX6_readTests_80 : decode cX6_readTests 80 = .ok (.ireturn, 1) := by decide +kernel
theorem dX6_readTests_81 : decode cX6_readTests 81 = .ok (.iinc 4 1, 3) := by decide +kernel
theorem dX6_readTests_84 : decode cX6_readTests 84 = .ok (.goto (-79), 3) := by decide +kernel
theorem dX6_readTests_87 : decode cX6_readTests 87 = .ok (.iconst 1, 1) := by decide +kernel
theorem dX6_readTests_88 : decode cX6_readTests 88 = .ok (.ireturn, 1) := by decide +kernel
def F_X6_readTests_5  : Nat → Int32 → Int32 → Int32 → eMem → Option (Int32 × eMem)
  | 0, _, _, _, _ => none
  | n + 1, v2, v3, v4, M =>
    if v4 < 4 then
      eG (eIn ((4 * v2) + v4) 320) <|
      (F_X6_readTest ((4 * v2) + v4) (eI M 49 ((4 * v2) + v4).toNatClampNeg (vp_nar .boolean v3))).bind fun q1 =>
      if q1.1 = 0 then
        some (0, q1.2)
      else
        eG (eIn v2 80) <|
        if (v4 + 1) = 4 then
          some (1, (eI q1.2 47 v2.toNatClampNeg (v4 + 1)))
        else
          (F_X6_take 124 (eI q1.2 47 v2.toNatClampNeg (v4 + 1))).bind fun q2 =>
          if q2.1 = 0 then
            (F_X6_take 38 q2.2).bind fun q3 =>
            if q3.1 = 0 then
              some (1, q3.2)
            else
              F_X6_readTests_5 n v2 q2.1 (v4 + 1) q3.2
          else
            F_X6_readTests_5 n v2 q2.1 (v4 + 1) q2.2
    else
      some (1, M)
set_option maxRecDepth 100000 in
set_option maxHeartbeats 4000000 in
theorem ev_X6_readTests_5  (q : (Int32 × eMem))  : ∀ (fuel : Nat) (v2 : Int32) (v3 : Int32) (v4 : Int32) (M : eMem), F_X6_readTests_5 fuel v2 v3 v4 M = some q → Ev layC 8 m_X6_readTests 5 [some (.ref 145), some (.ref 40), some (.int v2), some (.int v3), some (.int v4), none] [] M (some (.int q.1), q.2) := by
  intro fuel
  induction fuel with
  | zero => intro v2 v3 v4 M h; rw [F_X6_readTests_5] at h; cases h
  | succ n ih =>
    intro v2 v3 v4 M h
    rw [F_X6_readTests_5] at h
    refine Ev.iload (pc := 5) dX6_readTests_5 rfl ?_
    refine Ev.iconst (pc := 7) dX6_readTests_7 (v := 4) (by decide) ?_
    refine Ev.icmp_ge (pc := 8) (tgt := 87) dX6_readTests_8 (by decide) (fun c9 => ?_) (fun c9 => ?_)
    · have h := eF h c9
      refine Ev.iconst (pc := 87) dX6_readTests_87 (v := 1) (by decide) ?_
      obtain rfl := Option.some.inj h
      exact Ev.iret (pc := 88) dX6_readTests_88 rfl rfl
    · have h := eT h c9
      refine Ev.iconst (pc := 11) dX6_readTests_11 (v := 4) (by decide) ?_
      refine Ev.iload_n (pc := 12) dX6_readTests_12 rfl ?_
      refine Ev.imul (pc := 13) dX6_readTests_13 ?_
      refine Ev.iload (pc := 14) dX6_readTests_14 rfl ?_
      refine Ev.iadd (pc := 16) dX6_readTests_16 ?_
      refine Ev.istore (pc := 17) dX6_readTests_17 (by decide) rfl rfl ?_
      refine Ev.aload_n (pc := 19) dX6_readTests_19 rfl ?_
      refine Ev.getR (pc := 20) dX6_readTests_20 fl_RX6_64 lC_40 rfl ?_
      refine Ev.iload (pc := 23) dX6_readTests_23 rfl ?_
      refine Ev.iload_n (pc := 25) dX6_readTests_25 rfl ?_
      obtain ⟨g9, h⟩ := eGdB h
      refine Ev.zastj (pc := 26) dX6_readTests_26 (j := ((4 * v2) + v4).toNatClampNeg) lC_49 g9 rfl ?_
      refine Ev.aload_n (pc := 27) dX6_readTests_27 rfl ?_
      refine Ev.aload_n (pc := 28) dX6_readTests_28 rfl ?_
      refine Ev.iload (pc := 29) dX6_readTests_29 rfl ?_
      refine eBk h (fun q1 hq1 h => ?_)
      refine Ev.callV (pc := 31) (as := [.ref 40, .int ((4 * v2) + v4)]) (st := []) (z := 4) dX6_readTests_31 wc_X6_readTest ml_RX6_68 im_X6_readTest se_X6_readTest lC_145 rfl rfl (ev_X6_readTest ((4 * v2) + v4) (eI M 49 ((4 * v2) + v4).toNatClampNeg (vp_nar .boolean v3)) _ hq1) rfl rfl (by decide) rfl rfl (Nat.le_of_ble_eq_true rfl) ?_
      refine Ev.if_ne (pc := 34) (tgt := 39) dX6_readTests_34 (by decide) (fun c9 => ?_) (fun c9 => ?_)
      · have h := eF h c9
        refine Ev.aload_n (pc := 39) dX6_readTests_39 rfl ?_
        refine Ev.getR (pc := 40) dX6_readTests_40 fl_RX6_56 lC_40 rfl ?_
        refine Ev.iload_n (pc := 43) dX6_readTests_43 rfl ?_
        refine Ev.iload (pc := 44) dX6_readTests_44 rfl ?_
        refine Ev.iconst (pc := 46) dX6_readTests_46 (v := 1) (by decide) ?_
        refine Ev.iadd (pc := 47) dX6_readTests_47 ?_
        obtain ⟨g9, h⟩ := eGdB h
        refine Ev.iastj (pc := 48) dX6_readTests_48 (j := v2.toNatClampNeg) lC_47 g9 rfl ?_
        refine Ev.iload (pc := 49) dX6_readTests_49 rfl ?_
        refine Ev.iconst (pc := 51) dX6_readTests_51 (v := 1) (by decide) ?_
        refine Ev.iadd (pc := 52) dX6_readTests_52 ?_
        refine Ev.iconst (pc := 53) dX6_readTests_53 (v := 4) (by decide) ?_
        refine Ev.icmp_ne (pc := 54) (tgt := 59) dX6_readTests_54 (by decide) (fun c9 => ?_) (fun c9 => ?_)
        · have h := eF h c9
          refine Ev.aload_n (pc := 59) dX6_readTests_59 rfl ?_
          refine Ev.bipush (pc := 60) dX6_readTests_60 (v := 124) (by decide) ?_
          refine eBk h (fun q2 hq2 h => ?_)
          refine Ev.callV (pc := 62) (as := [.int 124]) (st := []) (z := 0) dX6_readTests_62 wc_X6_take ml_RX6_31 im_X6_take se_X6_take lC_145 rfl rfl (ev_X6_take 124 (eI q1.2 47 v2.toNatClampNeg (v4 + 1)) _ hq2) rfl rfl (by decide) rfl rfl (Nat.le_of_ble_eq_true rfl) ?_
          refine Ev.istore_n (pc := 65) dX6_readTests_65 (by decide) rfl rfl ?_
          refine Ev.iload_n (pc := 66) dX6_readTests_66 rfl ?_
          refine Ev.if_ne (pc := 67) (tgt := 81) dX6_readTests_67 (by decide) (fun c9 => ?_) (fun c9 => ?_)
          · have h := eF h c9
            refine Ev.iincv (pc := 81) dX6_readTests_81 (v := 1) (by decide) rfl (by decide) rfl rfl ?_
            refine Ev.goto (pc := 84) (tgt := 5) dX6_readTests_84 (by decide) ?_
            exact Ev.fg (ih _ _ _ _ h) (And.intro rfl (And.intro rfl (And.intro rfl (And.intro rfl (And.intro rfl trivial)))))
          · have h := eT h c9
            refine Ev.aload_n (pc := 70) dX6_readTests_70 rfl ?_
            refine Ev.bipush (pc := 71) dX6_readTests_71 (v := 38) (by decide) ?_
            refine eBk h (fun q3 hq3 h => ?_)
            refine Ev.callV (pc := 73) (as := [.int 38]) (st := []) (z := 0) dX6_readTests_73 wc_X6_take ml_RX6_31 im_X6_take se_X6_take lC_145 rfl rfl (ev_X6_take 38 q2.2 _ hq3) rfl rfl (by decide) rfl rfl (Nat.le_of_ble_eq_true rfl) ?_
            refine Ev.if_ne (pc := 76) (tgt := 81) dX6_readTests_76 (by decide) (fun c9 => ?_) (fun c9 => ?_)
            · have h := eF h c9
              refine Ev.iincv (pc := 81) dX6_readTests_81 (v := 1) (by decide) rfl (by decide) rfl rfl ?_
              refine Ev.goto (pc := 84) (tgt := 5) dX6_readTests_84 (by decide) ?_
              exact Ev.fg (ih _ _ _ _ h) (And.intro rfl (And.intro rfl (And.intro rfl (And.intro rfl (And.intro rfl trivial)))))
            · have h := eT h c9
              refine Ev.iconst (pc := 79) dX6_readTests_79 (v := 1) (by decide) ?_
              obtain rfl := Option.some.inj h
              exact Ev.iret (pc := 80) dX6_readTests_80 rfl rfl
        · have h := eT h c9
          refine Ev.iconst (pc := 57) dX6_readTests_57 (v := 1) (by decide) ?_
          obtain rfl := Option.some.inj h
          exact Ev.iret (pc := 58) dX6_readTests_58 rfl rfl
      · have h := eT h c9
        refine Ev.iconst (pc := 37) dX6_readTests_37 (v := 0) (by decide) ?_
        obtain rfl := Option.some.inj h
        exact Ev.iret (pc := 38) dX6_readTests_38 rfl rfl
def F_X6_readTests (x2 : Int32) (M : eMem) : Option (Int32 × eMem) :=
  F_X6_readTests_5 eFuel x2 0 0 M
set_option maxRecDepth 100000 in
set_option maxHeartbeats 4000000 in
theorem ev_X6_readTests (x2 : Int32) (M : eMem) (q : (Int32 × eMem)) (h : F_X6_readTests x2 M = some q) : Ev layC 8 m_X6_readTests 0 [some (.ref 145), some (.ref 40), some (.int x2), none, none, none] [] M (some (.int q.1), q.2) := by
  rw [F_X6_readTests] at h
  refine Ev.iconst (pc := 0) dX6_readTests_0 (v := 0) (by decide) ?_
  refine Ev.istore_n (pc := 1) dX6_readTests_1 (by decide) rfl rfl ?_
  refine Ev.iconst (pc := 2) dX6_readTests_2 (v := 0) (by decide) ?_
  refine Ev.istore (pc := 3) dX6_readTests_3 (by decide) rfl rfl ?_
  exact Ev.fg (ev_X6_readTests_5 _ _ _ _ _ _ h) (And.intro rfl (And.intro rfl (And.intro rfl (And.intro rfl (And.intro rfl trivial)))))
theorem dX6_readClause_0 : decode cX6_readClause 0 = .ok (.aload_n 0, 1) := by decide +kernel
theorem dX6_readClause_1 : decode cX6_readClause 1 = .ok (.ldc 42, 2) := by decide +kernel
theorem dX6_readClause_3 : decode cX6_readClause 3 = .ok (.invokevirtual 44, 3) := by decide +kernel
theorem dX6_readClause_6 : decode cX6_readClause 6 = .ok (.istore_n 3, 1) := by decide +kernel
theorem dX6_readClause_7 : decode cX6_readClause 7 = .ok (.iload_n 3, 1) := by decide +kernel
theorem dX6_readClause_8 : decode cX6_readClause 8 = .ok (.iconst (-1), 1) := by decide +kernel
theorem dX6_readClause_9 : decode cX6_readClause 9 = .ok (.if_icmp .eq 12, 3) := by decide +kernel
theorem dX6_readClause_12 : decode cX6_readClause 12 = .ok (.aload_n 0, 1) := by decide +kernel
theorem dX6_readClause_13 : decode cX6_readClause 13 = .ok (.bipush 32, 2) := by decide +kernel
theorem dX6_readClause_15 : decode cX6_readClause 15 = .ok (.invokevirtual 31, 3) := by decide +kernel
theorem dX6_readClause_18 : decode cX6_readClause 18 = .ok (.ifCond .ne 5, 3) := by decide +kernel
theorem dX6_readClause_21 : decode cX6_readClause 21 = .ok (.iconst 0, 1) := by decide +kernel
theorem dX6_readClause_22 : decode cX6_readClause 22 = .ok (.ireturn, 1) := by decide +kernel
theorem dX6_readClause_23 : decode cX6_readClause 23 = .ok (.aload_n 0, 1) := by decide +kernel
theorem dX6_readClause_24 : decode cX6_readClause 24 = .ok (.ldc 48, 2) := by decide +kernel
theorem dX6_readClause_26 : decode cX6_readClause 26 = .ok (.invokevirtual 44, 3) := by decide +kernel
theorem dX6_readClause_29 : decode cX6_readClause 29 = .ok (.istore 4, 2) := by decide +kernel
theorem dX6_readClause_31 : decode cX6_readClause 31 = .ok (.iload 4, 2) := by decide +kernel
theorem dX6_readClause_33 : decode cX6_readClause 33 = .ok (.iconst (-1), 1) := by decide +kernel
theorem dX6_readClause_34 : decode cX6_readClause 34 = .ok (.if_icmp .ne 5, 3) := by decide +kernel
theorem dX6_readClause_37 : decode cX6_readClause 37 = .ok (.iconst 0, 1) := by decide +kernel
theorem dX6_readClause_38 : decode cX6_readClause 38 = .ok (.ireturn, 1) := by decide +kernel
theorem dX6_readClause_39 : decode cX6_readClause 39 = .ok (.aload_n 1, 1) := by decide +kernel
theorem dX6_readClause_40 : decode cX6_readClause 40 = .ok (.getfield 50, 3) := by decide +kernel
theorem dX6_readClause_43 : decode cX6_readClause 43 = .ok (.iload_n 2, 1) := by decide +kernel
theorem dX6_readClause_44 : decode cX6_readClause 44 = .ok (.iload_n 3, 1) := by decide +kernel
theorem dX6_readClause_45 : decode cX6_readClause 45 = .ok (.iastore, 1) := by decide +kernel
theorem dX6_readClause_46 : decode cX6_readClause 46 = .ok (.aload_n 1, 1) := by decide +kernel
theorem dX6_readClause_47 : decode cX6_readClause 47 = .ok (.getfield 53, 3) := by decide +kernel
theorem dX6_readClause_50 : decode cX6_readClause 50 = .ok (.iload_n 2, 1) := by decide +kernel
theorem dX6_readClause_51 : decode cX6_readClause 51 = .ok (.iload 4, 2) := by decide +kernel
theorem dX6_readClause_53 : decode cX6_readClause 53 = .ok (.iastore, 1) := by decide +kernel
theorem dX6_readClause_54 : decode cX6_readClause 54 = .ok (.aload_n 1, 1) := by decide +kernel
theorem dX6_readClause_55 : decode cX6_readClause 55 = .ok (.getfield 56, 3) := by decide +kernel
theorem dX6_readClause_58 : decode cX6_readClause 58 = .ok (.iload_n 2, 1) := by decide +kernel
theorem dX6_readClause_59 : decode cX6_readClause 59 = .ok (.iconst 0, 1) := by decide +kernel
theorem dX6_readClause_60 : decode cX6_readClause 60 = .ok (.iastore, 1) := by decide +kernel
theorem dX6_readClause_61 : decode cX6_readClause 61 = .ok (.aload_n 0, 1) := by decide +kernel
theorem dX6_readClause_62 : decode cX6_readClause 62 = .ok (.bipush 32, 2) := by decide +kernel
theorem dX6_readClause_64 : decode cX6_readClause 64 = .ok (.invokevirtual 31, 3) := by decide +kernel
theorem dX6_readClause_67 : decode cX6_readClause 67 = .ok (.ifCond .ne 5, 3) := by decide +kernel
theorem dX6_readClause_70 : decode cX6_readClause 70 = .ok (.iconst 1, 1) := by decide +kernel
theorem dX6_readClause_71 : decode cX6_readClause 71 = .ok (.ireturn, 1) := by decide +kernel
theorem dX6_readClause_72 : decode cX6_readClause 72 = .ok (.aload_n 0, 1) := by decide +kernel
theorem dX6_readClause_73 : decode cX6_readClause 73 = .ok (.ldc 59, 2) := by decide +kernel
theorem dX6_readClause_75 : decode cX6_readClause 75 = .ok (.invokevirtual 44, 3) := by decide +kernel
theorem dX6_readClause_78 : decode cX6_readClause 78 = .ok (.iconst (-1), 1) := by decide +kernel
theorem dX6_readClause_79 : decode cX6_readClause 79 = .ok (.if_icmp .eq 25, 3) := by decide +kernel
theorem dX6_readClause_82 : decode cX6_readClause 82 = .ok (.aload_n 0, 1) := by decide +kernel
theorem dX6_readClause_83 : decode cX6_readClause 83 = .ok (.bipush 32, 2) := by decide +kernel
theorem dX6_readClause_85 : decode cX6_readClause 85 = .ok (.invokevirtual 31, 3) := by decide +kernel
theorem dX6_readClause_88 : decode cX6_readClause 88 = .ok (.ifCond .eq 16, 3) := by decide +kernel
theorem dX6_readClause_91 : decode cX6_readClause 91 = .ok (.aload_n 0, 1) := by decide +kernel
theorem dX6_readClause_92 : decode cX6_readClause 92 = .ok (.aload_n 1, 1) := by decide +kernel
theorem dX6_readClause_93 : decode cX6_readClause 93 = .ok (.iload_n 2, 1) := by decide +kernel
theorem dX6_readClause_94 : decode cX6_readClause 94 = .ok (.invokevirtual 61, 3) := by decide +kernel
theorem dX6_readClause_97 : decode cX6_readClause 97 = .ok (.ifCond .eq 7, 3) := by decide +kernel
theorem dX6_readClause_100 : decode cX6_readClause 100 = .ok (.iconst 1, 1) := by decide +kernel
theorem dX6_readClause_101 : decode cX6_readClause 101 = .ok (.goto 4, 3) := by decide +kernel
theorem dX6_readClause_104 : decode cX6_readClause 104 = .ok (.iconst 0, 1) := by decide +kernel
theorem dX6_readClause_105 : decode cX6_readClause 105 = .ok (.ireturn, 1) := by decide +kernel
def F_X6_readClause (x2 : Int32) (M : eMem) : Option (Int32 × eMem) :=
  (F_X6_choose M).bind fun q1 =>
  if q1.1 = (-1) then
    some (0, q1.2)
  else
    (F_X6_take 32 q1.2).bind fun q2 =>
    if q2.1 = 0 then
      some (0, q2.2)
    else
      (F_X6_choose_v2 q2.2).bind fun q3 =>
      if q3.1 = (-1) then
        some (0, q3.2)
      else
        eG (eIn x2 80) <|
        eG (eIn x2 80) <|
        eG (eIn x2 80) <|
        (F_X6_take 32 (eI (eI (eI q3.2 45 x2.toNatClampNeg q1.1) 46 x2.toNatClampNeg q3.1) 47 x2.toNatClampNeg 0)).bind fun q4 =>
        if q4.1 = 0 then
          some (1, q4.2)
        else
          (F_X6_choose_v3 q4.2).bind fun q5 =>
          if q5.1 = (-1) then
            some (0, q5.2)
          else
            (F_X6_take 32 q5.2).bind fun q6 =>
            if q6.1 = 0 then
              some (0, q6.2)
            else
              (F_X6_readTests x2 q6.2).bind fun q7 =>
              if q7.1 = 0 then
                some (0, q7.2)
              else
                some (1, q7.2)
set_option maxRecDepth 100000 in
set_option maxHeartbeats 4000000 in
theorem ev_X6_readClause (x2 : Int32) (M : eMem) (q : (Int32 × eMem)) (h : F_X6_readClause x2 M = some q) : Ev layC 9 m_X6_readClause 0 [some (.ref 145), some (.ref 40), some (.int x2), none, none] [] M (some (.int q.1), q.2) := by
  rw [F_X6_readClause] at h
  refine Ev.aload_n (pc := 0) dX6_readClause_0 rfl ?_
  refine Ev.ldcS (pc := 1) dX6_readClause_1 (j := 0) (by decide) rfl rfl ?_
  refine eBk h (fun q1 hq1 h => ?_)
  refine Ev.callV (pc := 3) (as := [.ref 2000]) (st := []) (z := 5) dX6_readClause_3 wc_X6_choose ml_RX6_44 im_X6_choose se_X6_choose lC_145 rfl rfl (ev_X6_choose  M _ hq1) rfl rfl (by decide) rfl rfl (Nat.le_of_ble_eq_true rfl) ?_
  refine Ev.istore_n (pc := 6) dX6_readClause_6 (by decide) rfl rfl ?_
  refine Ev.iload_n (pc := 7) dX6_readClause_7 rfl ?_
  refine Ev.iconst (pc := 8) dX6_readClause_8 (v := (-1)) (by decide) ?_
  refine Ev.icmp_eq (pc := 9) (tgt := 21) dX6_readClause_9 (by decide) (fun c9 => ?_) (fun c9 => ?_)
  · have h := eT h c9
    refine Ev.iconst (pc := 21) dX6_readClause_21 (v := 0) (by decide) ?_
    obtain rfl := Option.some.inj h
    exact Ev.iret (pc := 22) dX6_readClause_22 rfl rfl
  · have h := eF h c9
    refine Ev.aload_n (pc := 12) dX6_readClause_12 rfl ?_
    refine Ev.bipush (pc := 13) dX6_readClause_13 (v := 32) (by decide) ?_
    refine eBk h (fun q2 hq2 h => ?_)
    refine Ev.callV (pc := 15) (as := [.int 32]) (st := []) (z := 0) dX6_readClause_15 wc_X6_take ml_RX6_31 im_X6_take se_X6_take lC_145 rfl rfl (ev_X6_take 32 q1.2 _ hq2) rfl rfl (by decide) rfl rfl (Nat.le_of_ble_eq_true rfl) ?_
    refine Ev.if_ne (pc := 18) (tgt := 23) dX6_readClause_18 (by decide) (fun c9 => ?_) (fun c9 => ?_)
    · have h := eF h c9
      refine Ev.aload_n (pc := 23) dX6_readClause_23 rfl ?_
      refine Ev.ldcS (pc := 24) dX6_readClause_24 (j := 1) (by decide) rfl rfl ?_
      refine eBk h (fun q3 hq3 h => ?_)
      refine Ev.callV (pc := 26) (as := [.ref 2001]) (st := []) (z := 5) dX6_readClause_26 wc_X6_choose ml_RX6_44 im_X6_choose se_X6_choose lC_145 rfl rfl (ev_X6_choose_v2  q2.2 _ hq3) rfl rfl (by decide) rfl rfl (Nat.le_of_ble_eq_true rfl) ?_
      refine Ev.istore (pc := 29) dX6_readClause_29 (by decide) rfl rfl ?_
      refine Ev.iload (pc := 31) dX6_readClause_31 rfl ?_
      refine Ev.iconst (pc := 33) dX6_readClause_33 (v := (-1)) (by decide) ?_
      refine Ev.icmp_ne (pc := 34) (tgt := 39) dX6_readClause_34 (by decide) (fun c9 => ?_) (fun c9 => ?_)
      · have h := eF h c9
        refine Ev.aload_n (pc := 39) dX6_readClause_39 rfl ?_
        refine Ev.getR (pc := 40) dX6_readClause_40 fl_RX6_50 lC_40 rfl ?_
        refine Ev.iload_n (pc := 43) dX6_readClause_43 rfl ?_
        refine Ev.iload_n (pc := 44) dX6_readClause_44 rfl ?_
        obtain ⟨g9, h⟩ := eGdB h
        refine Ev.iastj (pc := 45) dX6_readClause_45 (j := x2.toNatClampNeg) lC_45 g9 rfl ?_
        refine Ev.aload_n (pc := 46) dX6_readClause_46 rfl ?_
        refine Ev.getR (pc := 47) dX6_readClause_47 fl_RX6_53 lC_40 rfl ?_
        refine Ev.iload_n (pc := 50) dX6_readClause_50 rfl ?_
        refine Ev.iload (pc := 51) dX6_readClause_51 rfl ?_
        obtain ⟨g9, h⟩ := eGdB h
        refine Ev.iastj (pc := 53) dX6_readClause_53 (j := x2.toNatClampNeg) lC_46 g9 rfl ?_
        refine Ev.aload_n (pc := 54) dX6_readClause_54 rfl ?_
        refine Ev.getR (pc := 55) dX6_readClause_55 fl_RX6_56 lC_40 rfl ?_
        refine Ev.iload_n (pc := 58) dX6_readClause_58 rfl ?_
        refine Ev.iconst (pc := 59) dX6_readClause_59 (v := 0) (by decide) ?_
        obtain ⟨g9, h⟩ := eGdB h
        refine Ev.iastj (pc := 60) dX6_readClause_60 (j := x2.toNatClampNeg) lC_47 g9 rfl ?_
        refine Ev.aload_n (pc := 61) dX6_readClause_61 rfl ?_
        refine Ev.bipush (pc := 62) dX6_readClause_62 (v := 32) (by decide) ?_
        refine eBk h (fun q4 hq4 h => ?_)
        refine Ev.callV (pc := 64) (as := [.int 32]) (st := []) (z := 0) dX6_readClause_64 wc_X6_take ml_RX6_31 im_X6_take se_X6_take lC_145 rfl rfl (ev_X6_take 32 (eI (eI (eI q3.2 45 x2.toNatClampNeg q1.1) 46 x2.toNatClampNeg q3.1) 47 x2.toNatClampNeg 0) _ hq4) rfl rfl (by decide) rfl rfl (Nat.le_of_ble_eq_true rfl) ?_
        refine Ev.if_ne (pc := 67) (tgt := 72) dX6_readClause_67 (by decide) (fun c9 => ?_) (fun c9 => ?_)
        · have h := eF h c9
          refine Ev.aload_n (pc := 72) dX6_readClause_72 rfl ?_
          refine Ev.ldcS (pc := 73) dX6_readClause_73 (j := 2) (by decide) rfl rfl ?_
          refine eBk h (fun q5 hq5 h => ?_)
          refine Ev.callV (pc := 75) (as := [.ref 2002]) (st := []) (z := 5) dX6_readClause_75 wc_X6_choose ml_RX6_44 im_X6_choose se_X6_choose lC_145 rfl rfl (ev_X6_choose_v3  q4.2 _ hq5) rfl rfl (by decide) rfl rfl (Nat.le_of_ble_eq_true rfl) ?_
          refine Ev.iconst (pc := 78) dX6_readClause_78 (v := (-1)) (by decide) ?_
          refine Ev.icmp_eq (pc := 79) (tgt := 104) dX6_readClause_79 (by decide) (fun c9 => ?_) (fun c9 => ?_)
          · have h := eT h c9
            refine Ev.iconst (pc := 104) dX6_readClause_104 (v := 0) (by decide) ?_
            obtain rfl := Option.some.inj h
            exact Ev.iret (pc := 105) dX6_readClause_105 rfl rfl
          · have h := eF h c9
            refine Ev.aload_n (pc := 82) dX6_readClause_82 rfl ?_
            refine Ev.bipush (pc := 83) dX6_readClause_83 (v := 32) (by decide) ?_
            refine eBk h (fun q6 hq6 h => ?_)
            refine Ev.callV (pc := 85) (as := [.int 32]) (st := []) (z := 0) dX6_readClause_85 wc_X6_take ml_RX6_31 im_X6_take se_X6_take lC_145 rfl rfl (ev_X6_take 32 q5.2 _ hq6) rfl rfl (by decide) rfl rfl (Nat.le_of_ble_eq_true rfl) ?_
            refine Ev.if_eq (pc := 88) (tgt := 104) dX6_readClause_88 (by decide) (fun c9 => ?_) (fun c9 => ?_)
            · have h := eT h c9
              refine Ev.iconst (pc := 104) dX6_readClause_104 (v := 0) (by decide) ?_
              obtain rfl := Option.some.inj h
              exact Ev.iret (pc := 105) dX6_readClause_105 rfl rfl
            · have h := eF h c9
              refine Ev.aload_n (pc := 91) dX6_readClause_91 rfl ?_
              refine Ev.aload_n (pc := 92) dX6_readClause_92 rfl ?_
              refine Ev.iload_n (pc := 93) dX6_readClause_93 rfl ?_
              refine eBk h (fun q7 hq7 h => ?_)
              refine Ev.callV (pc := 94) (as := [.ref 40, .int x2]) (st := []) (z := 3) dX6_readClause_94 wc_X6_readTests ml_RX6_61 im_X6_readTests se_X6_readTests lC_145 rfl rfl (ev_X6_readTests x2 q6.2 _ hq7) rfl rfl (by decide) rfl rfl (Nat.le_of_ble_eq_true rfl) ?_
              refine Ev.if_eq (pc := 97) (tgt := 104) dX6_readClause_97 (by decide) (fun c9 => ?_) (fun c9 => ?_)
              · have h := eT h c9
                refine Ev.iconst (pc := 104) dX6_readClause_104 (v := 0) (by decide) ?_
                obtain rfl := Option.some.inj h
                exact Ev.iret (pc := 105) dX6_readClause_105 rfl rfl
              · have h := eF h c9
                refine Ev.iconst (pc := 100) dX6_readClause_100 (v := 1) (by decide) ?_
                refine Ev.goto (pc := 101) (tgt := 105) dX6_readClause_101 (by decide) ?_
                obtain rfl := Option.some.inj h
                exact Ev.iret (pc := 105) dX6_readClause_105 rfl rfl
        · have h := eT h c9
          refine Ev.iconst (pc := 70) dX6_readClause_70 (v := 1) (by decide) ?_
          obtain rfl := Option.some.inj h
          exact Ev.iret (pc := 71) dX6_readClause_71 rfl rfl
      · have h := eT h c9
        refine Ev.iconst (pc := 37) dX6_readClause_37 (v := 0) (by decide) ?_
        obtain rfl := Option.some.inj h
        exact Ev.iret (pc := 38) dX6_readClause_38 rfl rfl
    · have h := eT h c9
      refine Ev.iconst (pc := 21) dX6_readClause_21 (v := 0) (by decide) ?_
      obtain rfl := Option.some.inj h
      exact Ev.iret (pc := 22) dX6_readClause_22 rfl rfl
theorem dX6_faultOf_0 : decode cX6_faultOf 0 = .ok (.aload_n 0, 1) := by decide +kernel
theorem dX6_faultOf_1 : decode cX6_faultOf 1 = .ok (.iconst 0, 1) := by decide +kernel
theorem dX6_faultOf_2 : decode cX6_faultOf 2 = .ok (.putfield 23, 3) := by decide +kernel
theorem dX6_faultOf_5 : decode cX6_faultOf 5 = .ok (.aload_n 1, 1) := by decide +kernel
theorem dX6_faultOf_6 : decode cX6_faultOf 6 = .ok (.getfield 26, 3) := by decide +kernel
theorem dX6_faultOf_9 : decode cX6_faultOf 9 = .ok (.istore_n 2, 1) := by decide +kernel
theorem dX6_faultOf_10 : decode cX6_faultOf 10 = .ok (.iload_n 2, 1) := by decide +kernel
theorem dX6_faultOf_11 : decode cX6_faultOf 11 = .ok (.bipush 8, 2) := by decide +kernel
theorem dX6_faultOf_13 : decode cX6_faultOf 13 = .ok (.invokestatic 19, 3) := by decide +kernel
theorem dX6_faultOf_16 : decode cX6_faultOf 16 = .ok (.ifCond .ne 8, 3) := by decide +kernel
theorem dX6_faultOf_19 : decode cX6_faultOf 19 = .ok (.aload_n 0, 1) := by decide +kernel
theorem dX6_faultOf_20 : decode cX6_faultOf 20 = .ok (.getfield 23, 3) := by decide +kernel
theorem dX6_faultOf_23 : decode cX6_faultOf 23 = .ok (.ireturn, 1) := by decide +kernel
theorem dX6_faultOf_24 : decode cX6_faultOf 24 = .ok (.iconst 0, 1) := by decide +kernel
theorem dX6_faultOf_25 : decode cX6_faultOf 25 = .ok (.istore_n 3, 1) := by decide +kernel
theorem dX6_faultOf_26 : decode cX6_faultOf 26 = .ok (.iload_n 3, 1) := by decide +kernel
theorem dX6_faultOf_27 : decode cX6_faultOf 27 = .ok (.bipush 6, 2) := by decide +kernel
theorem dX6_faultOf_29 : decode cX6_faultOf 29 = .ok (.if_icmp .ge 68, 3) := by decide +kernel
theorem dX6_faultOf_32 : decode cX6_faultOf 32 = .ok (.iload_n 3, 1) := by decide +kernel
theorem dX6_faultOf_33 : decode cX6_faultOf 33 = .ok (.ifCond .le 17, 3) := by decide +kernel
theorem dX6_faultOf_36 : decode cX6_faultOf 36 = .ok (.aload_n 0, 1) := by decide +kernel
theorem dX6_faultOf_37 : decode cX6_faultOf 37 = .ok (.bipush 59, 2) := by decide +kernel
theorem dX6_faultOf_39 : decode cX6_faultOf 39 = .ok (.invokevirtual 31, 3) := by decide +kernel
theorem dX6_faultOf_42 : decode cX6_faultOf 42 = .ok (.ifCond .ne 8, 3) := by decide +kernel
theorem dX6_faultOf_45 : decode cX6_faultOf 45 = .ok (.aload_n 0, 1) := by decide +kernel
theorem dX6_faultOf_46 : decode cX6_faultOf 46 = .ok (.getfield 23, 3) := by decide +kernel
theorem dX6_faultOf_49 : decode cX6_faultOf 49 = .ok (.ireturn, 1) := by decide +kernel
theorem dX6_faultOf_50 : decode cX6_faultOf 50 = .ok (.aload_n 0, 1) := by decide +kernel
theorem dX6_faultOf_51 : decode cX6_faultOf 51 = .ok (.aload_n 1, 1) := by decide +kernel
theorem dX6_faultOf_52 : decode cX6_faultOf 52 = .ok (.bipush 10, 2) := by decide +kernel
theorem dX6_faultOf_54 : decode cX6_faultOf 54 = .ok (.iload_n 2, 1) := by decide +kernel
theorem dX6_faultOf_55 : decode cX6_faultOf 55 = .ok (.imul, 1) := by decide +kernel
theorem dX6_faultOf_56 : decode cX6_faultOf 56 = .ok (.iload_n 3, 1) := by decide +kernel
theorem dX6_faultOf_57 : decode cX6_faultOf 57 = .ok (.iadd, 1) := by decide +kernel
theorem dX6_faultOf_58 : decode cX6_faultOf 58 = .ok (.invokevirtual 35, 3) := by decide +kernel
theorem dX6_faultOf_61 : decode cX6_faultOf 61 = .ok (.ifCond .ne 8, 3) := by decide +kernel
theorem dX6_faultOf_64 : decode cX6_faultOf 64 = .ok (.aload_n 0, 1) := by decide +kernel
theorem dX6_faultOf_65 : decode cX6_faultOf 65 = .ok (.getfield 23, 3) := by decide +kernel
theorem dX6_faultOf_68 : decode cX6_faultOf 68 = .ok (.ireturn, 1) := by decide +kernel
theorem dX6_faultOf_69 : decode cX6_faultOf 69 = .ok (.aload_n 1, 1) := by decide +kernel
theorem dX6_faultOf_70 : decode cX6_faultOf 70 = .ok (.getfield 39, 3) := by decide +kernel
theorem dX6_faultOf_73 : decode cX6_faultOf 73 = .ok (.iload_n 2, 1) := by decide +kernel
theorem dX6_faultOf_74 : decode cX6_faultOf 74 = .ok (.iload_n 3, 1) := by decide +kernel
theorem dX6_faultOf_75 : decode cX6_faultOf 75 = .ok (.iconst 1, 1) := by decide +kernel
theorem dX6_faultOf_76 : decode cX6_faultOf 76 = .ok (.iadd, 1) := by decide +kernel
theorem dX6_faultOf_77 : decode cX6_faultOf 77 = .ok (.iastore, 1) := by decide +kernel
theorem dX6_faultOf_78 : decode cX6_faultOf 78 = .ok (.aload_n 0, 1) := by decide +kernel
theorem dX6_faultOf_79 : decode cX6_faultOf 79 = .ok (.getfield 23, 3) := by decide +kernel
theorem dX6_faultOf_82 : decode cX6_faultOf 82 = .ok (.aload_n 0, 1) := by decide +kernel
theorem dX6_faultOf_83 : decode cX6_faultOf 83 = .ok (.getfield 15, 3) := by decide +kernel
theorem dX6_faultOf_86 : decode cX6_faultOf 86 = .ok (.if_icmp .ne 5, 3) := by decide +kernel
theorem dX6_faultOf_89 : decode cX6_faultOf 89 = .ok (.iconst (-1), 1) := by decide +kernel
theorem dX6_faultOf_90 : decode cX6_faultOf 90 = .ok (.ireturn, 1) := by decide +kernel
theorem dX6_faultOf_91 : decode cX6_faultOf 91 = .ok (.iinc 3 1, 3) := by decide +kernel
theorem dX6_faultOf_94 : decode cX6_faultOf 94 = .ok (.goto (-68), 3) := by decide +kernel
theorem dX6_faultOf_97 : decode cX6_faultOf 97 = .ok (.aload_n 0, 1) := by decide +kernel
theorem dX6_faultOf_98 : decode cX6_faultOf 98 = .ok (.getfield 23, 3) := by decide +kernel
theorem dX6_faultOf_101 : decode cX6_faultOf 101 = .ok (.ireturn, 1) := by decide +kernel
def F_X6_faultOf_50 (rec : Int32 → Int32 → eMem → Option (Int32 × eMem)) (v2 : Int32) (v3 : Int32) (M : eMem) : Option (Int32 × eMem) :=
  (F_X6_readClause ((10 * v2) + v3) M).bind fun q2 =>
  if q2.1 = 0 then
    some ((q2.2.1 145 2), q2.2)
  else
    eG (eIn v2 8) <|
    if (q2.2.1 145 2) = (q2.2.1 145 1) then
      some ((-1), (eI q2.2 44 v2.toNatClampNeg (v3 + 1)))
    else
      rec v2 (v3 + 1) (eI q2.2 44 v2.toNatClampNeg (v3 + 1))
set_option maxRecDepth 100000 in
set_option maxHeartbeats 4000000 in
theorem ev_X6_faultOf_50 (rec : Int32 → Int32 → eMem → Option (Int32 × eMem)) (q : (Int32 × eMem)) (hrec : ∀ (v2 : Int32) (v3 : Int32) (M : eMem), rec v2 v3 M = some q → Ev layC 10 m_X6_faultOf 26 [some (.ref 145), some (.ref 40), some (.int v2), some (.int v3)] [] M (some (.int q.1), q.2)) (v2 : Int32) (v3 : Int32) (M : eMem) (h : F_X6_faultOf_50 rec v2 v3 M = some q) : Ev layC 10 m_X6_faultOf 50 [some (.ref 145), some (.ref 40), some (.int v2), some (.int v3)] [] M (some (.int q.1), q.2) := by
  rw [F_X6_faultOf_50] at h
  refine Ev.aload_n (pc := 50) dX6_faultOf_50 rfl ?_
  refine Ev.aload_n (pc := 51) dX6_faultOf_51 rfl ?_
  refine Ev.bipush (pc := 52) dX6_faultOf_52 (v := 10) (by decide) ?_
  refine Ev.iload_n (pc := 54) dX6_faultOf_54 rfl ?_
  refine Ev.imul (pc := 55) dX6_faultOf_55 ?_
  refine Ev.iload_n (pc := 56) dX6_faultOf_56 rfl ?_
  refine Ev.iadd (pc := 57) dX6_faultOf_57 ?_
  refine eBk h (fun q2 hq2 h => ?_)
  refine Ev.callV (pc := 58) (as := [.ref 40, .int ((10 * v2) + v3)]) (st := []) (z := 2) dX6_faultOf_58 wc_X6_readClause ml_RX6_35 im_X6_readClause se_X6_readClause lC_145 rfl rfl (ev_X6_readClause ((10 * v2) + v3) M _ hq2) rfl rfl (by decide) rfl rfl (Nat.le_of_ble_eq_true rfl) ?_
  refine Ev.if_ne (pc := 61) (tgt := 69) dX6_faultOf_61 (by decide) (fun c9 => ?_) (fun c9 => ?_)
  · have h := eF h c9
    refine Ev.aload_n (pc := 69) dX6_faultOf_69 rfl ?_
    refine Ev.getR (pc := 70) dX6_faultOf_70 fl_RX6_39 lC_40 rfl ?_
    refine Ev.iload_n (pc := 73) dX6_faultOf_73 rfl ?_
    refine Ev.iload_n (pc := 74) dX6_faultOf_74 rfl ?_
    refine Ev.iconst (pc := 75) dX6_faultOf_75 (v := 1) (by decide) ?_
    refine Ev.iadd (pc := 76) dX6_faultOf_76 ?_
    obtain ⟨g9, h⟩ := eGdB h
    refine Ev.iastj (pc := 77) dX6_faultOf_77 (j := v2.toNatClampNeg) lC_44 g9 rfl ?_
    refine Ev.aload_n (pc := 78) dX6_faultOf_78 rfl ?_
    refine Ev.getIv (pc := 79) dX6_faultOf_79 (v := (q2.2.1 145 2)) fl_RX6_23 lC_145 rfl (eI_n (by decide)) ?_
    refine Ev.aload_n (pc := 82) dX6_faultOf_82 rfl ?_
    refine Ev.getIv (pc := 83) dX6_faultOf_83 (v := (q2.2.1 145 1)) fl_RX6_15 lC_145 rfl (eI_n (by decide)) ?_
    refine Ev.icmp_ne (pc := 86) (tgt := 91) dX6_faultOf_86 (by decide) (fun c9 => ?_) (fun c9 => ?_)
    · have h := eF h c9
      refine Ev.iincv (pc := 91) dX6_faultOf_91 (v := 1) (by decide) rfl (by decide) rfl rfl ?_
      refine Ev.goto (pc := 94) (tgt := 26) dX6_faultOf_94 (by decide) ?_
      exact Ev.fg (hrec _ _ _ h) (And.intro rfl (And.intro rfl (And.intro rfl (And.intro rfl trivial))))
    · have h := eT h c9
      refine Ev.iconst (pc := 89) dX6_faultOf_89 (v := (-1)) (by decide) ?_
      obtain rfl := Option.some.inj h
      exact Ev.iret (pc := 90) dX6_faultOf_90 rfl rfl
  · have h := eT h c9
    refine Ev.aload_n (pc := 64) dX6_faultOf_64 rfl ?_
    refine Ev.getI (pc := 65) dX6_faultOf_65 fl_RX6_23 lC_145 rfl ?_
    obtain rfl := Option.some.inj h
    exact Ev.iret (pc := 68) dX6_faultOf_68 rfl rfl
def F_X6_faultOf_26  : Nat → Int32 → Int32 → eMem → Option (Int32 × eMem)
  | 0, _, _, _ => none
  | n + 1, v2, v3, M =>
    if v3 < 6 then
      if 0 < v3 then
        (F_X6_take 59 M).bind fun q3 =>
        if q3.1 = 0 then
          some ((q3.2.1 145 2), q3.2)
        else
          F_X6_faultOf_50 (fun v2 v3 M => F_X6_faultOf_26 n v2 v3 M) v2 v3 q3.2
      else
        F_X6_faultOf_50 (fun v2 v3 M => F_X6_faultOf_26 n v2 v3 M) v2 v3 M
    else
      some ((M.1 145 2), M)
set_option maxRecDepth 100000 in
set_option maxHeartbeats 4000000 in
theorem ev_X6_faultOf_26  (q : (Int32 × eMem))  : ∀ (fuel : Nat) (v2 : Int32) (v3 : Int32) (M : eMem), F_X6_faultOf_26 fuel v2 v3 M = some q → Ev layC 10 m_X6_faultOf 26 [some (.ref 145), some (.ref 40), some (.int v2), some (.int v3)] [] M (some (.int q.1), q.2) := by
  intro fuel
  induction fuel with
  | zero => intro v2 v3 M h; rw [F_X6_faultOf_26] at h; cases h
  | succ n ih =>
    intro v2 v3 M h
    rw [F_X6_faultOf_26] at h
    refine Ev.iload_n (pc := 26) dX6_faultOf_26 rfl ?_
    refine Ev.bipush (pc := 27) dX6_faultOf_27 (v := 6) (by decide) ?_
    refine Ev.icmp_ge (pc := 29) (tgt := 97) dX6_faultOf_29 (by decide) (fun c9 => ?_) (fun c9 => ?_)
    · have h := eF h c9
      refine Ev.aload_n (pc := 97) dX6_faultOf_97 rfl ?_
      refine Ev.getI (pc := 98) dX6_faultOf_98 fl_RX6_23 lC_145 rfl ?_
      obtain rfl := Option.some.inj h
      exact Ev.iret (pc := 101) dX6_faultOf_101 rfl rfl
    · have h := eT h c9
      refine Ev.iload_n (pc := 32) dX6_faultOf_32 rfl ?_
      refine Ev.if_le (pc := 33) (tgt := 50) dX6_faultOf_33 (by decide) (fun c9 => ?_) (fun c9 => ?_)
      · have h := eF h c9
        exact Ev.fg (ev_X6_faultOf_50 _ _ ih _ _ _ h) (And.intro rfl (And.intro rfl (And.intro rfl (And.intro rfl trivial))))
      · have h := eT h c9
        refine Ev.aload_n (pc := 36) dX6_faultOf_36 rfl ?_
        refine Ev.bipush (pc := 37) dX6_faultOf_37 (v := 59) (by decide) ?_
        refine eBk h (fun q3 hq3 h => ?_)
        refine Ev.callV (pc := 39) (as := [.int 59]) (st := []) (z := 0) dX6_faultOf_39 wc_X6_take ml_RX6_31 im_X6_take se_X6_take lC_145 rfl rfl (ev_X6_take 59 M _ hq3) rfl rfl (by decide) rfl rfl (Nat.le_of_ble_eq_true rfl) ?_
        refine Ev.if_ne (pc := 42) (tgt := 50) dX6_faultOf_42 (by decide) (fun c9 => ?_) (fun c9 => ?_)
        · have h := eF h c9
          exact Ev.fg (ev_X6_faultOf_50 _ _ ih _ _ _ h) (And.intro rfl (And.intro rfl (And.intro rfl (And.intro rfl trivial))))
        · have h := eT h c9
          refine Ev.aload_n (pc := 45) dX6_faultOf_45 rfl ?_
          refine Ev.getI (pc := 46) dX6_faultOf_46 fl_RX6_23 lC_145 rfl ?_
          obtain rfl := Option.some.inj h
          exact Ev.iret (pc := 49) dX6_faultOf_49 rfl rfl
def F_X6_faultOf  (M : eMem) : Option (Int32 × eMem) :=
  (F_X9_isIn (M.1 40 4) 8).bind fun q1 =>
  if q1 = 0 then
    some (0, (eI M 145 2 0))
  else
    F_X6_faultOf_26 eFuel (M.1 40 4) 0 (eI M 145 2 0)
set_option maxRecDepth 100000 in
set_option maxHeartbeats 4000000 in
theorem ev_X6_faultOf  (M : eMem) (q : (Int32 × eMem)) (h : F_X6_faultOf  M = some q) : Ev layC 10 m_X6_faultOf 0 [some (.ref 145), some (.ref 40), none, none] [] M (some (.int q.1), q.2) := by
  rw [F_X6_faultOf] at h
  refine Ev.aload_n (pc := 0) dX6_faultOf_0 rfl ?_
  refine Ev.iconst (pc := 1) dX6_faultOf_1 (v := 0) (by decide) ?_
  refine Ev.putI (pc := 2) dX6_faultOf_2 fp_RX6_23 lC_145 rfl rfl rfl ?_
  refine Ev.aload_n (pc := 5) dX6_faultOf_5 rfl ?_
  refine Ev.getIv (pc := 6) dX6_faultOf_6 (v := (M.1 40 4)) fl_RX6_26 lC_40 rfl (eI_n (by decide)) ?_
  refine Ev.istore_n (pc := 9) dX6_faultOf_9 (by decide) rfl rfl ?_
  refine Ev.iload_n (pc := 10) dX6_faultOf_10 rfl ?_
  refine Ev.bipush (pc := 11) dX6_faultOf_11 (v := 8) (by decide) ?_
  refine eBk h (fun q1 hq1 h => ?_)
  refine Ev.callSN (host := "GhostCoast") (pc := 13) (as := [.int (M.1 40 4), .int 8]) (st := []) (z := 0) dX6_faultOf_13 wc_X9_isIn mn_RX6_19 sm_X9_isIn (ev_X9_isIn (M.1 40 4) 8 (eI M 145 2 0) _ hq1) rfl rfl (by decide) rfl rfl (Nat.le_of_ble_eq_true rfl) ?_
  refine Ev.if_ne (pc := 16) (tgt := 24) dX6_faultOf_16 (by decide) (fun c9 => ?_) (fun c9 => ?_)
  · have h := eF h c9
    refine Ev.iconst (pc := 24) dX6_faultOf_24 (v := 0) (by decide) ?_
    refine Ev.istore_n (pc := 25) dX6_faultOf_25 (by decide) rfl rfl ?_
    exact Ev.fg (ev_X6_faultOf_26 _ _ _ _ _ h) (And.intro rfl (And.intro rfl (And.intro rfl (And.intro rfl trivial))))
  · have h := eT h c9
    refine Ev.aload_n (pc := 19) dX6_faultOf_19 rfl ?_
    refine Ev.getIv (pc := 20) dX6_faultOf_20 (v := 0) fl_RX6_23 lC_145 rfl eI_e ?_
    obtain rfl := Option.some.inj h
    exact Ev.iret (pc := 23) dX6_faultOf_23 rfl rfl
theorem dX7_add_0 : decode cX7_add 0 = .ok (.aload_n 0, 1) := by decide +kernel
theorem dX7_add_1 : decode cX7_add 1 = .ok (.getfield 49, 3) := by decide +kernel
theorem dX7_add_4 : decode cX7_add 4 = .ok (.bipush 8, 2) := by decide +kernel
theorem dX7_add_6 : decode cX7_add 6 = .ok (.invokestatic 53, 3) := by decide +kernel
theorem dX7_add_9 : decode cX7_add 9 = .ok (.ifCond .ne 5, 3) := by decide +kernel
theorem dX7_add_12 : decode cX7_add 12 = .ok (.iconst (-1), 1) := by decide +kernel
theorem dX7_add_13 : decode cX7_add 13 = .ok (.ireturn, 1) := by decide +kernel
theorem dX7_add_14 : decode cX7_add 14 = .ok (.aload_n 0, 1) := by decide +kernel
theorem dX7_add_15 : decode cX7_add 15 = .ok (.getfield 9, 3) := by decide +kernel
theorem dX7_add_18 : decode cX7_add 18 = .ok (.aload_n 0, 1) := by decide +kernel
theorem dX7_add_19 : decode cX7_add 19 = .ok (.getfield 49, 3) := by decide +kernel
theorem dX7_add_22 : decode cX7_add 22 = .ok (.iload_n 1, 1) := by decide +kernel
theorem dX7_add_23 : decode cX7_add 23 = .ok (.iastore, 1) := by decide +kernel
theorem dX7_add_24 : decode cX7_add 24 = .ok (.aload_n 0, 1) := by decide +kernel
theorem dX7_add_25 : decode cX7_add 25 = .ok (.getfield 15, 3) := by decide +kernel
theorem dX7_add_28 : decode cX7_add 28 = .ok (.aload_n 0, 1) := by decide +kernel
theorem dX7_add_29 : decode cX7_add 29 = .ok (.getfield 49, 3) := by decide +kernel
theorem dX7_add_32 : decode cX7_add 32 = .ok (.iload_n 2, 1) := by decide +kernel
theorem dX7_add_33 : decode cX7_add 33 = .ok (.iastore, 1) := by decide +kernel
theorem dX7_add_34 : decode cX7_add 34 = .ok (.aload_n 0, 1) := by decide +kernel
theorem dX7_add_35 : decode cX7_add 35 = .ok (.getfield 18, 3) := by decide +kernel
theorem dX7_add_38 : decode cX7_add 38 = .ok (.aload_n 0, 1) := by decide +kernel
theorem dX7_add_39 : decode cX7_add 39 = .ok (.getfield 49, 3) := by decide +kernel
theorem dX7_add_42 : decode cX7_add 42 = .ok (.iconst 0, 1) := by decide +kernel
theorem dX7_add_43 : decode cX7_add 43 = .ok (.bastore, 1) := by decide +kernel
theorem dX7_add_44 : decode cX7_add 44 = .ok (.aload_n 0, 1) := by decide +kernel
theorem dX7_add_45 : decode cX7_add 45 = .ok (.dup, 1) := by decide +kernel
theorem dX7_add_46 : decode cX7_add 46 = .ok (.getfield 49, 3) := by decide +kernel
theorem dX7_add_49 : decode cX7_add 49 = .ok (.dup_x1, 1) := by decide +kernel
theorem dX7_add_50 : decode cX7_add 50 = .ok (.iconst 1, 1) := by decide +kernel
theorem dX7_add_51 : decode cX7_add 51 = .ok (.iadd, 1) := by decide +kernel
theorem dX7_add_52 : decode cX7_add 52 = .ok (.putfield 49, 3) := by decide +kernel
theorem dX7_add_55 : decode cX7_add 55 = .ok (.ireturn, 1) := by decide +kernel
def F_X7_add (x1 : Int32) (x2 : Int32) (M : eMem) : Option (Int32 × eMem) :=
  (F_X9_isIn (M.1 40 4) 8).bind fun q1 =>
  if q1 = 0 then
    some ((-1), M)
  else
    eG (eIn (M.1 40 4) 8) <|
    eG (eIn (M.1 40 4) 8) <|
    eG (eIn (M.1 40 4) 8) <|
    some ((M.1 40 4), (eI (eI (eI (eI M 41 (M.1 40 4).toNatClampNeg x1) 42 (M.1 40 4).toNatClampNeg x2) 43 (M.1 40 4).toNatClampNeg (vp_nar .boolean 0)) 40 4 ((M.1 40 4) + 1)))
set_option maxRecDepth 100000 in
set_option maxHeartbeats 4000000 in
theorem ev_X7_add (x1 : Int32) (x2 : Int32) (M : eMem) (q : (Int32 × eMem)) (h : F_X7_add x1 x2 M = some q) : Ev layC 1 m_X7_add 0 [some (.ref 40), some (.int x1), some (.int x2)] [] M (some (.int q.1), q.2) := by
  rw [F_X7_add] at h
  refine Ev.aload_n (pc := 0) dX7_add_0 rfl ?_
  refine Ev.getI (pc := 1) dX7_add_1 fl_RX7_49 lC_40 rfl ?_
  refine Ev.bipush (pc := 4) dX7_add_4 (v := 8) (by decide) ?_
  refine eBk h (fun q1 hq1 h => ?_)
  refine Ev.callSN (host := "GhostCoast") (pc := 6) (as := [.int (M.1 40 4), .int 8]) (st := []) (z := 0) dX7_add_6 wc_X9_isIn mn_RX7_53 sm_X9_isIn (ev_X9_isIn (M.1 40 4) 8 M _ hq1) rfl rfl (by decide) rfl rfl (Nat.le_of_ble_eq_true rfl) ?_
  refine Ev.if_ne (pc := 9) (tgt := 14) dX7_add_9 (by decide) (fun c9 => ?_) (fun c9 => ?_)
  · have h := eF h c9
    refine Ev.aload_n (pc := 14) dX7_add_14 rfl ?_
    refine Ev.getR (pc := 15) dX7_add_15 fl_RX7_9 lC_40 rfl ?_
    refine Ev.aload_n (pc := 18) dX7_add_18 rfl ?_
    refine Ev.getI (pc := 19) dX7_add_19 fl_RX7_49 lC_40 rfl ?_
    refine Ev.iload_n (pc := 22) dX7_add_22 rfl ?_
    obtain ⟨g9, h⟩ := eGdB h
    refine Ev.iastj (pc := 23) dX7_add_23 (j := (M.1 40 4).toNatClampNeg) lC_41 g9 rfl ?_
    refine Ev.aload_n (pc := 24) dX7_add_24 rfl ?_
    refine Ev.getR (pc := 25) dX7_add_25 fl_RX7_15 lC_40 rfl ?_
    refine Ev.aload_n (pc := 28) dX7_add_28 rfl ?_
    refine Ev.getIv (pc := 29) dX7_add_29 (v := (M.1 40 4)) fl_RX7_49 lC_40 rfl (eI_n (by decide)) ?_
    refine Ev.iload_n (pc := 32) dX7_add_32 rfl ?_
    obtain ⟨g9, h⟩ := eGdB h
    refine Ev.iastj (pc := 33) dX7_add_33 (j := (M.1 40 4).toNatClampNeg) lC_42 g9 rfl ?_
    refine Ev.aload_n (pc := 34) dX7_add_34 rfl ?_
    refine Ev.getR (pc := 35) dX7_add_35 fl_RX7_18 lC_40 rfl ?_
    refine Ev.aload_n (pc := 38) dX7_add_38 rfl ?_
    refine Ev.getIv (pc := 39) dX7_add_39 (v := (M.1 40 4)) fl_RX7_49 lC_40 rfl ((eI_n (by decide)).trans (eI_n (by decide))) ?_
    refine Ev.iconst (pc := 42) dX7_add_42 (v := 0) (by decide) ?_
    obtain ⟨g9, h⟩ := eGdB h
    refine Ev.zastj (pc := 43) dX7_add_43 (j := (M.1 40 4).toNatClampNeg) lC_43 g9 rfl ?_
    refine Ev.aload_n (pc := 44) dX7_add_44 rfl ?_
    refine Ev.dup (pc := 45) dX7_add_45 rfl ?_
    refine Ev.getIv (pc := 46) dX7_add_46 (v := (M.1 40 4)) fl_RX7_49 lC_40 rfl ((eI_n (by decide)).trans ((eI_n (by decide)).trans (eI_n (by decide)))) ?_
    refine Ev.dup_x1 (pc := 49) dX7_add_49 rfl rfl ?_
    refine Ev.iconst (pc := 50) dX7_add_50 (v := 1) (by decide) ?_
    refine Ev.iadd (pc := 51) dX7_add_51 ?_
    refine Ev.putI (pc := 52) dX7_add_52 fp_RX7_49 lC_40 rfl rfl rfl ?_
    obtain rfl := Option.some.inj h
    exact Ev.iret (pc := 55) dX7_add_55 rfl rfl
  · have h := eT h c9
    refine Ev.iconst (pc := 12) dX7_add_12 (v := (-1)) (by decide) ?_
    obtain rfl := Option.some.inj h
    exact Ev.iret (pc := 13) dX7_add_13 rfl rfl
theorem dX9_text_0 : decode cX9_text 0 = .ok (.iload_n 1, 1) := by decide +kernel
theorem dX9_text_1 : decode cX9_text 1 = .ok (.bipush 81, 2) := by decide +kernel
theorem dX9_text_3 : decode cX9_text 3 = .ok (.invokestatic 37, 3) := by decide +kernel
theorem dX9_text_6 : decode cX9_text 6 = .ok (.ifCond .eq 17, 3) := by decide +kernel
theorem dX9_text_9 : decode cX9_text 9 = .ok (.iload_n 2, 1) := by decide +kernel
theorem dX9_text_10 : decode cX9_text 10 = .ok (.bipush 81, 2) := by decide +kernel
theorem dX9_text_12 : decode cX9_text 12 = .ok (.invokestatic 37, 3) := by decide +kernel
theorem dX9_text_15 : decode cX9_text 15 = .ok (.ifCond .eq 8, 3) := by decide +kernel
theorem dX9_text_18 : decode cX9_text 18 = .ok (.iload_n 1, 1) := by decide +kernel
theorem dX9_text_19 : decode cX9_text 19 = .ok (.iload_n 2, 1) := by decide +kernel
theorem dX9_text_20 : decode cX9_text 20 = .ok (.if_icmp .le 10, 3) := by decide +kernel
theorem dX9_text_23 : decode cX9_text 23 = .ok (.aload_n 0, 1) := by decide +kernel
theorem dX9_text_24 : decode cX9_text 24 = .ok (.ldc 41, 2) := by decide +kernel
theorem dX9_text_26 : decode cX9_text 26 = .ok (.invokevirtual 42, 3) := by decide +kernel
theorem dX9_text_29 : decode cX9_text 29 = .ok (.ireturn, 1) := by decide +kernel
theorem dX9_text_30 : decode cX9_text 30 = .ok (.aload_n 0, 1) := by decide +kernel
theorem dX9_text_31 : decode cX9_text 31 = .ok (.getfield 12, 3) := by decide +kernel
theorem dX9_text_34 : decode cX9_text 34 = .ok (.getfield 304, 3) := by decide +kernel
theorem dX9_text_37 : decode cX9_text 37 = .ok (.getfield 308, 3) := by decide +kernel
theorem dX9_text_40 : decode cX9_text 40 = .ok (.bipush 8, 2) := by decide +kernel
theorem dX9_text_42 : decode cX9_text 42 = .ok (.if_icmp .lt 10, 3) := by decide +kernel
theorem dX9_text_45 : decode cX9_text 45 = .ok (.aload_n 0, 1) := by decide +kernel
theorem dX9_text_46 : decode cX9_text 46 = .ok (.ldc 63, 2) := by decide +kernel
theorem dX9_text_48 : decode cX9_text 48 = .ok (.invokevirtual 42, 3) := by decide +kernel
theorem dX9_text_51 : decode cX9_text 51 = .ok (.ireturn, 1) := by decide +kernel
theorem dX9_text_52 : decode cX9_text 52 = .ok (.aload_n 0, 1) := by decide +kernel
theorem dX9_text_53 : decode cX9_text 53 = .ok (.getfield 22, 3) := by decide +kernel
theorem dX9_text_56 : decode cX9_text 56 = .ok (.aload_n 0, 1) := by decide +kernel
theorem dX9_text_57 : decode cX9_text 57 = .ok (.getfield 12, 3) := by decide +kernel
theorem dX9_text_60 : decode cX9_text 60 = .ok (.getfield 304, 3) := by decide +kernel
theorem dX9_text_63 : decode cX9_text 63 = .ok (.invokevirtual 311, 3) := by decide +kernel
theorem dX9_text_66 : decode cX9_text 66 = .ok (.istore_n 3, 1) := by decide +kernel
theorem dX9_text_67 : decode cX9_text 67 = .ok (.iload_n 3, 1) := by decide +kernel
theorem dX9_text_68 : decode cX9_text 68 = .ok (.iconst (-1), 1) := by decide +kernel
theorem dX9_text_69 : decode cX9_text 69 = .ok (.if_icmp .eq 7, 3) := by decide +kernel
theorem dX9_text_72 : decode cX9_text 72 = .ok (.iconst (-1), 1) := by decide +kernel
theorem dX9_text_73 : decode cX9_text 73 = .ok (.iload_n 3, 1) := by decide +kernel
theorem dX9_text_74 : decode cX9_text 74 = .ok (.isub, 1) := by decide +kernel
theorem dX9_text_75 : decode cX9_text 75 = .ok (.ireturn, 1) := by decide +kernel
theorem dX9_text_76 : decode cX9_text 76 = .ok (.aload_n 0, 1) := by decide +kernel
theorem dX9_text_77 : decode cX9_text 77 = .ok (.getfield 22, 3) := by decide +kernel
theorem dX9_text_80 : decode cX9_text 80 = .ok (.iconst 0, 1) := by decide +kernel
theorem dX9_text_81 : decode cX9_text 81 = .ok (.putfield 299, 3) := by decide +kernel
theorem dX9_text_84 : decode cX9_text 84 = .ok (.aload_n 0, 1) := by decide +kernel
theorem dX9_text_85 : decode cX9_text 85 = .ok (.getfield 12, 3) := by decide +kernel
theorem dX9_text_88 : decode cX9_text 88 = .ok (.getfield 304, 3) := by decide +kernel
theorem dX9_text_91 : decode cX9_text 91 = .ok (.iload_n 1, 1) := by decide +kernel
theorem dX9_text_92 : decode cX9_text 92 = .ok (.iload_n 2, 1) := by decide +kernel
theorem dX9_text_93 : decode cX9_text 93 = .ok (.invokevirtual 315, 3) := by decide +kernel
theorem dX9_text_96 : decode cX9_text 96 = .ok (.ireturn, 1) := by decide +kernel
def F_X9_text (x1 : Int32) (x2 : Int32) (M : eMem) : Option (Int32 × eMem) :=
  (F_X9_isIn x1 81).bind fun q1 =>
  if q1 = 0 then
    (F_X9_found (-1000001) M).bind fun q2 =>
    some (q2.1, q2.2)
  else
    (F_X9_isIn x2 81).bind fun q3 =>
    if q3 = 0 then
      (F_X9_found (-1000001) M).bind fun q4 =>
      some (q4.1, q4.2)
    else
      if x2 < x1 then
        (F_X9_found (-1000001) M).bind fun q8 =>
        some (q8.1, q8.2)
      else
        if (M.1 40 4) < 8 then
          (F_X6_faultOf M).bind fun q5 =>
          if q5.1 = (-1) then
            (F_X7_add x1 x2 (eI q5.2 145 1 0)).bind fun q6 =>
            some (q6.1, q6.2)
          else
            some (((-1) - q5.1), q5.2)
        else
          (F_X9_found (-1000002) M).bind fun q7 =>
          some (q7.1, q7.2)
set_option maxRecDepth 100000 in
set_option maxHeartbeats 4000000 in
theorem ev_X9_text (x1 : Int32) (x2 : Int32) (M : eMem) (q : (Int32 × eMem)) (h : F_X9_text x1 x2 M = some q) : Ev layC 11 m_X9_text 0 [some (.ref 0), some (.int x1), some (.int x2), none] [] M (some (.int q.1), q.2) := by
  rw [F_X9_text] at h
  refine Ev.iload_n (pc := 0) dX9_text_0 rfl ?_
  refine Ev.bipush (pc := 1) dX9_text_1 (v := 81) (by decide) ?_
  refine eBk h (fun q1 hq1 h => ?_)
  refine Ev.callS (pc := 3) (as := [.int x1, .int 81]) (st := []) (z := 0) dX9_text_3 wc_X9_isIn ml_RX9_37 sm_X9_isIn (ev_X9_isIn x1 81 M _ hq1) rfl rfl (by decide) rfl rfl (Nat.le_of_ble_eq_true rfl) ?_
  refine Ev.if_eq (pc := 6) (tgt := 23) dX9_text_6 (by decide) (fun c9 => ?_) (fun c9 => ?_)
  · have h := eT h c9
    refine Ev.aload_n (pc := 23) dX9_text_23 rfl ?_
    refine Ev.ldc (pc := 24) dX9_text_24 ld_RX9_41 ?_
    refine eBk h (fun q2 hq2 h => ?_)
    refine Ev.callV (pc := 26) (as := [.int (-1000001)]) (st := []) (z := 1) dX9_text_26 wc_X9_found ml_RX9_42 im_X9_found se_X9_found lC_0 rfl rfl (ev_X9_found (-1000001) M _ hq2) rfl rfl (by decide) rfl rfl (Nat.le_of_ble_eq_true rfl) ?_
    obtain rfl := Option.some.inj h
    exact Ev.iret (pc := 29) dX9_text_29 rfl rfl
  · have h := eF h c9
    refine Ev.iload_n (pc := 9) dX9_text_9 rfl ?_
    refine Ev.bipush (pc := 10) dX9_text_10 (v := 81) (by decide) ?_
    refine eBk h (fun q3 hq3 h => ?_)
    refine Ev.callS (pc := 12) (as := [.int x2, .int 81]) (st := []) (z := 0) dX9_text_12 wc_X9_isIn ml_RX9_37 sm_X9_isIn (ev_X9_isIn x2 81 M _ hq3) rfl rfl (by decide) rfl rfl (Nat.le_of_ble_eq_true rfl) ?_
    refine Ev.if_eq (pc := 15) (tgt := 23) dX9_text_15 (by decide) (fun c9 => ?_) (fun c9 => ?_)
    · have h := eT h c9
      refine Ev.aload_n (pc := 23) dX9_text_23 rfl ?_
      refine Ev.ldc (pc := 24) dX9_text_24 ld_RX9_41 ?_
      refine eBk h (fun q4 hq4 h => ?_)
      refine Ev.callV (pc := 26) (as := [.int (-1000001)]) (st := []) (z := 1) dX9_text_26 wc_X9_found ml_RX9_42 im_X9_found se_X9_found lC_0 rfl rfl (ev_X9_found (-1000001) M _ hq4) rfl rfl (by decide) rfl rfl (Nat.le_of_ble_eq_true rfl) ?_
      obtain rfl := Option.some.inj h
      exact Ev.iret (pc := 29) dX9_text_29 rfl rfl
    · have h := eF h c9
      refine Ev.iload_n (pc := 18) dX9_text_18 rfl ?_
      refine Ev.iload_n (pc := 19) dX9_text_19 rfl ?_
      refine Ev.icmp_le (pc := 20) (tgt := 30) dX9_text_20 (by decide) (fun c9 => ?_) (fun c9 => ?_)
      · have h := eF h c9
        refine Ev.aload_n (pc := 30) dX9_text_30 rfl ?_
        refine Ev.getR (pc := 31) dX9_text_31 fl_RX9_12 lC_0 rfl ?_
        refine Ev.getR (pc := 34) dX9_text_34 fl_RX9_304 lC_1 rfl ?_
        refine Ev.getI (pc := 37) dX9_text_37 fl_RX9_308 lC_40 rfl ?_
        refine Ev.bipush (pc := 40) dX9_text_40 (v := 8) (by decide) ?_
        refine Ev.icmp_lt (pc := 42) (tgt := 52) dX9_text_42 (by decide) (fun c9 => ?_) (fun c9 => ?_)
        · have h := eT h c9
          refine Ev.aload_n (pc := 52) dX9_text_52 rfl ?_
          refine Ev.getR (pc := 53) dX9_text_53 fl_RX9_22 lC_0 rfl ?_
          refine Ev.aload_n (pc := 56) dX9_text_56 rfl ?_
          refine Ev.getR (pc := 57) dX9_text_57 fl_RX9_12 lC_0 rfl ?_
          refine Ev.getR (pc := 60) dX9_text_60 fl_RX9_304 lC_1 rfl ?_
          refine eBk h (fun q5 hq5 h => ?_)
          refine Ev.callV (pc := 63) (as := [.ref 40]) (st := []) (z := 2) dX9_text_63 wc_X6_faultOf ml_RX9_311 im_X6_faultOf se_X6_faultOf lC_145 rfl rfl (ev_X6_faultOf  M _ hq5) rfl rfl (by decide) rfl rfl (Nat.le_of_ble_eq_true rfl) ?_
          refine Ev.istore_n (pc := 66) dX9_text_66 (by decide) rfl rfl ?_
          refine Ev.iload_n (pc := 67) dX9_text_67 rfl ?_
          refine Ev.iconst (pc := 68) dX9_text_68 (v := (-1)) (by decide) ?_
          refine Ev.icmp_eq (pc := 69) (tgt := 76) dX9_text_69 (by decide) (fun c9 => ?_) (fun c9 => ?_)
          · have h := eT h c9
            refine Ev.aload_n (pc := 76) dX9_text_76 rfl ?_
            refine Ev.getR (pc := 77) dX9_text_77 fl_RX9_22 lC_0 rfl ?_
            refine Ev.iconst (pc := 80) dX9_text_80 (v := 0) (by decide) ?_
            refine Ev.putI (pc := 81) dX9_text_81 fp_RX9_299 lC_145 rfl rfl rfl ?_
            refine Ev.aload_n (pc := 84) dX9_text_84 rfl ?_
            refine Ev.getR (pc := 85) dX9_text_85 fl_RX9_12 lC_0 rfl ?_
            refine Ev.getR (pc := 88) dX9_text_88 fl_RX9_304 lC_1 rfl ?_
            refine Ev.iload_n (pc := 91) dX9_text_91 rfl ?_
            refine Ev.iload_n (pc := 92) dX9_text_92 rfl ?_
            refine eBk h (fun q6 hq6 h => ?_)
            refine Ev.callV (pc := 93) (as := [.int x1, .int x2]) (st := []) (z := 0) dX9_text_93 wc_X7_add ml_RX9_315 im_X7_add se_X7_add lC_40 rfl rfl (ev_X7_add x1 x2 (eI q5.2 145 1 0) _ hq6) rfl rfl (by decide) rfl rfl (Nat.le_of_ble_eq_true rfl) ?_
            obtain rfl := Option.some.inj h
            exact Ev.iret (pc := 96) dX9_text_96 rfl rfl
          · have h := eF h c9
            refine Ev.iconst (pc := 72) dX9_text_72 (v := (-1)) (by decide) ?_
            refine Ev.iload_n (pc := 73) dX9_text_73 rfl ?_
            refine Ev.isub (pc := 74) dX9_text_74 ?_
            obtain rfl := Option.some.inj h
            exact Ev.iret (pc := 75) dX9_text_75 rfl rfl
        · have h := eF h c9
          refine Ev.aload_n (pc := 45) dX9_text_45 rfl ?_
          refine Ev.ldc (pc := 46) dX9_text_46 ld_RX9_63 ?_
          refine eBk h (fun q7 hq7 h => ?_)
          refine Ev.callV (pc := 48) (as := [.int (-1000002)]) (st := []) (z := 1) dX9_text_48 wc_X9_found ml_RX9_42 im_X9_found se_X9_found lC_0 rfl rfl (ev_X9_found (-1000002) M _ hq7) rfl rfl (by decide) rfl rfl (Nat.le_of_ble_eq_true rfl) ?_
          obtain rfl := Option.some.inj h
          exact Ev.iret (pc := 51) dX9_text_51 rfl rfl
      · have h := eT h c9
        refine Ev.aload_n (pc := 23) dX9_text_23 rfl ?_
        refine Ev.ldc (pc := 24) dX9_text_24 ld_RX9_41 ?_
        refine eBk h (fun q8 hq8 h => ?_)
        refine Ev.callV (pc := 26) (as := [.int (-1000001)]) (st := []) (z := 1) dX9_text_26 wc_X9_found ml_RX9_42 im_X9_found se_X9_found lC_0 rfl rfl (ev_X9_found (-1000001) M _ hq8) rfl rfl (by decide) rfl rfl (Nat.le_of_ble_eq_true rfl) ?_
        obtain rfl := Option.some.inj h
        exact Ev.iret (pc := 29) dX9_text_29 rfl rfl
def F_J0_isLatin1_aae02_v6  : Option Int32 :=
  some 1
set_option maxRecDepth 100000 in
set_option maxHeartbeats 4000000 in
theorem ev_J0_isLatin1_aae02_v6 {lay : List eLC}  (M : eMem) (q : Int32) (h : F_J0_isLatin1_aae02_v6  = some q) : Ev lay 0 m_J0_isLatin1_aae02 0 [some (.ref 2005)] [] M (some (.int q), M) := by
  rw [F_J0_isLatin1_aae02_v6] at h
  refine Ev.getCS (pc := 0) dJ0_isLatin1_aae02_0 fx_RJ0_38 ?_
  refine Ev.if_eq (pc := 3) (tgt := 17) dJ0_isLatin1_aae02_3 (by decide) (fun c9 => ?_) (fun c9 => ?_)
  · exact absurd c9 (by decide)
  · refine Ev.aload_n (pc := 6) dJ0_isLatin1_aae02_6 rfl ?_
    refine Ev.strCod (pc := 7) dJ0_isLatin1_aae02_7 (j := 5) (by decide) fx_RJ0_15 ?_
    refine Ev.if_ne (pc := 10) (tgt := 17) dJ0_isLatin1_aae02_10 (by decide) (fun c9 => ?_) (fun c9 => ?_)
    · exact absurd c9 (by decide)
    · refine Ev.iconst (pc := 13) dJ0_isLatin1_aae02_13 (v := 1) (by decide) ?_
      refine Ev.goto (pc := 14) (tgt := 18) dJ0_isLatin1_aae02_14 (by decide) ?_
      obtain rfl := Option.some.inj h
      exact Ev.iret (pc := 18) dJ0_isLatin1_aae02_18 rfl rfl
def F_J1_charAt_3b067_v6 (x1 : Int32) (M : eMem) : Option Int32 :=
  (F_J0_checkIndex_df160 x1 80).bind fun q1 =>
  eG (eIn x1 80) <|
  eG (decide (vp_nar .char ((((eSB.getD 5 []).getD x1.toNatClampNeg 0) &&& 255).toUInt32 % 65536).toInt32 = ((((eSB.getD 5 []).getD x1.toNatClampNeg 0) &&& 255).toUInt32 % 65536).toInt32)) <|
  some ((((eSB.getD 5 []).getD x1.toNatClampNeg 0) &&& 255).toUInt32 % 65536).toInt32
set_option maxRecDepth 100000 in
set_option maxHeartbeats 4000000 in
theorem ev_J1_charAt_3b067_v6 {lay : List eLC} (x1 : Int32) (M : eMem) (q : Int32) (h : F_J1_charAt_3b067_v6 x1 M = some q) : Ev lay 2 m_J1_charAt_3b067 0 [some (.ref 3005), some (.int x1)] [] M (some (.int q), M) := by
  rw [F_J1_charAt_3b067_v6] at h
  refine Ev.iload_n (pc := 0) dJ1_charAt_3b067_0 rfl ?_
  refine Ev.aload_n (pc := 1) dJ1_charAt_3b067_1 rfl ?_
  refine Ev.strLenj (pc := 2) dJ1_charAt_3b067_2 (j := 5) (v := 80) (by decide) (by decide) ?_
  refine eBk h (fun q1 hq1 h => ?_)
  refine Ev.callS (pc := 3) (as := [.int x1, .int 80]) (st := []) (z := 0) dJ1_charAt_3b067_3 wc_J0_checkIndex_df160 ml_RJ1_9 sm_J0_checkIndex_df160 (ev_J0_checkIndex_df160 x1 80 M _ hq1) rfl rfl (by decide) rfl rfl (Nat.le_of_ble_eq_true rfl) ?_
  refine Ev.aload_n (pc := 6) dJ1_charAt_3b067_6 rfl ?_
  refine Ev.iload_n (pc := 7) dJ1_charAt_3b067_7 rfl ?_
  obtain ⟨g9, h⟩ := eGdB h
  refine Ev.strBj (pc := 8) dJ1_charAt_3b067_8 (j := 5) (n := x1.toNatClampNeg) (by decide) g9 rfl rfl ?_
  refine Ev.sipush (pc := 9) dJ1_charAt_3b067_9 (v := 255) (by decide) ?_
  refine Ev.iand (pc := 12) dJ1_charAt_3b067_12 ?_
  refine Ev.i2c (pc := 13) dJ1_charAt_3b067_13 ?_
  obtain ⟨g9, h⟩ := eGdB h
  have g9 := of_decide_eq_true g9
  obtain rfl := Option.some.inj h
  exact Ev.iret (pc := 14) dJ1_charAt_3b067_14 rfl (eNar_char g9)
def F_J0_charAt_5068e_v6 (x1 : Int32) (M : eMem) : Option Int32 :=
  (F_J0_isLatin1_aae02_v6 ).bind fun q1 =>
  if q1 = 0 then
    none
  else
    (F_J1_charAt_3b067_v6 x1 M).bind fun q2 =>
    eG (decide (vp_nar .char q2 = q2)) <|
    some q2
set_option maxRecDepth 100000 in
set_option maxHeartbeats 4000000 in
theorem ev_J0_charAt_5068e_v6 {lay : List eLC} (x1 : Int32) (M : eMem) (q : Int32) (h : F_J0_charAt_5068e_v6 x1 M = some q) : Ev lay 4 m_J0_charAt_5068e 0 [some (.ref 2005), some (.int x1)] [] M (some (.int q), M) := by
  rw [F_J0_charAt_5068e_v6] at h
  refine Ev.aload_n (pc := 0) dJ0_charAt_5068e_0 rfl ?_
  refine eBk h (fun q1 hq1 h => ?_)
  refine Ev.callVS (pc := 1) (j := 5) (as := []) (st := []) (z := 0) dJ0_charAt_5068e_1 wc_J0_isLatin1_aae02 ml_RJ0_492 im_J0_isLatin1_aae02 se_J0_isLatin1_aae02 (by decide) rfl (ev_J0_isLatin1_aae02_v6  M _ hq1) rfl rfl (by decide) rfl rfl (Nat.le_of_ble_eq_true rfl) ?_
  refine Ev.if_eq (pc := 4) (tgt := 16) dJ0_charAt_5068e_4 (by decide) (fun c9 => ?_) (fun c9 => ?_)
  · have h := eT h c9
    refine Ev.aload_n (pc := 16) dJ0_charAt_5068e_16 rfl ?_
    refine Ev.strVal (pc := 17) dJ0_charAt_5068e_17 (j := 5) (by decide) fx_RJ0_9 ?_
    refine Ev.iload_n (pc := 20) dJ0_charAt_5068e_20 rfl ?_
    cases h
  · have h := eF h c9
    refine Ev.aload_n (pc := 7) dJ0_charAt_5068e_7 rfl ?_
    refine Ev.strVal (pc := 8) dJ0_charAt_5068e_8 (j := 5) (by decide) fx_RJ0_9 ?_
    refine Ev.iload_n (pc := 11) dJ0_charAt_5068e_11 rfl ?_
    refine eBk h (fun q2 hq2 h => ?_)
    refine Ev.callS (pc := 12) (as := [.ref 3005, .int x1]) (st := []) (z := 0) dJ0_charAt_5068e_12 wc_J1_charAt_3b067 ml_RJ0_495 sm_J1_charAt_3b067 (ev_J1_charAt_3b067_v6 x1 M _ hq2) rfl rfl (by decide) rfl rfl (Nat.le_of_ble_eq_true rfl) ?_
    obtain ⟨g9, h⟩ := eGdB h
    have g9 := of_decide_eq_true g9
    obtain rfl := Option.some.inj h
    exact Ev.iret (pc := 15) dJ0_charAt_5068e_15 rfl (eNar_char g9)
theorem dX10_begins_0 : decode cX10_begins 0 = .ok (.iconst 0, 1) := by decide +kernel
theorem dX10_begins_1 : decode cX10_begins 1 = .ok (.istore_n 1, 1) := by decide +kernel
theorem dX10_begins_2 : decode cX10_begins 2 = .ok (.iconst 0, 1) := by decide +kernel
theorem dX10_begins_3 : decode cX10_begins 3 = .ok (.istore_n 2, 1) := by decide +kernel
theorem dX10_begins_4 : decode cX10_begins 4 = .ok (.iload_n 2, 1) := by decide +kernel
theorem dX10_begins_5 : decode cX10_begins 5 = .ok (.iload_n 0, 1) := by decide +kernel
theorem dX10_begins_6 : decode cX10_begins 6 = .ok (.if_icmp .ge 29, 3) := by decide +kernel
theorem dX10_begins_9 : decode cX10_begins 9 = .ok (.ldc 182, 2) := by decide +kernel
theorem dX10_begins_11 : decode cX10_begins 11 = .ok (.iload_n 1, 1) := by decide +kernel
theorem dX10_begins_12 : decode cX10_begins 12 = .ok (.invokevirtual 184, 3) := by decide +kernel
theorem dX10_begins_15 : decode cX10_begins 15 = .ok (.bipush 32, 2) := by decide +kernel
theorem dX10_begins_17 : decode cX10_begins 17 = .ok (.if_icmp .eq 9, 3) := by decide +kernel
theorem dX10_begins_20 : decode cX10_begins 20 = .ok (.iinc 1 1, 3) := by decide +kernel
theorem dX10_begins_23 : decode cX10_begins 23 = .ok (.goto (-14), 3) := by decide +kernel
theorem dX10_begins_26 : decode cX10_begins 26 = .ok (.iinc 1 1, 3) := by decide +kernel
theorem dX10_begins_29 : decode cX10_begins 29 = .ok (.iinc 2 1, 3) := by decide +kernel
theorem dX10_begins_32 : decode cX10_begins 32 = .ok (.goto (-28), 3) := by decide +kernel
theorem dX10_begins_35 : decode cX10_begins 35 = .ok (.iload_n 1, 1) := by decide +kernel
theorem dX10_begins_36 : decode cX10_begins 36 = .ok (.ireturn, 1) := by decide +kernel
def F_X10_begins_9 (K26 : Int32 → Int32 → Int32 → Option Int32) : Nat → eMem → Int32 → Int32 → Int32 → Option Int32
  | 0, _, _, _, _ => none
  | n + 1, M, v0, v1, v2 =>
    (F_J0_charAt_5068e_v6 v1 M).bind fun q1 =>
    if q1 = 32 then
      K26 v0 v1 v2
    else
      F_X10_begins_9 K26 n M v0 (v1 + 1) v2
set_option maxRecDepth 100000 in
set_option maxHeartbeats 4000000 in
theorem ev_X10_begins_9 {lay : List eLC} (K26 : Int32 → Int32 → Int32 → Option Int32) (q : Int32) (M : eMem) (hK26 : ∀ (v0 : Int32) (v1 : Int32) (v2 : Int32), K26 v0 v1 v2 = some q → Ev lay 5 m_X10_begins 26 [some (.int v0), some (.int v1), some (.int v2)] [] M (some (.int q), M)) : ∀ (fuel : Nat) (v0 : Int32) (v1 : Int32) (v2 : Int32), F_X10_begins_9 K26 fuel M v0 v1 v2 = some q → Ev lay 5 m_X10_begins 9 [some (.int v0), some (.int v1), some (.int v2)] [] M (some (.int q), M) := by
  intro fuel
  induction fuel with
  | zero => intro v0 v1 v2 h; rw [F_X10_begins_9] at h; cases h
  | succ n ih =>
    intro v0 v1 v2 h
    rw [F_X10_begins_9] at h
    refine Ev.ldcS (pc := 9) dX10_begins_9 (j := 5) (by decide) rfl rfl ?_
    refine Ev.iload_n (pc := 11) dX10_begins_11 rfl ?_
    refine eBk h (fun q1 hq1 h => ?_)
    refine Ev.callVS (pc := 12) (j := 5) (as := [.int v1]) (st := []) (z := 0) dX10_begins_12 wc_J0_charAt_5068e ml_RX10_184 im_J0_charAt_5068e se_J0_charAt_5068e (by decide) rfl (ev_J0_charAt_5068e_v6 v1 M _ hq1) rfl rfl (by decide) rfl rfl (Nat.le_of_ble_eq_true rfl) ?_
    refine Ev.bipush (pc := 15) dX10_begins_15 (v := 32) (by decide) ?_
    refine Ev.icmp_eq (pc := 17) (tgt := 26) dX10_begins_17 (by decide) (fun c9 => ?_) (fun c9 => ?_)
    · have h := eT h c9
      exact Ev.fg (hK26 _ _ _ h) (And.intro rfl (And.intro rfl (And.intro rfl trivial)))
    · have h := eF h c9
      refine Ev.iincv (pc := 20) dX10_begins_20 (v := 1) (by decide) rfl (by decide) rfl rfl ?_
      refine Ev.goto (pc := 23) (tgt := 9) dX10_begins_23 (by decide) ?_
      exact Ev.fg (ih _ _ _ h) (And.intro rfl (And.intro rfl (And.intro rfl trivial)))
def F_X10_begins_4  : Nat → eMem → Int32 → Int32 → Int32 → Option Int32
  | 0, _, _, _, _ => none
  | n + 1, M, v0, v1, v2 =>
    if v2 < v0 then
      F_X10_begins_9
        (fun v0 v1 v2 =>
          F_X10_begins_4 n M v0 (v1 + 1) (v2 + 1))
        eFuel M v0 v1 v2
    else
      some v1
set_option maxRecDepth 100000 in
set_option maxHeartbeats 4000000 in
theorem ev_X10_begins_4 {lay : List eLC}  (q : Int32) (M : eMem)  : ∀ (fuel : Nat) (v0 : Int32) (v1 : Int32) (v2 : Int32), F_X10_begins_4 fuel M v0 v1 v2 = some q → Ev lay 5 m_X10_begins 4 [some (.int v0), some (.int v1), some (.int v2)] [] M (some (.int q), M) := by
  intro fuel
  induction fuel with
  | zero => intro v0 v1 v2 h; rw [F_X10_begins_4] at h; cases h
  | succ n ih =>
    intro v0 v1 v2 h
    rw [F_X10_begins_4] at h
    refine Ev.iload_n (pc := 4) dX10_begins_4 rfl ?_
    refine Ev.iload_n (pc := 5) dX10_begins_5 rfl ?_
    refine Ev.icmp_ge (pc := 6) (tgt := 35) dX10_begins_6 (by decide) (fun c9 => ?_) (fun c9 => ?_)
    · have h := eF h c9
      refine Ev.iload_n (pc := 35) dX10_begins_35 rfl ?_
      obtain rfl := Option.some.inj h
      exact Ev.iret (pc := 36) dX10_begins_36 rfl rfl
    · have h := eT h c9
      refine Ev.fg (ev_X10_begins_9 _ _ _ ?_ _ _ _ _ h) (And.intro rfl (And.intro rfl (And.intro rfl trivial)))
      · intro v0 v1 v2 h
        refine Ev.iincv (pc := 26) dX10_begins_26 (v := 1) (by decide) rfl (by decide) rfl rfl ?_
        refine Ev.iincv (pc := 29) dX10_begins_29 (v := 1) (by decide) rfl (by decide) rfl rfl ?_
        refine Ev.goto (pc := 32) (tgt := 4) dX10_begins_32 (by decide) ?_
        exact Ev.fg (ih _ _ _ h) (And.intro rfl (And.intro rfl (And.intro rfl trivial)))
def F_X10_begins (x0 : Int32) (M : eMem) : Option Int32 :=
  F_X10_begins_4 eFuel M x0 0 0
set_option maxRecDepth 100000 in
set_option maxHeartbeats 4000000 in
theorem ev_X10_begins {lay : List eLC} (x0 : Int32) (M : eMem) (q : Int32) (h : F_X10_begins x0 M = some q) : Ev lay 5 m_X10_begins 0 [some (.int x0), none, none] [] M (some (.int q), M) := by
  rw [F_X10_begins] at h
  refine Ev.iconst (pc := 0) dX10_begins_0 (v := 0) (by decide) ?_
  refine Ev.istore_n (pc := 1) dX10_begins_1 (by decide) rfl rfl ?_
  refine Ev.iconst (pc := 2) dX10_begins_2 (v := 0) (by decide) ?_
  refine Ev.istore_n (pc := 3) dX10_begins_3 (by decide) rfl rfl ?_
  exact Ev.fg (ev_X10_begins_4 _ _ _ _ _ _ h) (And.intro rfl (And.intro rfl (And.intro rfl trivial)))
theorem dX10_byteAt_0 : decode cX10_byteAt 0 = .ok (.iload_n 1, 1) := by decide +kernel
theorem dX10_byteAt_1 : decode cX10_byteAt 1 = .ok (.aload_n 0, 1) := by decide +kernel
theorem dX10_byteAt_2 : decode cX10_byteAt 2 = .ok (.getfield 179, 3) := by decide +kernel
theorem dX10_byteAt_5 : decode cX10_byteAt 5 = .ok (.if_icmp .ge 16, 3) := by decide +kernel
theorem dX10_byteAt_8 : decode cX10_byteAt 8 = .ok (.aload_n 0, 1) := by decide +kernel
theorem dX10_byteAt_9 : decode cX10_byteAt 9 = .ok (.getfield 16, 3) := by decide +kernel
theorem dX10_byteAt_12 : decode cX10_byteAt 12 = .ok (.iload_n 1, 1) := by decide +kernel
theorem dX10_byteAt_13 : decode cX10_byteAt 13 = .ok (.baload, 1) := by decide +kernel
theorem dX10_byteAt_14 : decode cX10_byteAt 14 = .ok (.sipush 255, 3) := by decide +kernel
theorem dX10_byteAt_17 : decode cX10_byteAt 17 = .ok (.iand, 1) := by decide +kernel
theorem dX10_byteAt_18 : decode cX10_byteAt 18 = .ok (.goto 4, 3) := by decide +kernel
theorem dX10_byteAt_21 : decode cX10_byteAt 21 = .ok (.iconst (-1), 1) := by decide +kernel
theorem dX10_byteAt_22 : decode cX10_byteAt 22 = .ok (.ireturn, 1) := by decide +kernel
def F_X10_byteAt (x1 : Int32) (M : eMem) : Option Int32 :=
  if x1 < (M.1 0 3) then
    eG (eIn x1 120) <|
    some ((M.1 3 x1.toNatClampNeg) &&& 255)
  else
    some (-1)
set_option maxRecDepth 100000 in
set_option maxHeartbeats 4000000 in
theorem ev_X10_byteAt (x1 : Int32) (M : eMem) (q : Int32) (h : F_X10_byteAt x1 M = some q) : Ev layR 0 m_X10_byteAt 0 [some (.ref 0), some (.int x1)] [] M (some (.int q), M) := by
  rw [F_X10_byteAt] at h
  refine Ev.iload_n (pc := 0) dX10_byteAt_0 rfl ?_
  refine Ev.aload_n (pc := 1) dX10_byteAt_1 rfl ?_
  refine Ev.getI (pc := 2) dX10_byteAt_2 fl_RX10_179 lR_0 rfl ?_
  refine Ev.icmp_ge (pc := 5) (tgt := 21) dX10_byteAt_5 (by decide) (fun c9 => ?_) (fun c9 => ?_)
  · have h := eF h c9
    refine Ev.iconst (pc := 21) dX10_byteAt_21 (v := (-1)) (by decide) ?_
    obtain rfl := Option.some.inj h
    exact Ev.iret (pc := 22) dX10_byteAt_22 rfl rfl
  · have h := eT h c9
    refine Ev.aload_n (pc := 8) dX10_byteAt_8 rfl ?_
    refine Ev.getR (pc := 9) dX10_byteAt_9 fl_RX10_16 lR_0 rfl ?_
    refine Ev.iload_n (pc := 12) dX10_byteAt_12 rfl ?_
    obtain ⟨g9, h⟩ := eGdB h
    refine Ev.baldj (pc := 13) dX10_byteAt_13 (j := x1.toNatClampNeg) lR_3 g9 rfl ?_
    refine Ev.sipush (pc := 14) dX10_byteAt_14 (v := 255) (by decide) ?_
    refine Ev.iand (pc := 17) dX10_byteAt_17 ?_
    refine Ev.goto (pc := 18) (tgt := 22) dX10_byteAt_18 (by decide) ?_
    obtain rfl := Option.some.inj h
    exact Ev.iret (pc := 22) dX10_byteAt_22 rfl rfl
theorem dX10_wrong_0 : decode cX10_wrong 0 = .ok (.aload_n 0, 1) := by decide +kernel
theorem dX10_wrong_1 : decode cX10_wrong 1 = .ok (.aload_n 0, 1) := by decide +kernel
theorem dX10_wrong_2 : decode cX10_wrong 2 = .ok (.getfield 190, 3) := by decide +kernel
theorem dX10_wrong_5 : decode cX10_wrong 5 = .ok (.ifCond .eq 10, 3) := by decide +kernel
theorem dX10_wrong_8 : decode cX10_wrong 8 = .ok (.aload_n 0, 1) := by decide +kernel
theorem dX10_wrong_9 : decode cX10_wrong 9 = .ok (.getfield 194, 3) := by decide +kernel
theorem dX10_wrong_12 : decode cX10_wrong 12 = .ok (.goto 4, 3) := by decide +kernel
theorem dX10_wrong_15 : decode cX10_wrong 15 = .ok (.iload_n 1, 1) := by decide +kernel
theorem dX10_wrong_16 : decode cX10_wrong 16 = .ok (.putfield 194, 3) := by decide +kernel
theorem dX10_wrong_19 : decode cX10_wrong 19 = .ok (.aload_n 0, 1) := by decide +kernel
theorem dX10_wrong_20 : decode cX10_wrong 20 = .ok (.iconst 1, 1) := by decide +kernel
theorem dX10_wrong_21 : decode cX10_wrong 21 = .ok (.putfield 190, 3) := by decide +kernel
theorem dX10_wrong_24 : decode cX10_wrong 24 = .ok (.return_, 1) := by decide +kernel
def F_X10_wrong (x1 : Int32) (M : eMem) : Option eMem :=
  if (M.1 0 18) = 0 then
    some (eI (eI M 0 17 x1) 0 18 1)
  else
    some (eI (eI M 0 17 (M.1 0 17)) 0 18 1)
set_option maxRecDepth 100000 in
set_option maxHeartbeats 4000000 in
theorem ev_X10_wrong (x1 : Int32) (M : eMem) (q : eMem) (h : F_X10_wrong x1 M = some q) : Ev layR 0 m_X10_wrong 0 [some (.ref 0), some (.int x1)] [] M (none, q) := by
  rw [F_X10_wrong] at h
  refine Ev.aload_n (pc := 0) dX10_wrong_0 rfl ?_
  refine Ev.aload_n (pc := 1) dX10_wrong_1 rfl ?_
  refine Ev.getI (pc := 2) dX10_wrong_2 fl_RX10_190 lR_0 rfl ?_
  refine Ev.if_eq (pc := 5) (tgt := 15) dX10_wrong_5 (by decide) (fun c9 => ?_) (fun c9 => ?_)
  · have h := eT h c9
    refine Ev.iload_n (pc := 15) dX10_wrong_15 rfl ?_
    refine Ev.putI (pc := 16) dX10_wrong_16 fp_RX10_194 lR_0 rfl rfl rfl ?_
    refine Ev.aload_n (pc := 19) dX10_wrong_19 rfl ?_
    refine Ev.iconst (pc := 20) dX10_wrong_20 (v := 1) (by decide) ?_
    refine Ev.putI (pc := 21) dX10_wrong_21 fp_RX10_190 lR_0 rfl rfl rfl ?_
    obtain rfl := Option.some.inj h
    exact Ev.vret (pc := 24) dX10_wrong_24 rfl
  · have h := eF h c9
    refine Ev.aload_n (pc := 8) dX10_wrong_8 rfl ?_
    refine Ev.getI (pc := 9) dX10_wrong_9 fl_RX10_194 lR_0 rfl ?_
    refine Ev.goto (pc := 12) (tgt := 16) dX10_wrong_12 (by decide) ?_
    refine Ev.putI (pc := 16) dX10_wrong_16 fp_RX10_194 lR_0 rfl rfl rfl ?_
    refine Ev.aload_n (pc := 19) dX10_wrong_19 rfl ?_
    refine Ev.iconst (pc := 20) dX10_wrong_20 (v := 1) (by decide) ?_
    refine Ev.putI (pc := 21) dX10_wrong_21 fp_RX10_190 lR_0 rfl rfl rfl ?_
    obtain rfl := Option.some.inj h
    exact Ev.vret (pc := 24) dX10_wrong_24 rfl
theorem dX10_word_0 : decode cX10_word 0 = .ok (.iconst 0, 1) := by decide +kernel
theorem dX10_word_1 : decode cX10_word 1 = .ok (.istore_n 3, 1) := by decide +kernel
theorem dX10_word_2 : decode cX10_word 2 = .ok (.iconst (-1), 1) := by decide +kernel
theorem dX10_word_3 : decode cX10_word 3 = .ok (.istore 4, 2) := by decide +kernel
theorem dX10_word_5 : decode cX10_word 5 = .ok (.iload_n 1, 1) := by decide +kernel
theorem dX10_word_6 : decode cX10_word 6 = .ok (.istore 5, 2) := by decide +kernel
theorem dX10_word_8 : decode cX10_word 8 = .ok (.iload 5, 2) := by decide +kernel
theorem dX10_word_10 : decode cX10_word 10 = .ok (.iload_n 2, 1) := by decide +kernel
theorem dX10_word_11 : decode cX10_word 11 = .ok (.if_icmp .gt 101, 3) := by decide +kernel
theorem dX10_word_14 : decode cX10_word 14 = .ok (.iload 5, 2) := by decide +kernel
theorem dX10_word_16 : decode cX10_word 16 = .ok (.invokestatic 197, 3) := by decide +kernel
theorem dX10_word_19 : decode cX10_word 19 = .ok (.istore 6, 2) := by decide +kernel
theorem dX10_word_21 : decode cX10_word 21 = .ok (.iconst 0, 1) := by decide +kernel
theorem dX10_word_22 : decode cX10_word 22 = .ok (.istore 7, 2) := by decide +kernel
theorem dX10_word_24 : decode cX10_word 24 = .ok (.ldc 182, 2) := by decide +kernel
theorem dX10_word_26 : decode cX10_word 26 = .ok (.iload 6, 2) := by decide +kernel
theorem dX10_word_28 : decode cX10_word 28 = .ok (.iload 7, 2) := by decide +kernel
theorem dX10_word_30 : decode cX10_word 30 = .ok (.iadd, 1) := by decide +kernel
theorem dX10_word_31 : decode cX10_word 31 = .ok (.invokevirtual 184, 3) := by decide +kernel
theorem dX10_word_34 : decode cX10_word 34 = .ok (.bipush 32, 2) := by decide +kernel
theorem dX10_word_36 : decode cX10_word 36 = .ok (.if_icmp .eq 33, 3) := by decide +kernel
theorem dX10_word_39 : decode cX10_word 39 = .ok (.aload_n 0, 1) := by decide +kernel
theorem dX10_word_40 : decode cX10_word 40 = .ok (.aload_n 0, 1) := by decide +kernel
theorem dX10_word_41 : decode cX10_word 41 = .ok (.getfield 194, 3) := by decide +kernel
theorem dX10_word_44 : decode cX10_word 44 = .ok (.iload 7, 2) := by decide +kernel
theorem dX10_word_46 : decode cX10_word 46 = .ok (.iadd, 1) := by decide +kernel
theorem dX10_word_47 : decode cX10_word 47 = .ok (.invokevirtual 200, 3) := by decide +kernel
theorem dX10_word_50 : decode cX10_word 50 = .ok (.ldc 182, 2) := by decide +kernel
theorem dX10_word_52 : decode cX10_word 52 = .ok (.iload 6, 2) := by decide +kernel
theorem dX10_word_54 : decode cX10_word 54 = .ok (.iload 7, 2) := by decide +kernel
theorem dX10_word_56 : decode cX10_word 56 = .ok (.iadd, 1) := by decide +kernel
theorem dX10_word_57 : decode cX10_word 57 = .ok (.invokevirtual 184, 3) := by decide +kernel
theorem dX10_word_60 : decode cX10_word 60 = .ok (.if_icmp .ne 9, 3) := by decide +kernel
theorem dX10_word_63 : decode cX10_word 63 = .ok (.iinc 7 1, 3) := by decide +kernel
theorem dX10_word_66 : decode cX10_word 66 = .ok (.goto (-42), 3) := by decide +kernel
theorem dX10_word_69 : decode cX10_word 69 = .ok (.iload 7, 2) := by decide +kernel
theorem dX10_word_71 : decode cX10_word 71 = .ok (.iload_n 3, 1) := by decide +kernel
theorem dX10_word_72 : decode cX10_word 72 = .ok (.if_icmp .le 8, 3) := by decide +kernel
theorem dX10_word_75 : decode cX10_word 75 = .ok (.iload 7, 2) := by decide +kernel
theorem dX10_word_77 : decode cX10_word 77 = .ok (.goto 4, 3) := by decide +kernel
theorem dX10_word_80 : decode cX10_word 80 = .ok (.iload_n 3, 1) := by decide +kernel
theorem dX10_word_81 : decode cX10_word 81 = .ok (.istore_n 3, 1) := by decide +kernel
theorem dX10_word_82 : decode cX10_word 82 = .ok (.ldc 182, 2) := by decide +kernel
theorem dX10_word_84 : decode cX10_word 84 = .ok (.iload 6, 2) := by decide +kernel
theorem dX10_word_86 : decode cX10_word 86 = .ok (.iload 7, 2) := by decide +kernel
theorem dX10_word_88 : decode cX10_word 88 = .ok (.iadd, 1) := by decide +kernel
theorem dX10_word_89 : decode cX10_word 89 = .ok (.invokevirtual 184, 3) := by decide +kernel
theorem dX10_word_92 : decode cX10_word 92 = .ok (.bipush 32, 2) := by decide +kernel
theorem dX10_word_94 : decode cX10_word 94 = .ok (.if_icmp .ne 8, 3) := by decide +kernel
theorem dX10_word_97 : decode cX10_word 97 = .ok (.iload 5, 2) := by decide +kernel
theorem dX10_word_99 : decode cX10_word 99 = .ok (.goto 5, 3) := by decide +kernel
theorem dX10_word_102 : decode cX10_word 102 = .ok (.iload 4, 2) := by decide +kernel
theorem dX10_word_104 : decode cX10_word 104 = .ok (.istore 4, 2) := by decide +kernel
theorem dX10_word_106 : decode cX10_word 106 = .ok (.iinc 5 1, 3) := by decide +kernel
theorem dX10_word_109 : decode cX10_word 109 = .ok (.goto (-101), 3) := by decide +kernel
theorem dX10_word_112 : decode cX10_word 112 = .ok (.iload 4, 2) := by decide +kernel
theorem dX10_word_114 : decode cX10_word 114 = .ok (.ifCond .ge 15, 3) := by decide +kernel
theorem dX10_word_117 : decode cX10_word 117 = .ok (.aload_n 0, 1) := by decide +kernel
theorem dX10_word_118 : decode cX10_word 118 = .ok (.aload_n 0, 1) := by decide +kernel
theorem dX10_word_119 : decode cX10_word 119 = .ok (.getfield 194, 3) := by decide +kernel
theorem dX10_word_122 : decode cX10_word 122 = .ok (.iload_n 3, 1) := by decide +kernel
theorem dX10_word_123 : decode cX10_word 123 = .ok (.iadd, 1) := by decide +kernel
theorem dX10_word_124 : decode cX10_word 124 = .ok (.invokevirtual 203, 3) := by decide +kernel
theorem dX10_word_127 : decode cX10_word 127 = .ok (.iconst 0, 1) := by decide +kernel
theorem dX10_word_128 : decode cX10_word 128 = .ok (.ireturn, 1) := by decide +kernel
theorem dX10_word_129 : decode cX10_word 129 = .ok (.aload_n 0, 1) := by decide +kernel
theorem dX10_word_130 : decode cX10_word 130 = .ok (.dup, 1) := by decide +kernel
theorem dX10_word_131 : decode cX10_word 131 = .ok (.getfield 194, 3) := by decide +kernel
theorem dX10_word_134 : decode cX10_word 134 = .ok (.iload 4, 2) := by decide +kernel
theorem dX10_word_136 : decode cX10_word 136 = .ok (.iconst 1, 1) := by decide +kernel
theorem dX10_word_137 : decode cX10_word 137 = .ok (.iadd, 1) := by decide +kernel
theorem dX10_word_138 : decode cX10_word 138 = .ok (.invokestatic 197, 3) := by decide +kernel
theorem dX10_word_141 : decode cX10_word 141 = .ok (.iload 4, 2) := by decide +kernel
theorem dX10_word_143 : decode cX10_word 143 = .ok (.invokestatic 197, 3) := by decide +kernel
theorem dX10_word_146 : decode cX10_word 146 = .ok (.isub, 1) := by decide +kernel
theorem dX10_word_147 : decode cX10_word 147 = .ok (.iconst 1, 1) := by decide +kernel
theorem dX10_word_148 : decode cX10_word 148 = .ok (.isub, 1) := by decide +kernel
theorem dX10_word_149 : decode cX10_word 149 = .ok (.iadd, 1) := by decide +kernel
theorem dX10_word_150 : decode cX10_word 150 = .ok (.putfield 194, 3) := by decide +kernel
theorem dX10_word_153 : decode cX10_word 153 = .ok (.iload 4, 2) := by decide +kernel
theorem dX10_word_155 : decode cX10_word 155 = .ok (.iload_n 1, 1) := by decide +kernel
theorem dX10_word_156 : decode cX10_word 156 = .ok (.isub, 1) := by decide +kernel
theorem dX10_word_157 : decode cX10_word 157 = .ok (.ireturn, 1) := by decide +kernel
def F_X10_word_24 (K69 : Int32 → Int32 → Int32 → Int32 → Int32 → Int32 → Int32 → eMem → Option (Int32 × eMem)) : Nat → Int32 → Int32 → Int32 → Int32 → Int32 → Int32 → Int32 → eMem → Option (Int32 × eMem)
  | 0, _, _, _, _, _, _, _, _ => none
  | n + 1, v1, v2, v3, v4, v5, v6, v7, M =>
    (F_J0_charAt_5068e_v6 (v6 + v7) M).bind fun q2 =>
    if q2 = 32 then
      K69 v1 v2 v3 v4 v5 v6 v7 M
    else
      (F_X10_byteAt ((M.1 0 17) + v7) M).bind fun q3 =>
      (F_J0_charAt_5068e_v6 (v6 + v7) M).bind fun q4 =>
      if q3 = q4 then
        F_X10_word_24 K69 n v1 v2 v3 v4 v5 v6 (v7 + 1) M
      else
        K69 v1 v2 v3 v4 v5 v6 v7 M
set_option maxRecDepth 100000 in
set_option maxHeartbeats 4000000 in
theorem ev_X10_word_24 (K69 : Int32 → Int32 → Int32 → Int32 → Int32 → Int32 → Int32 → eMem → Option (Int32 × eMem)) (q : (Int32 × eMem)) (hK69 : ∀ (v1 : Int32) (v2 : Int32) (v3 : Int32) (v4 : Int32) (v5 : Int32) (v6 : Int32) (v7 : Int32) (M : eMem), K69 v1 v2 v3 v4 v5 v6 v7 M = some q → Ev layR 6 m_X10_word 69 [some (.ref 0), some (.int v1), some (.int v2), some (.int v3), some (.int v4), some (.int v5), some (.int v6), some (.int v7)] [] M (some (.int q.1), q.2)) : ∀ (fuel : Nat) (v1 : Int32) (v2 : Int32) (v3 : Int32) (v4 : Int32) (v5 : Int32) (v6 : Int32) (v7 : Int32) (M : eMem), F_X10_word_24 K69 fuel v1 v2 v3 v4 v5 v6 v7 M = some q → Ev layR 6 m_X10_word 24 [some (.ref 0), some (.int v1), some (.int v2), some (.int v3), some (.int v4), some (.int v5), some (.int v6), some (.int v7)] [] M (some (.int q.1), q.2) := by
  intro fuel
  induction fuel with
  | zero => intro v1 v2 v3 v4 v5 v6 v7 M h; rw [F_X10_word_24] at h; cases h
  | succ n ih =>
    intro v1 v2 v3 v4 v5 v6 v7 M h
    rw [F_X10_word_24] at h
    refine Ev.ldcS (pc := 24) dX10_word_24 (j := 5) (by decide) rfl rfl ?_
    refine Ev.iload (pc := 26) dX10_word_26 rfl ?_
    refine Ev.iload (pc := 28) dX10_word_28 rfl ?_
    refine Ev.iadd (pc := 30) dX10_word_30 ?_
    refine eBk h (fun q2 hq2 h => ?_)
    refine Ev.callVS (pc := 31) (j := 5) (as := [.int (v6 + v7)]) (st := []) (z := 0) dX10_word_31 wc_J0_charAt_5068e ml_RX10_184 im_J0_charAt_5068e se_J0_charAt_5068e (by decide) rfl (ev_J0_charAt_5068e_v6 (v6 + v7) M _ hq2) rfl rfl (by decide) rfl rfl (Nat.le_of_ble_eq_true rfl) ?_
    refine Ev.bipush (pc := 34) dX10_word_34 (v := 32) (by decide) ?_
    refine Ev.icmp_eq (pc := 36) (tgt := 69) dX10_word_36 (by decide) (fun c9 => ?_) (fun c9 => ?_)
    · have h := eT h c9
      exact Ev.fg (hK69 _ _ _ _ _ _ _ _ h) (And.intro rfl (And.intro rfl (And.intro rfl (And.intro rfl (And.intro rfl (And.intro rfl (And.intro rfl (And.intro rfl trivial))))))))
    · have h := eF h c9
      refine Ev.aload_n (pc := 39) dX10_word_39 rfl ?_
      refine Ev.aload_n (pc := 40) dX10_word_40 rfl ?_
      refine Ev.getI (pc := 41) dX10_word_41 fl_RX10_194 lR_0 rfl ?_
      refine Ev.iload (pc := 44) dX10_word_44 rfl ?_
      refine Ev.iadd (pc := 46) dX10_word_46 ?_
      refine eBk h (fun q3 hq3 h => ?_)
      refine Ev.callV (pc := 47) (as := [.int ((M.1 0 17) + v7)]) (st := []) (z := 0) dX10_word_47 wc_X10_byteAt ml_RX10_200 im_X10_byteAt se_X10_byteAt lR_0 rfl rfl (ev_X10_byteAt ((M.1 0 17) + v7) M _ hq3) rfl rfl (by decide) rfl rfl (Nat.le_of_ble_eq_true rfl) ?_
      refine Ev.ldcS (pc := 50) dX10_word_50 (j := 5) (by decide) rfl rfl ?_
      refine Ev.iload (pc := 52) dX10_word_52 rfl ?_
      refine Ev.iload (pc := 54) dX10_word_54 rfl ?_
      refine Ev.iadd (pc := 56) dX10_word_56 ?_
      refine eBk h (fun q4 hq4 h => ?_)
      refine Ev.callVS (pc := 57) (j := 5) (as := [.int (v6 + v7)]) (st := [.int q3]) (z := 0) dX10_word_57 wc_J0_charAt_5068e ml_RX10_184 im_J0_charAt_5068e se_J0_charAt_5068e (by decide) rfl (ev_J0_charAt_5068e_v6 (v6 + v7) M _ hq4) rfl rfl (by decide) rfl rfl (Nat.le_of_ble_eq_true rfl) ?_
      refine Ev.icmp_ne (pc := 60) (tgt := 69) dX10_word_60 (by decide) (fun c9 => ?_) (fun c9 => ?_)
      · have h := eF h c9
        exact Ev.fg (hK69 _ _ _ _ _ _ _ _ h) (And.intro rfl (And.intro rfl (And.intro rfl (And.intro rfl (And.intro rfl (And.intro rfl (And.intro rfl (And.intro rfl trivial))))))))
      · have h := eT h c9
        refine Ev.iincv (pc := 63) dX10_word_63 (v := 1) (by decide) rfl (by decide) rfl rfl ?_
        refine Ev.goto (pc := 66) (tgt := 24) dX10_word_66 (by decide) ?_
        exact Ev.fg (ih _ _ _ _ _ _ _ _ h) (And.intro rfl (And.intro rfl (And.intro rfl (And.intro rfl (And.intro rfl (And.intro rfl (And.intro rfl (And.intro rfl trivial))))))))
def F_X10_word_81 (rec : Int32 → Int32 → Int32 → Int32 → Int32 → eMem → Option (Int32 × eMem)) (K112 : Int32 → Int32 → Int32 → eMem → Option (Int32 × eMem)) (v1 : Int32) (v2 : Int32) (v4 : Int32) (v5 : Int32) (v6 : Int32) (v7 : Int32) (s0 : Int32) (M : eMem) : Option (Int32 × eMem) :=
  (F_J0_charAt_5068e_v6 (v6 + v7) M).bind fun q5 =>
  if q5 = 32 then
    rec v1 v2 s0 v5 (v5 + 1) M
  else
    rec v1 v2 s0 v4 (v5 + 1) M
set_option maxRecDepth 100000 in
set_option maxHeartbeats 4000000 in
theorem ev_X10_word_81 (rec : Int32 → Int32 → Int32 → Int32 → Int32 → eMem → Option (Int32 × eMem)) (K112 : Int32 → Int32 → Int32 → eMem → Option (Int32 × eMem)) (q : (Int32 × eMem)) (hrec : ∀ (v1 : Int32) (v2 : Int32) (v3 : Int32) (v4 : Int32) (v5 : Int32) (M : eMem), rec v1 v2 v3 v4 v5 M = some q → Ev layR 6 m_X10_word 8 [some (.ref 0), some (.int v1), some (.int v2), some (.int v3), some (.int v4), some (.int v5), none, none] [] M (some (.int q.1), q.2)) (hK112 : ∀ (v1 : Int32) (v3 : Int32) (v4 : Int32) (M : eMem), K112 v1 v3 v4 M = some q → Ev layR 6 m_X10_word 112 [some (.ref 0), some (.int v1), none, some (.int v3), some (.int v4), none, none, none] [] M (some (.int q.1), q.2)) (v1 : Int32) (v2 : Int32) (v4 : Int32) (v5 : Int32) (v6 : Int32) (v7 : Int32) (s0 : Int32) (M : eMem) (h : F_X10_word_81 rec K112 v1 v2 v4 v5 v6 v7 s0 M = some q) : Ev layR 6 m_X10_word 81 [some (.ref 0), some (.int v1), some (.int v2), none, some (.int v4), some (.int v5), some (.int v6), some (.int v7)] [.int s0] M (some (.int q.1), q.2) := by
  rw [F_X10_word_81] at h
  refine Ev.istore_n (pc := 81) dX10_word_81 (by decide) rfl rfl ?_
  refine Ev.ldcS (pc := 82) dX10_word_82 (j := 5) (by decide) rfl rfl ?_
  refine Ev.iload (pc := 84) dX10_word_84 rfl ?_
  refine Ev.iload (pc := 86) dX10_word_86 rfl ?_
  refine Ev.iadd (pc := 88) dX10_word_88 ?_
  refine eBk h (fun q5 hq5 h => ?_)
  refine Ev.callVS (pc := 89) (j := 5) (as := [.int (v6 + v7)]) (st := []) (z := 0) dX10_word_89 wc_J0_charAt_5068e ml_RX10_184 im_J0_charAt_5068e se_J0_charAt_5068e (by decide) rfl (ev_J0_charAt_5068e_v6 (v6 + v7) M _ hq5) rfl rfl (by decide) rfl rfl (Nat.le_of_ble_eq_true rfl) ?_
  refine Ev.bipush (pc := 92) dX10_word_92 (v := 32) (by decide) ?_
  refine Ev.icmp_ne (pc := 94) (tgt := 102) dX10_word_94 (by decide) (fun c9 => ?_) (fun c9 => ?_)
  · have h := eF h c9
    refine Ev.iload (pc := 102) dX10_word_102 rfl ?_
    refine Ev.istore (pc := 104) dX10_word_104 (by decide) rfl rfl ?_
    refine Ev.iincv (pc := 106) dX10_word_106 (v := 1) (by decide) rfl (by decide) rfl rfl ?_
    refine Ev.goto (pc := 109) (tgt := 8) dX10_word_109 (by decide) ?_
    exact Ev.fg (hrec _ _ _ _ _ _ h) (And.intro rfl (And.intro rfl (And.intro rfl (And.intro rfl (And.intro rfl (And.intro rfl trivial))))))
  · have h := eT h c9
    refine Ev.iload (pc := 97) dX10_word_97 rfl ?_
    refine Ev.goto (pc := 99) (tgt := 104) dX10_word_99 (by decide) ?_
    refine Ev.istore (pc := 104) dX10_word_104 (by decide) rfl rfl ?_
    refine Ev.iincv (pc := 106) dX10_word_106 (v := 1) (by decide) rfl (by decide) rfl rfl ?_
    refine Ev.goto (pc := 109) (tgt := 8) dX10_word_109 (by decide) ?_
    exact Ev.fg (hrec _ _ _ _ _ _ h) (And.intro rfl (And.intro rfl (And.intro rfl (And.intro rfl (And.intro rfl (And.intro rfl trivial))))))
def F_X10_word_8 (K112 : Int32 → Int32 → Int32 → eMem → Option (Int32 × eMem)) : Nat → Int32 → Int32 → Int32 → Int32 → Int32 → eMem → Option (Int32 × eMem)
  | 0, _, _, _, _, _, _ => none
  | n + 1, v1, v2, v3, v4, v5, M =>
    if v2 < v5 then
      K112 v1 v3 v4 M
    else
      (F_X10_begins v5 M).bind fun q1 =>
      F_X10_word_24
        (fun v1 v2 v3 v4 v5 v6 v7 M =>
          if v3 < v7 then
            F_X10_word_81 (fun v1 v2 v3 v4 v5 M => F_X10_word_8 K112 n v1 v2 v3 v4 v5 M) K112 v1 v2 v4 v5 v6 v7 v7 M
          else
            F_X10_word_81 (fun v1 v2 v3 v4 v5 M => F_X10_word_8 K112 n v1 v2 v3 v4 v5 M) K112 v1 v2 v4 v5 v6 v7 v3 M)
        eFuel v1 v2 v3 v4 v5 q1 0 M
set_option maxRecDepth 100000 in
set_option maxHeartbeats 4000000 in
theorem ev_X10_word_8 (K112 : Int32 → Int32 → Int32 → eMem → Option (Int32 × eMem)) (q : (Int32 × eMem)) (hK112 : ∀ (v1 : Int32) (v3 : Int32) (v4 : Int32) (M : eMem), K112 v1 v3 v4 M = some q → Ev layR 6 m_X10_word 112 [some (.ref 0), some (.int v1), none, some (.int v3), some (.int v4), none, none, none] [] M (some (.int q.1), q.2)) : ∀ (fuel : Nat) (v1 : Int32) (v2 : Int32) (v3 : Int32) (v4 : Int32) (v5 : Int32) (M : eMem), F_X10_word_8 K112 fuel v1 v2 v3 v4 v5 M = some q → Ev layR 6 m_X10_word 8 [some (.ref 0), some (.int v1), some (.int v2), some (.int v3), some (.int v4), some (.int v5), none, none] [] M (some (.int q.1), q.2) := by
  intro fuel
  induction fuel with
  | zero => intro v1 v2 v3 v4 v5 M h; rw [F_X10_word_8] at h; cases h
  | succ n ih =>
    intro v1 v2 v3 v4 v5 M h
    rw [F_X10_word_8] at h
    refine Ev.iload (pc := 8) dX10_word_8 rfl ?_
    refine Ev.iload_n (pc := 10) dX10_word_10 rfl ?_
    refine Ev.icmp_gt (pc := 11) (tgt := 112) dX10_word_11 (by decide) (fun c9 => ?_) (fun c9 => ?_)
    · have h := eT h c9
      exact Ev.fg (hK112 _ _ _ _ h) (And.intro rfl (And.intro rfl (And.intro rfl (And.intro rfl trivial))))
    · have h := eF h c9
      refine Ev.iload (pc := 14) dX10_word_14 rfl ?_
      refine eBk h (fun q1 hq1 h => ?_)
      refine Ev.callS (pc := 16) (as := [.int v5]) (st := []) (z := 2) dX10_word_16 wc_X10_begins ml_RX10_197 sm_X10_begins (ev_X10_begins v5 M _ hq1) rfl rfl (by decide) rfl rfl (Nat.le_of_ble_eq_true rfl) ?_
      refine Ev.istore (pc := 19) dX10_word_19 (by decide) rfl rfl ?_
      refine Ev.iconst (pc := 21) dX10_word_21 (v := 0) (by decide) ?_
      refine Ev.istore (pc := 22) dX10_word_22 (by decide) rfl rfl ?_
      refine Ev.fg (ev_X10_word_24 _ _ ?_ _ _ _ _ _ _ _ _ _ h) (And.intro rfl (And.intro rfl (And.intro rfl (And.intro rfl (And.intro rfl (And.intro rfl (And.intro rfl (And.intro rfl trivial))))))))
      · intro v1 v2 v3 v4 v5 v6 v7 M h
        refine Ev.iload (pc := 69) dX10_word_69 rfl ?_
        refine Ev.iload_n (pc := 71) dX10_word_71 rfl ?_
        refine Ev.icmp_le (pc := 72) (tgt := 80) dX10_word_72 (by decide) (fun c9 => ?_) (fun c9 => ?_)
        · have h := eF h c9
          refine Ev.iload_n (pc := 80) dX10_word_80 rfl ?_
          exact Ev.fg (ev_X10_word_81 _ _ _ ih hK112 _ _ _ _ _ _ _ _ h) (And.intro rfl (And.intro rfl (And.intro rfl (And.intro rfl (And.intro rfl (And.intro rfl (And.intro rfl trivial)))))))
        · have h := eT h c9
          refine Ev.iload (pc := 75) dX10_word_75 rfl ?_
          refine Ev.goto (pc := 77) (tgt := 81) dX10_word_77 (by decide) ?_
          exact Ev.fg (ev_X10_word_81 _ _ _ ih hK112 _ _ _ _ _ _ _ _ h) (And.intro rfl (And.intro rfl (And.intro rfl (And.intro rfl (And.intro rfl (And.intro rfl (And.intro rfl trivial)))))))
def F_X10_word (x1 : Int32) (x2 : Int32) (M : eMem) : Option (Int32 × eMem) :=
  F_X10_word_8
    (fun v1 v3 v4 M =>
      if v4 < 0 then
        (F_X10_wrong ((M.1 0 17) + v3) M).bind fun q8 =>
        some (0, q8)
      else
        (F_X10_begins (v4 + 1) M).bind fun q6 =>
        (F_X10_begins v4 M).bind fun q7 =>
        some ((v4 - v1), (eI M 0 17 ((M.1 0 17) + ((q6 - q7) - 1)))))
    eFuel x1 x2 0 (-1) x1 M
set_option maxRecDepth 100000 in
set_option maxHeartbeats 4000000 in
theorem ev_X10_word (x1 : Int32) (x2 : Int32) (M : eMem) (q : (Int32 × eMem)) (h : F_X10_word x1 x2 M = some q) : Ev layR 6 m_X10_word 0 [some (.ref 0), some (.int x1), some (.int x2), none, none, none, none, none] [] M (some (.int q.1), q.2) := by
  rw [F_X10_word] at h
  refine Ev.iconst (pc := 0) dX10_word_0 (v := 0) (by decide) ?_
  refine Ev.istore_n (pc := 1) dX10_word_1 (by decide) rfl rfl ?_
  refine Ev.iconst (pc := 2) dX10_word_2 (v := (-1)) (by decide) ?_
  refine Ev.istore (pc := 3) dX10_word_3 (by decide) rfl rfl ?_
  refine Ev.iload_n (pc := 5) dX10_word_5 rfl ?_
  refine Ev.istore (pc := 6) dX10_word_6 (by decide) rfl rfl ?_
  refine Ev.fg (ev_X10_word_8 _ _ ?_ _ _ _ _ _ _ _ h) (And.intro rfl (And.intro rfl (And.intro rfl (And.intro rfl (And.intro rfl (And.intro rfl trivial))))))
  · intro v1 v3 v4 M h
    refine Ev.iload (pc := 112) dX10_word_112 rfl ?_
    refine Ev.if_ge (pc := 114) (tgt := 129) dX10_word_114 (by decide) (fun c9 => ?_) (fun c9 => ?_)
    · have h := eF h c9
      refine Ev.aload_n (pc := 129) dX10_word_129 rfl ?_
      refine Ev.dup (pc := 130) dX10_word_130 rfl ?_
      refine Ev.getI (pc := 131) dX10_word_131 fl_RX10_194 lR_0 rfl ?_
      refine Ev.iload (pc := 134) dX10_word_134 rfl ?_
      refine Ev.iconst (pc := 136) dX10_word_136 (v := 1) (by decide) ?_
      refine Ev.iadd (pc := 137) dX10_word_137 ?_
      refine eBk h (fun q6 hq6 h => ?_)
      refine Ev.callS (pc := 138) (as := [.int (v4 + 1)]) (st := [.int (M.1 0 17), .ref 0]) (z := 2) dX10_word_138 wc_X10_begins ml_RX10_197 sm_X10_begins (ev_X10_begins (v4 + 1) M _ hq6) rfl rfl (by decide) rfl rfl (Nat.le_of_ble_eq_true rfl) ?_
      refine Ev.iload (pc := 141) dX10_word_141 rfl ?_
      refine eBk h (fun q7 hq7 h => ?_)
      refine Ev.callS (pc := 143) (as := [.int v4]) (st := [.int q6, .int (M.1 0 17), .ref 0]) (z := 2) dX10_word_143 wc_X10_begins ml_RX10_197 sm_X10_begins (ev_X10_begins v4 M _ hq7) rfl rfl (by decide) rfl rfl (Nat.le_of_ble_eq_true rfl) ?_
      refine Ev.isub (pc := 146) dX10_word_146 ?_
      refine Ev.iconst (pc := 147) dX10_word_147 (v := 1) (by decide) ?_
      refine Ev.isub (pc := 148) dX10_word_148 ?_
      refine Ev.iadd (pc := 149) dX10_word_149 ?_
      refine Ev.putI (pc := 150) dX10_word_150 fp_RX10_194 lR_0 rfl rfl rfl ?_
      refine Ev.iload (pc := 153) dX10_word_153 rfl ?_
      refine Ev.iload_n (pc := 155) dX10_word_155 rfl ?_
      refine Ev.isub (pc := 156) dX10_word_156 ?_
      obtain rfl := Option.some.inj h
      exact Ev.iret (pc := 157) dX10_word_157 rfl rfl
    · have h := eT h c9
      refine Ev.aload_n (pc := 117) dX10_word_117 rfl ?_
      refine Ev.aload_n (pc := 118) dX10_word_118 rfl ?_
      refine Ev.getI (pc := 119) dX10_word_119 fl_RX10_194 lR_0 rfl ?_
      refine Ev.iload_n (pc := 122) dX10_word_122 rfl ?_
      refine Ev.iadd (pc := 123) dX10_word_123 ?_
      refine eBk h (fun q8 hq8 h => ?_)
      refine Ev.callV (pc := 124) (as := [.int ((M.1 0 17) + v3)]) (st := []) (z := 0) dX10_word_124 wc_X10_wrong ml_RX10_203 im_X10_wrong se_X10_wrong lR_0 rfl rfl (ev_X10_wrong ((M.1 0 17) + v3) M _ hq8) rfl rfl (by decide) rfl rfl (Nat.le_of_ble_eq_true rfl) ?_
      refine Ev.iconst (pc := 127) dX10_word_127 (v := 0) (by decide) ?_
      obtain rfl := Option.some.inj h
      exact Ev.iret (pc := 128) dX10_word_128 rfl rfl
theorem dX10_takes_0 : decode cX10_takes 0 = .ok (.aload_n 0, 1) := by decide +kernel
theorem dX10_takes_1 : decode cX10_takes 1 = .ok (.getfield 190, 3) := by decide +kernel
theorem dX10_takes_4 : decode cX10_takes 4 = .ok (.ifCond .ne 27, 3) := by decide +kernel
theorem dX10_takes_7 : decode cX10_takes 7 = .ok (.aload_n 0, 1) := by decide +kernel
theorem dX10_takes_8 : decode cX10_takes 8 = .ok (.aload_n 0, 1) := by decide +kernel
theorem dX10_takes_9 : decode cX10_takes 9 = .ok (.getfield 194, 3) := by decide +kernel
theorem dX10_takes_12 : decode cX10_takes 12 = .ok (.invokevirtual 200, 3) := by decide +kernel
theorem dX10_takes_15 : decode cX10_takes 15 = .ok (.iload_n 1, 1) := by decide +kernel
theorem dX10_takes_16 : decode cX10_takes 16 = .ok (.if_icmp .ne 15, 3) := by decide +kernel
theorem dX10_takes_19 : decode cX10_takes 19 = .ok (.aload_n 0, 1) := by decide +kernel
theorem dX10_takes_20 : decode cX10_takes 20 = .ok (.dup, 1) := by decide +kernel
theorem dX10_takes_21 : decode cX10_takes 21 = .ok (.getfield 194, 3) := by decide +kernel
theorem dX10_takes_24 : decode cX10_takes 24 = .ok (.iconst 1, 1) := by decide +kernel
theorem dX10_takes_25 : decode cX10_takes 25 = .ok (.iadd, 1) := by decide +kernel
theorem dX10_takes_26 : decode cX10_takes 26 = .ok (.putfield 194, 3) := by decide +kernel
theorem dX10_takes_29 : decode cX10_takes 29 = .ok (.iconst 1, 1) := by decide +kernel
theorem dX10_takes_30 : decode cX10_takes 30 = .ok (.ireturn, 1) := by decide +kernel
theorem dX10_takes_31 : decode cX10_takes 31 = .ok (.iconst 0, 1) := by decide +kernel
theorem dX10_takes_32 : decode cX10_takes 32 = .ok (.ireturn, 1) := by decide +kernel
def F_X10_takes (x1 : Int32) (M : eMem) : Option (Int32 × eMem) :=
  if (M.1 0 18) = 0 then
    (F_X10_byteAt (M.1 0 17) M).bind fun q1 =>
    if q1 = x1 then
      some (1, (eI M 0 17 ((M.1 0 17) + 1)))
    else
      some (0, M)
  else
    some (0, M)
set_option maxRecDepth 100000 in
set_option maxHeartbeats 4000000 in
theorem ev_X10_takes (x1 : Int32) (M : eMem) (q : (Int32 × eMem)) (h : F_X10_takes x1 M = some q) : Ev layR 1 m_X10_takes 0 [some (.ref 0), some (.int x1)] [] M (some (.int q.1), q.2) := by
  rw [F_X10_takes] at h
  refine Ev.aload_n (pc := 0) dX10_takes_0 rfl ?_
  refine Ev.getI (pc := 1) dX10_takes_1 fl_RX10_190 lR_0 rfl ?_
  refine Ev.if_ne (pc := 4) (tgt := 31) dX10_takes_4 (by decide) (fun c9 => ?_) (fun c9 => ?_)
  · have h := eF h c9
    refine Ev.iconst (pc := 31) dX10_takes_31 (v := 0) (by decide) ?_
    obtain rfl := Option.some.inj h
    exact Ev.iret (pc := 32) dX10_takes_32 rfl rfl
  · have h := eT h c9
    refine Ev.aload_n (pc := 7) dX10_takes_7 rfl ?_
    refine Ev.aload_n (pc := 8) dX10_takes_8 rfl ?_
    refine Ev.getI (pc := 9) dX10_takes_9 fl_RX10_194 lR_0 rfl ?_
    refine eBk h (fun q1 hq1 h => ?_)
    refine Ev.callV (pc := 12) (as := [.int (M.1 0 17)]) (st := []) (z := 0) dX10_takes_12 wc_X10_byteAt ml_RX10_200 im_X10_byteAt se_X10_byteAt lR_0 rfl rfl (ev_X10_byteAt (M.1 0 17) M _ hq1) rfl rfl (by decide) rfl rfl (Nat.le_of_ble_eq_true rfl) ?_
    refine Ev.iload_n (pc := 15) dX10_takes_15 rfl ?_
    refine Ev.icmp_ne (pc := 16) (tgt := 31) dX10_takes_16 (by decide) (fun c9 => ?_) (fun c9 => ?_)
    · have h := eF h c9
      refine Ev.iconst (pc := 31) dX10_takes_31 (v := 0) (by decide) ?_
      obtain rfl := Option.some.inj h
      exact Ev.iret (pc := 32) dX10_takes_32 rfl rfl
    · have h := eT h c9
      refine Ev.aload_n (pc := 19) dX10_takes_19 rfl ?_
      refine Ev.dup (pc := 20) dX10_takes_20 rfl ?_
      refine Ev.getI (pc := 21) dX10_takes_21 fl_RX10_194 lR_0 rfl ?_
      refine Ev.iconst (pc := 24) dX10_takes_24 (v := 1) (by decide) ?_
      refine Ev.iadd (pc := 25) dX10_takes_25 ?_
      refine Ev.putI (pc := 26) dX10_takes_26 fp_RX10_194 lR_0 rfl rfl rfl ?_
      refine Ev.iconst (pc := 29) dX10_takes_29 (v := 1) (by decide) ?_
      obtain rfl := Option.some.inj h
      exact Ev.iret (pc := 30) dX10_takes_30 rfl rfl
theorem dX10_needs_0 : decode cX10_needs 0 = .ok (.aload_n 0, 1) := by decide +kernel
theorem dX10_needs_1 : decode cX10_needs 1 = .ok (.getfield 190, 3) := by decide +kernel
theorem dX10_needs_4 : decode cX10_needs 4 = .ok (.ifCond .ne 19, 3) := by decide +kernel
theorem dX10_needs_7 : decode cX10_needs 7 = .ok (.aload_n 0, 1) := by decide +kernel
theorem dX10_needs_8 : decode cX10_needs 8 = .ok (.iload_n 1, 1) := by decide +kernel
theorem dX10_needs_9 : decode cX10_needs 9 = .ok (.invokevirtual 206, 3) := by decide +kernel
theorem dX10_needs_12 : decode cX10_needs 12 = .ok (.ifCond .ne 11, 3) := by decide +kernel
theorem dX10_needs_15 : decode cX10_needs 15 = .ok (.aload_n 0, 1) := by decide +kernel
theorem dX10_needs_16 : decode cX10_needs 16 = .ok (.aload_n 0, 1) := by decide +kernel
theorem dX10_needs_17 : decode cX10_needs 17 = .ok (.getfield 194, 3) := by decide +kernel
theorem dX10_needs_20 : decode cX10_needs 20 = .ok (.invokevirtual 203, 3) := by decide +kernel
theorem dX10_needs_23 : decode cX10_needs 23 = .ok (.return_, 1) := by decide +kernel
def F_X10_needs (x1 : Int32) (M : eMem) : Option eMem :=
  if (M.1 0 18) = 0 then
    (F_X10_takes x1 M).bind fun q1 =>
    if q1.1 = 0 then
      (F_X10_wrong (q1.2.1 0 17) q1.2).bind fun q2 =>
      some q2
    else
      some q1.2
  else
    some M
set_option maxRecDepth 100000 in
set_option maxHeartbeats 4000000 in
theorem ev_X10_needs (x1 : Int32) (M : eMem) (q : eMem) (h : F_X10_needs x1 M = some q) : Ev layR 2 m_X10_needs 0 [some (.ref 0), some (.int x1)] [] M (none, q) := by
  rw [F_X10_needs] at h
  refine Ev.aload_n (pc := 0) dX10_needs_0 rfl ?_
  refine Ev.getI (pc := 1) dX10_needs_1 fl_RX10_190 lR_0 rfl ?_
  refine Ev.if_ne (pc := 4) (tgt := 23) dX10_needs_4 (by decide) (fun c9 => ?_) (fun c9 => ?_)
  · have h := eF h c9
    obtain rfl := Option.some.inj h
    exact Ev.vret (pc := 23) dX10_needs_23 rfl
  · have h := eT h c9
    refine Ev.aload_n (pc := 7) dX10_needs_7 rfl ?_
    refine Ev.iload_n (pc := 8) dX10_needs_8 rfl ?_
    refine eBk h (fun q1 hq1 h => ?_)
    refine Ev.callV (pc := 9) (as := [.int x1]) (st := []) (z := 0) dX10_needs_9 wc_X10_takes ml_RX10_206 im_X10_takes se_X10_takes lR_0 rfl rfl (ev_X10_takes x1 M _ hq1) rfl rfl (by decide) rfl rfl (Nat.le_of_ble_eq_true rfl) ?_
    refine Ev.if_ne (pc := 12) (tgt := 23) dX10_needs_12 (by decide) (fun c9 => ?_) (fun c9 => ?_)
    · have h := eF h c9
      obtain rfl := Option.some.inj h
      exact Ev.vret (pc := 23) dX10_needs_23 rfl
    · have h := eT h c9
      refine Ev.aload_n (pc := 15) dX10_needs_15 rfl ?_
      refine Ev.aload_n (pc := 16) dX10_needs_16 rfl ?_
      refine Ev.getI (pc := 17) dX10_needs_17 fl_RX10_194 lR_0 rfl ?_
      refine eBk h (fun q2 hq2 h => ?_)
      refine Ev.callV (pc := 20) (as := [.int (q1.2.1 0 17)]) (st := []) (z := 0) dX10_needs_20 wc_X10_wrong ml_RX10_203 im_X10_wrong se_X10_wrong lR_0 rfl rfl (ev_X10_wrong (q1.2.1 0 17) q1.2 _ hq2) rfl rfl (by decide) rfl rfl (Nat.le_of_ble_eq_true rfl) ?_
      obtain rfl := Option.some.inj h
      exact Ev.vret (pc := 23) dX10_needs_23 rfl
theorem dX10_digits_0 : decode cX10_digits 0 = .ok (.iconst 0, 1) := by decide +kernel
theorem dX10_digits_1 : decode cX10_digits 1 = .ok (.istore_n 1, 1) := by decide +kernel
theorem dX10_digits_2 : decode cX10_digits 2 = .ok (.iconst 0, 1) := by decide +kernel
theorem dX10_digits_3 : decode cX10_digits 3 = .ok (.istore_n 2, 1) := by decide +kernel
theorem dX10_digits_4 : decode cX10_digits 4 = .ok (.iload_n 2, 1) := by decide +kernel
theorem dX10_digits_5 : decode cX10_digits 5 = .ok (.iconst 4, 1) := by decide +kernel
theorem dX10_digits_6 : decode cX10_digits 6 = .ok (.if_icmp .ge 54, 3) := by decide +kernel
theorem dX10_digits_9 : decode cX10_digits 9 = .ok (.aload_n 0, 1) := by decide +kernel
theorem dX10_digits_10 : decode cX10_digits 10 = .ok (.aload_n 0, 1) := by decide +kernel
theorem dX10_digits_11 : decode cX10_digits 11 = .ok (.getfield 194, 3) := by decide +kernel
theorem dX10_digits_14 : decode cX10_digits 14 = .ok (.invokevirtual 200, 3) := by decide +kernel
theorem dX10_digits_17 : decode cX10_digits 17 = .ok (.bipush 48, 2) := by decide +kernel
theorem dX10_digits_19 : decode cX10_digits 19 = .ok (.bipush 57, 2) := by decide +kernel
theorem dX10_digits_21 : decode cX10_digits 21 = .ok (.invokestatic 58, 3) := by decide +kernel
theorem dX10_digits_24 : decode cX10_digits 24 = .ok (.ifCond .eq 36, 3) := by decide +kernel
theorem dX10_digits_27 : decode cX10_digits 27 = .ok (.bipush 10, 2) := by decide +kernel
theorem dX10_digits_29 : decode cX10_digits 29 = .ok (.iload_n 1, 1) := by decide +kernel
theorem dX10_digits_30 : decode cX10_digits 30 = .ok (.imul, 1) := by decide +kernel
theorem dX10_digits_31 : decode cX10_digits 31 = .ok (.aload_n 0, 1) := by decide +kernel
theorem dX10_digits_32 : decode cX10_digits 32 = .ok (.aload_n 0, 1) := by decide +kernel
theorem dX10_digits_33 : decode cX10_digits 33 = .ok (.getfield 194, 3) := by decide +kernel
theorem dX10_digits_36 : decode cX10_digits 36 = .ok (.invokevirtual 200, 3) := by decide +kernel
theorem dX10_digits_39 : decode cX10_digits 39 = .ok (.iadd, 1) := by decide +kernel
theorem dX10_digits_40 : decode cX10_digits 40 = .ok (.bipush 48, 2) := by decide +kernel
theorem dX10_digits_42 : decode cX10_digits 42 = .ok (.isub, 1) := by decide +kernel
theorem dX10_digits_43 : decode cX10_digits 43 = .ok (.istore_n 1, 1) := by decide +kernel
theorem dX10_digits_44 : decode cX10_digits 44 = .ok (.aload_n 0, 1) := by decide +kernel
theorem dX10_digits_45 : decode cX10_digits 45 = .ok (.dup, 1) := by decide +kernel
theorem dX10_digits_46 : decode cX10_digits 46 = .ok (.getfield 194, 3) := by decide +kernel
theorem dX10_digits_49 : decode cX10_digits 49 = .ok (.iconst 1, 1) := by decide +kernel
theorem dX10_digits_50 : decode cX10_digits 50 = .ok (.iadd, 1) := by decide +kernel
theorem dX10_digits_51 : decode cX10_digits 51 = .ok (.putfield 194, 3) := by decide +kernel
theorem dX10_digits_54 : decode cX10_digits 54 = .ok (.iinc 2 1, 3) := by decide +kernel
theorem dX10_digits_57 : decode cX10_digits 57 = .ok (.goto (-53), 3) := by decide +kernel
theorem dX10_digits_60 : decode cX10_digits 60 = .ok (.iload_n 2, 1) := by decide +kernel
theorem dX10_digits_61 : decode cX10_digits 61 = .ok (.ifCond .ne 11, 3) := by decide +kernel
theorem dX10_digits_64 : decode cX10_digits 64 = .ok (.aload_n 0, 1) := by decide +kernel
theorem dX10_digits_65 : decode cX10_digits 65 = .ok (.aload_n 0, 1) := by decide +kernel
theorem dX10_digits_66 : decode cX10_digits 66 = .ok (.getfield 194, 3) := by decide +kernel
theorem dX10_digits_69 : decode cX10_digits 69 = .ok (.invokevirtual 203, 3) := by decide +kernel
theorem dX10_digits_72 : decode cX10_digits 72 = .ok (.iload_n 1, 1) := by decide +kernel
theorem dX10_digits_73 : decode cX10_digits 73 = .ok (.ireturn, 1) := by decide +kernel
def F_X10_digits_4 (K60 : Int32 → Int32 → eMem → Option (Int32 × eMem)) : Nat → Int32 → Int32 → eMem → Option (Int32 × eMem)
  | 0, _, _, _ => none
  | n + 1, v1, v2, M =>
    if v2 < 4 then
      (F_X10_byteAt (M.1 0 17) M).bind fun q1 =>
      (F_X10_in q1 48 57).bind fun q2 =>
      if q2 = 0 then
        K60 v1 v2 M
      else
        (F_X10_byteAt (M.1 0 17) M).bind fun q3 =>
        F_X10_digits_4 K60 n (((10 * v1) + q3) - 48) (v2 + 1) (eI M 0 17 ((M.1 0 17) + 1))
    else
      K60 v1 v2 M
set_option maxRecDepth 100000 in
set_option maxHeartbeats 4000000 in
theorem ev_X10_digits_4 (K60 : Int32 → Int32 → eMem → Option (Int32 × eMem)) (q : (Int32 × eMem)) (hK60 : ∀ (v1 : Int32) (v2 : Int32) (M : eMem), K60 v1 v2 M = some q → Ev layR 1 m_X10_digits 60 [some (.ref 0), some (.int v1), some (.int v2)] [] M (some (.int q.1), q.2)) : ∀ (fuel : Nat) (v1 : Int32) (v2 : Int32) (M : eMem), F_X10_digits_4 K60 fuel v1 v2 M = some q → Ev layR 1 m_X10_digits 4 [some (.ref 0), some (.int v1), some (.int v2)] [] M (some (.int q.1), q.2) := by
  intro fuel
  induction fuel with
  | zero => intro v1 v2 M h; rw [F_X10_digits_4] at h; cases h
  | succ n ih =>
    intro v1 v2 M h
    rw [F_X10_digits_4] at h
    refine Ev.iload_n (pc := 4) dX10_digits_4 rfl ?_
    refine Ev.iconst (pc := 5) dX10_digits_5 (v := 4) (by decide) ?_
    refine Ev.icmp_ge (pc := 6) (tgt := 60) dX10_digits_6 (by decide) (fun c9 => ?_) (fun c9 => ?_)
    · have h := eF h c9
      exact Ev.fg (hK60 _ _ _ h) (And.intro rfl (And.intro rfl (And.intro rfl trivial)))
    · have h := eT h c9
      refine Ev.aload_n (pc := 9) dX10_digits_9 rfl ?_
      refine Ev.aload_n (pc := 10) dX10_digits_10 rfl ?_
      refine Ev.getI (pc := 11) dX10_digits_11 fl_RX10_194 lR_0 rfl ?_
      refine eBk h (fun q1 hq1 h => ?_)
      refine Ev.callV (pc := 14) (as := [.int (M.1 0 17)]) (st := []) (z := 0) dX10_digits_14 wc_X10_byteAt ml_RX10_200 im_X10_byteAt se_X10_byteAt lR_0 rfl rfl (ev_X10_byteAt (M.1 0 17) M _ hq1) rfl rfl (by decide) rfl rfl (Nat.le_of_ble_eq_true rfl) ?_
      refine Ev.bipush (pc := 17) dX10_digits_17 (v := 48) (by decide) ?_
      refine Ev.bipush (pc := 19) dX10_digits_19 (v := 57) (by decide) ?_
      refine eBk h (fun q2 hq2 h => ?_)
      refine Ev.callS (pc := 21) (as := [.int q1, .int 48, .int 57]) (st := []) (z := 0) dX10_digits_21 wc_X10_in ml_RX10_58 sm_X10_in (ev_X10_in q1 48 57 M _ hq2) rfl rfl (by decide) rfl rfl (Nat.le_of_ble_eq_true rfl) ?_
      refine Ev.if_eq (pc := 24) (tgt := 60) dX10_digits_24 (by decide) (fun c9 => ?_) (fun c9 => ?_)
      · have h := eT h c9
        exact Ev.fg (hK60 _ _ _ h) (And.intro rfl (And.intro rfl (And.intro rfl trivial)))
      · have h := eF h c9
        refine Ev.bipush (pc := 27) dX10_digits_27 (v := 10) (by decide) ?_
        refine Ev.iload_n (pc := 29) dX10_digits_29 rfl ?_
        refine Ev.imul (pc := 30) dX10_digits_30 ?_
        refine Ev.aload_n (pc := 31) dX10_digits_31 rfl ?_
        refine Ev.aload_n (pc := 32) dX10_digits_32 rfl ?_
        refine Ev.getI (pc := 33) dX10_digits_33 fl_RX10_194 lR_0 rfl ?_
        refine eBk h (fun q3 hq3 h => ?_)
        refine Ev.callV (pc := 36) (as := [.int (M.1 0 17)]) (st := [.int (10 * v1)]) (z := 0) dX10_digits_36 wc_X10_byteAt ml_RX10_200 im_X10_byteAt se_X10_byteAt lR_0 rfl rfl (ev_X10_byteAt (M.1 0 17) M _ hq3) rfl rfl (by decide) rfl rfl (Nat.le_of_ble_eq_true rfl) ?_
        refine Ev.iadd (pc := 39) dX10_digits_39 ?_
        refine Ev.bipush (pc := 40) dX10_digits_40 (v := 48) (by decide) ?_
        refine Ev.isub (pc := 42) dX10_digits_42 ?_
        refine Ev.istore_n (pc := 43) dX10_digits_43 (by decide) rfl rfl ?_
        refine Ev.aload_n (pc := 44) dX10_digits_44 rfl ?_
        refine Ev.dup (pc := 45) dX10_digits_45 rfl ?_
        refine Ev.getI (pc := 46) dX10_digits_46 fl_RX10_194 lR_0 rfl ?_
        refine Ev.iconst (pc := 49) dX10_digits_49 (v := 1) (by decide) ?_
        refine Ev.iadd (pc := 50) dX10_digits_50 ?_
        refine Ev.putI (pc := 51) dX10_digits_51 fp_RX10_194 lR_0 rfl rfl rfl ?_
        refine Ev.iincv (pc := 54) dX10_digits_54 (v := 1) (by decide) rfl (by decide) rfl rfl ?_
        refine Ev.goto (pc := 57) (tgt := 4) dX10_digits_57 (by decide) ?_
        exact Ev.fg (ih _ _ _ h) (And.intro rfl (And.intro rfl (And.intro rfl trivial)))
def F_X10_digits  (M : eMem) : Option (Int32 × eMem) :=
  F_X10_digits_4
    (fun v1 v2 M =>
      if v2 = 0 then
        (F_X10_wrong (M.1 0 17) M).bind fun q4 =>
        some (v1, q4)
      else
        some (v1, M))
    eFuel 0 0 M
set_option maxRecDepth 100000 in
set_option maxHeartbeats 4000000 in
theorem ev_X10_digits  (M : eMem) (q : (Int32 × eMem)) (h : F_X10_digits  M = some q) : Ev layR 1 m_X10_digits 0 [some (.ref 0), none, none] [] M (some (.int q.1), q.2) := by
  rw [F_X10_digits] at h
  refine Ev.iconst (pc := 0) dX10_digits_0 (v := 0) (by decide) ?_
  refine Ev.istore_n (pc := 1) dX10_digits_1 (by decide) rfl rfl ?_
  refine Ev.iconst (pc := 2) dX10_digits_2 (v := 0) (by decide) ?_
  refine Ev.istore_n (pc := 3) dX10_digits_3 (by decide) rfl rfl ?_
  refine Ev.fg (ev_X10_digits_4 _ _ ?_ _ _ _ _ h) (And.intro rfl (And.intro rfl (And.intro rfl trivial)))
  · intro v1 v2 M h
    refine Ev.iload_n (pc := 60) dX10_digits_60 rfl ?_
    refine Ev.if_ne (pc := 61) (tgt := 72) dX10_digits_61 (by decide) (fun c9 => ?_) (fun c9 => ?_)
    · have h := eF h c9
      refine Ev.iload_n (pc := 72) dX10_digits_72 rfl ?_
      obtain rfl := Option.some.inj h
      exact Ev.iret (pc := 73) dX10_digits_73 rfl rfl
    · have h := eT h c9
      refine Ev.aload_n (pc := 64) dX10_digits_64 rfl ?_
      refine Ev.aload_n (pc := 65) dX10_digits_65 rfl ?_
      refine Ev.getI (pc := 66) dX10_digits_66 fl_RX10_194 lR_0 rfl ?_
      refine eBk h (fun q4 hq4 h => ?_)
      refine Ev.callV (pc := 69) (as := [.int (M.1 0 17)]) (st := []) (z := 0) dX10_digits_69 wc_X10_wrong ml_RX10_203 im_X10_wrong se_X10_wrong lR_0 rfl rfl (ev_X10_wrong (M.1 0 17) M _ hq4) rfl rfl (by decide) rfl rfl (Nat.le_of_ble_eq_true rfl) ?_
      refine Ev.iload_n (pc := 72) dX10_digits_72 rfl ?_
      obtain rfl := Option.some.inj h
      exact Ev.iret (pc := 73) dX10_digits_73 rfl rfl
theorem dX10_test_0 : decode cX10_test 0 = .ok (.iload_n 1, 1) := by decide +kernel
theorem dX10_test_1 : decode cX10_test 1 = .ok (.iconst 3, 1) := by decide +kernel
theorem dX10_test_2 : decode cX10_test 2 = .ok (.iadd, 1) := by decide +kernel
theorem dX10_test_3 : decode cX10_test 3 = .ok (.iconst 5, 1) := by decide +kernel
theorem dX10_test_4 : decode cX10_test 4 = .ok (.aload_n 0, 1) := by decide +kernel
theorem dX10_test_5 : decode cX10_test 5 = .ok (.getfield 7, 3) := by decide +kernel
theorem dX10_test_8 : decode cX10_test 8 = .ok (.iload_n 1, 1) := by decide +kernel
theorem dX10_test_9 : decode cX10_test 9 = .ok (.iconst 2, 1) := by decide +kernel
theorem dX10_test_10 : decode cX10_test 10 = .ok (.iadd, 1) := by decide +kernel
theorem dX10_test_11 : decode cX10_test 11 = .ok (.iaload, 1) := by decide +kernel
theorem dX10_test_12 : decode cX10_test 12 = .ok (.imul, 1) := by decide +kernel
theorem dX10_test_13 : decode cX10_test 13 = .ok (.iadd, 1) := by decide +kernel
theorem dX10_test_14 : decode cX10_test 14 = .ok (.istore_n 3, 1) := by decide +kernel
theorem dX10_test_15 : decode cX10_test 15 = .ok (.aload_n 0, 1) := by decide +kernel
theorem dX10_test_16 : decode cX10_test 16 = .ok (.getfield 7, 3) := by decide +kernel
theorem dX10_test_19 : decode cX10_test 19 = .ok (.iload_n 3, 1) := by decide +kernel
theorem dX10_test_20 : decode cX10_test 20 = .ok (.aload_n 0, 1) := by decide +kernel
theorem dX10_test_21 : decode cX10_test 21 = .ok (.bipush 33, 2) := by decide +kernel
theorem dX10_test_23 : decode cX10_test 23 = .ok (.invokevirtual 206, 3) := by decide +kernel
theorem dX10_test_26 : decode cX10_test 26 = .ok (.ifCond .eq 7, 3) := by decide +kernel
theorem dX10_test_29 : decode cX10_test 29 = .ok (.iconst 1, 1) := by decide +kernel
theorem dX10_test_30 : decode cX10_test 30 = .ok (.goto 4, 3) := by decide +kernel
theorem dX10_test_33 : decode cX10_test 33 = .ok (.iconst 0, 1) := by decide +kernel
theorem dX10_test_34 : decode cX10_test 34 = .ok (.iastore, 1) := by decide +kernel
theorem dX10_test_35 : decode cX10_test 35 = .ok (.aload_n 0, 1) := by decide +kernel
theorem dX10_test_36 : decode cX10_test 36 = .ok (.getfield 7, 3) := by decide +kernel
theorem dX10_test_39 : decode cX10_test 39 = .ok (.iload_n 3, 1) := by decide +kernel
theorem dX10_test_40 : decode cX10_test 40 = .ok (.iconst 1, 1) := by decide +kernel
theorem dX10_test_41 : decode cX10_test 41 = .ok (.iadd, 1) := by decide +kernel
theorem dX10_test_42 : decode cX10_test 42 = .ok (.aload_n 0, 1) := by decide +kernel
theorem dX10_test_43 : decode cX10_test 43 = .ok (.getfield 190, 3) := by decide +kernel
theorem dX10_test_46 : decode cX10_test 46 = .ok (.ifCond .eq 7, 3) := by decide +kernel
theorem dX10_test_49 : decode cX10_test 49 = .ok (.iconst 0, 1) := by decide +kernel
theorem dX10_test_50 : decode cX10_test 50 = .ok (.goto 11, 3) := by decide +kernel
theorem dX10_test_53 : decode cX10_test 53 = .ok (.aload_n 0, 1) := by decide +kernel
theorem dX10_test_54 : decode cX10_test 54 = .ok (.bipush 10, 2) := by decide +kernel
theorem dX10_test_56 : decode cX10_test 56 = .ok (.bipush 14, 2) := by decide +kernel
theorem dX10_test_58 : decode cX10_test 58 = .ok (.invokevirtual 209, 3) := by decide +kernel
theorem dX10_test_61 : decode cX10_test 61 = .ok (.iastore, 1) := by decide +kernel
theorem dX10_test_62 : decode cX10_test 62 = .ok (.aload_n 0, 1) := by decide +kernel
theorem dX10_test_63 : decode cX10_test 63 = .ok (.getfield 190, 3) := by decide +kernel
theorem dX10_test_66 : decode cX10_test 66 = .ok (.ifCond .eq 4, 3) := by decide +kernel
theorem dX10_test_69 : decode cX10_test 69 = .ok (.return_, 1) := by decide +kernel
theorem dX10_test_70 : decode cX10_test 70 = .ok (.aload_n 0, 1) := by decide +kernel
theorem dX10_test_71 : decode cX10_test 71 = .ok (.aload_n 0, 1) := by decide +kernel
theorem dX10_test_72 : decode cX10_test 72 = .ok (.getfield 194, 3) := by decide +kernel
theorem dX10_test_75 : decode cX10_test 75 = .ok (.invokevirtual 200, 3) := by decide +kernel
theorem dX10_test_78 : decode cX10_test 78 = .ok (.istore 4, 2) := by decide +kernel
theorem dX10_test_80 : decode cX10_test 80 = .ok (.iload 4, 2) := by decide +kernel
theorem dX10_test_82 : decode cX10_test 82 = .ok (.bipush 61, 2) := by decide +kernel
theorem dX10_test_84 : decode cX10_test 84 = .ok (.if_icmp .eq 26, 3) := by decide +kernel
theorem dX10_test_87 : decode cX10_test 87 = .ok (.iload 4, 2) := by decide +kernel
theorem dX10_test_89 : decode cX10_test 89 = .ok (.bipush 60, 2) := by decide +kernel
theorem dX10_test_91 : decode cX10_test 91 = .ok (.if_icmp .eq 19, 3) := by decide +kernel
theorem dX10_test_94 : decode cX10_test 94 = .ok (.iload 4, 2) := by decide +kernel
theorem dX10_test_96 : decode cX10_test 96 = .ok (.bipush 62, 2) := by decide +kernel
theorem dX10_test_98 : decode cX10_test 98 = .ok (.if_icmp .eq 12, 3) := by decide +kernel
theorem dX10_test_101 : decode cX10_test 101 = .ok (.aload_n 0, 1) := by decide +kernel
theorem dX10_test_102 : decode cX10_test 102 = .ok (.aload_n 0, 1) := by decide +kernel
theorem dX10_test_103 : decode cX10_test 103 = .ok (.getfield 194, 3) := by decide +kernel
theorem dX10_test_106 : decode cX10_test 106 = .ok (.invokevirtual 203, 3) := by decide +kernel
theorem dX10_test_109 : decode cX10_test 109 = .ok (.return_, 1) := by decide +kernel
theorem dX10_test_110 : decode cX10_test 110 = .ok (.aload_n 0, 1) := by decide +kernel
theorem dX10_test_111 : decode cX10_test 111 = .ok (.dup, 1) := by decide +kernel
theorem dX10_test_112 : decode cX10_test 112 = .ok (.getfield 194, 3) := by decide +kernel
theorem dX10_test_115 : decode cX10_test 115 = .ok (.iconst 1, 1) := by decide +kernel
theorem dX10_test_116 : decode cX10_test 116 = .ok (.iadd, 1) := by decide +kernel
theorem dX10_test_117 : decode cX10_test 117 = .ok (.putfield 194, 3) := by decide +kernel
theorem dX10_test_120 : decode cX10_test 120 = .ok (.aload_n 0, 1) := by decide +kernel
theorem dX10_test_121 : decode cX10_test 121 = .ok (.getfield 7, 3) := by decide +kernel
theorem dX10_test_124 : decode cX10_test 124 = .ok (.iload_n 3, 1) := by decide +kernel
theorem dX10_test_125 : decode cX10_test 125 = .ok (.iconst 2, 1) := by decide +kernel
theorem dX10_test_126 : decode cX10_test 126 = .ok (.iadd, 1) := by decide +kernel
theorem dX10_test_127 : decode cX10_test 127 = .ok (.iload 4, 2) := by decide +kernel
theorem dX10_test_129 : decode cX10_test 129 = .ok (.iastore, 1) := by decide +kernel
theorem dX10_test_130 : decode cX10_test 130 = .ok (.aload_n 0, 1) := by decide +kernel
theorem dX10_test_131 : decode cX10_test 131 = .ok (.getfield 7, 3) := by decide +kernel
theorem dX10_test_134 : decode cX10_test 134 = .ok (.iload_n 3, 1) := by decide +kernel
theorem dX10_test_135 : decode cX10_test 135 = .ok (.iconst 3, 1) := by decide +kernel
theorem dX10_test_136 : decode cX10_test 136 = .ok (.iadd, 1) := by decide +kernel
theorem dX10_test_137 : decode cX10_test 137 = .ok (.aload_n 0, 1) := by decide +kernel
theorem dX10_test_138 : decode cX10_test 138 = .ok (.invokevirtual 212, 3) := by decide +kernel
theorem dX10_test_141 : decode cX10_test 141 = .ok (.iastore, 1) := by decide +kernel
theorem dX10_test_142 : decode cX10_test 142 = .ok (.aload_n 0, 1) := by decide +kernel
theorem dX10_test_143 : decode cX10_test 143 = .ok (.getfield 7, 3) := by decide +kernel
theorem dX10_test_146 : decode cX10_test 146 = .ok (.iload_n 3, 1) := by decide +kernel
theorem dX10_test_147 : decode cX10_test 147 = .ok (.iconst 4, 1) := by decide +kernel
theorem dX10_test_148 : decode cX10_test 148 = .ok (.iadd, 1) := by decide +kernel
theorem dX10_test_149 : decode cX10_test 149 = .ok (.iload_n 2, 1) := by decide +kernel
theorem dX10_test_150 : decode cX10_test 150 = .ok (.ifCond .eq 7, 3) := by decide +kernel
theorem dX10_test_153 : decode cX10_test 153 = .ok (.iconst 1, 1) := by decide +kernel
theorem dX10_test_154 : decode cX10_test 154 = .ok (.goto 4, 3) := by decide +kernel
theorem dX10_test_157 : decode cX10_test 157 = .ok (.iconst 0, 1) := by decide +kernel
theorem dX10_test_158 : decode cX10_test 158 = .ok (.iastore, 1) := by decide +kernel
theorem dX10_test_159 : decode cX10_test 159 = .ok (.aload_n 0, 1) := by decide +kernel
theorem dX10_test_160 : decode cX10_test 160 = .ok (.getfield 7, 3) := by decide +kernel
theorem dX10_test_163 : decode cX10_test 163 = .ok (.iload_n 1, 1) := by decide +kernel
theorem dX10_test_164 : decode cX10_test 164 = .ok (.iconst 2, 1) := by decide +kernel
theorem dX10_test_165 : decode cX10_test 165 = .ok (.iadd, 1) := by decide +kernel
theorem dX10_test_166 : decode cX10_test 166 = .ok (.dup2, 1) := by decide +kernel
theorem dX10_test_167 : decode cX10_test 167 = .ok (.iaload, 1) := by decide +kernel
theorem dX10_test_168 : decode cX10_test 168 = .ok (.iconst 1, 1) := by decide +kernel
theorem dX10_test_169 : decode cX10_test 169 = .ok (.iadd, 1) := by decide +kernel
theorem dX10_test_170 : decode cX10_test 170 = .ok (.iastore, 1) := by decide +kernel
theorem dX10_test_171 : decode cX10_test 171 = .ok (.return_, 1) := by decide +kernel
def F_X10_test_158  (v1 : Int32) (s0 : Int32) (s1 : Int32) (M : eMem) : Option eMem :=
  eG (eIn s1 2900) <|
  eG (eIn (v1 + 2) 2900) <|
  eG (eIn (v1 + 2) 2900) <|
  some (eI (eI M 1 s1.toNatClampNeg s0) 1 (v1 + 2).toNatClampNeg (((eI M 1 s1.toNatClampNeg s0).1 1 (v1 + 2).toNatClampNeg) + 1))
set_option maxRecDepth 100000 in
set_option maxHeartbeats 4000000 in
theorem ev_X10_test_158  (q : eMem)  (v1 : Int32) (s0 : Int32) (s1 : Int32) (M : eMem) (h : F_X10_test_158 v1 s0 s1 M = some q) : Ev layR 7 m_X10_test 158 [some (.ref 0), some (.int v1), none, none, none] [.int s0, .int s1, .ref 1] M (none, q) := by
  rw [F_X10_test_158] at h
  obtain ⟨g9, h⟩ := eGdB h
  refine Ev.iastj (pc := 158) dX10_test_158 (j := s1.toNatClampNeg) lR_1 g9 rfl ?_
  refine Ev.aload_n (pc := 159) dX10_test_159 rfl ?_
  refine Ev.getR (pc := 160) dX10_test_160 fl_RX10_7 lR_0 rfl ?_
  refine Ev.iload_n (pc := 163) dX10_test_163 rfl ?_
  refine Ev.iconst (pc := 164) dX10_test_164 (v := 2) (by decide) ?_
  refine Ev.iadd (pc := 165) dX10_test_165 ?_
  refine Ev.dup2 (pc := 166) dX10_test_166 rfl rfl ?_
  obtain ⟨g9, h⟩ := eGdB h
  refine Ev.ialdj (pc := 167) dX10_test_167 (j := (v1 + 2).toNatClampNeg) lR_1 g9 rfl ?_
  refine Ev.iconst (pc := 168) dX10_test_168 (v := 1) (by decide) ?_
  refine Ev.iadd (pc := 169) dX10_test_169 ?_
  obtain ⟨g9, h⟩ := eGdB h
  refine Ev.iastj (pc := 170) dX10_test_170 (j := (v1 + 2).toNatClampNeg) lR_1 g9 rfl ?_
  obtain rfl := Option.some.inj h
  exact Ev.vret (pc := 171) dX10_test_171 rfl
def F_X10_test_110  (v1 : Int32) (v2 : Int32) (v3 : Int32) (v4 : Int32) (M : eMem) : Option eMem :=
  eG (eIn (v3 + 2) 2900) <|
  (F_X10_digits (eI (eI M 0 17 ((M.1 0 17) + 1)) 1 (v3 + 2).toNatClampNeg v4)).bind fun q4 =>
  eG (eIn (v3 + 3) 2900) <|
  if v2 = 0 then
    F_X10_test_158 v1 0 (v3 + 4) (eI q4.2 1 (v3 + 3).toNatClampNeg q4.1)
  else
    F_X10_test_158 v1 1 (v3 + 4) (eI q4.2 1 (v3 + 3).toNatClampNeg q4.1)
set_option maxRecDepth 100000 in
set_option maxHeartbeats 4000000 in
theorem ev_X10_test_110  (q : eMem)  (v1 : Int32) (v2 : Int32) (v3 : Int32) (v4 : Int32) (M : eMem) (h : F_X10_test_110 v1 v2 v3 v4 M = some q) : Ev layR 7 m_X10_test 110 [some (.ref 0), some (.int v1), some (.int v2), some (.int v3), some (.int v4)] [] M (none, q) := by
  rw [F_X10_test_110] at h
  refine Ev.aload_n (pc := 110) dX10_test_110 rfl ?_
  refine Ev.dup (pc := 111) dX10_test_111 rfl ?_
  refine Ev.getI (pc := 112) dX10_test_112 fl_RX10_194 lR_0 rfl ?_
  refine Ev.iconst (pc := 115) dX10_test_115 (v := 1) (by decide) ?_
  refine Ev.iadd (pc := 116) dX10_test_116 ?_
  refine Ev.putI (pc := 117) dX10_test_117 fp_RX10_194 lR_0 rfl rfl rfl ?_
  refine Ev.aload_n (pc := 120) dX10_test_120 rfl ?_
  refine Ev.getR (pc := 121) dX10_test_121 fl_RX10_7 lR_0 rfl ?_
  refine Ev.iload_n (pc := 124) dX10_test_124 rfl ?_
  refine Ev.iconst (pc := 125) dX10_test_125 (v := 2) (by decide) ?_
  refine Ev.iadd (pc := 126) dX10_test_126 ?_
  refine Ev.iload (pc := 127) dX10_test_127 rfl ?_
  obtain ⟨g9, h⟩ := eGdB h
  refine Ev.iastj (pc := 129) dX10_test_129 (j := (v3 + 2).toNatClampNeg) lR_1 g9 rfl ?_
  refine Ev.aload_n (pc := 130) dX10_test_130 rfl ?_
  refine Ev.getR (pc := 131) dX10_test_131 fl_RX10_7 lR_0 rfl ?_
  refine Ev.iload_n (pc := 134) dX10_test_134 rfl ?_
  refine Ev.iconst (pc := 135) dX10_test_135 (v := 3) (by decide) ?_
  refine Ev.iadd (pc := 136) dX10_test_136 ?_
  refine Ev.aload_n (pc := 137) dX10_test_137 rfl ?_
  refine eBk h (fun q4 hq4 h => ?_)
  refine Ev.callV (pc := 138) (as := []) (st := [.int (v3 + 3), .ref 1]) (z := 2) dX10_test_138 wc_X10_digits ml_RX10_212 im_X10_digits se_X10_digits lR_0 rfl rfl (ev_X10_digits  (eI (eI M 0 17 ((M.1 0 17) + 1)) 1 (v3 + 2).toNatClampNeg v4) _ hq4) rfl rfl (by decide) rfl rfl (Nat.le_of_ble_eq_true rfl) ?_
  obtain ⟨g9, h⟩ := eGdB h
  refine Ev.iastj (pc := 141) dX10_test_141 (j := (v3 + 3).toNatClampNeg) lR_1 g9 rfl ?_
  refine Ev.aload_n (pc := 142) dX10_test_142 rfl ?_
  refine Ev.getR (pc := 143) dX10_test_143 fl_RX10_7 lR_0 rfl ?_
  refine Ev.iload_n (pc := 146) dX10_test_146 rfl ?_
  refine Ev.iconst (pc := 147) dX10_test_147 (v := 4) (by decide) ?_
  refine Ev.iadd (pc := 148) dX10_test_148 ?_
  refine Ev.iload_n (pc := 149) dX10_test_149 rfl ?_
  refine Ev.if_eq (pc := 150) (tgt := 157) dX10_test_150 (by decide) (fun c9 => ?_) (fun c9 => ?_)
  · have h := eT h c9
    refine Ev.iconst (pc := 157) dX10_test_157 (v := 0) (by decide) ?_
    exact Ev.fg (ev_X10_test_158 _ _ _ _ _ h) (And.intro rfl (And.intro rfl trivial))
  · have h := eF h c9
    refine Ev.iconst (pc := 153) dX10_test_153 (v := 1) (by decide) ?_
    refine Ev.goto (pc := 154) (tgt := 158) dX10_test_154 (by decide) ?_
    exact Ev.fg (ev_X10_test_158 _ _ _ _ _ h) (And.intro rfl (And.intro rfl trivial))
def F_X10_test_61  (v1 : Int32) (v2 : Int32) (v3 : Int32) (s0 : Int32) (s1 : Int32) (M : eMem) : Option eMem :=
  eG (eIn s1 2900) <|
  if (M.1 0 18) = 0 then
    (F_X10_byteAt (M.1 0 17) (eI M 1 s1.toNatClampNeg s0)).bind fun q3 =>
    if q3 = 61 then
      F_X10_test_110 v1 v2 v3 q3 (eI M 1 s1.toNatClampNeg s0)
    else
      if q3 = 60 then
        F_X10_test_110 v1 v2 v3 q3 (eI M 1 s1.toNatClampNeg s0)
      else
        if q3 = 62 then
          F_X10_test_110 v1 v2 v3 q3 (eI M 1 s1.toNatClampNeg s0)
        else
          (F_X10_wrong (M.1 0 17) (eI M 1 s1.toNatClampNeg s0)).bind fun q5 =>
          some q5
  else
    some (eI M 1 s1.toNatClampNeg s0)
set_option maxRecDepth 100000 in
set_option maxHeartbeats 4000000 in
theorem ev_X10_test_61  (q : eMem)  (v1 : Int32) (v2 : Int32) (v3 : Int32) (s0 : Int32) (s1 : Int32) (M : eMem) (h : F_X10_test_61 v1 v2 v3 s0 s1 M = some q) : Ev layR 7 m_X10_test 61 [some (.ref 0), some (.int v1), some (.int v2), some (.int v3), none] [.int s0, .int s1, .ref 1] M (none, q) := by
  rw [F_X10_test_61] at h
  obtain ⟨g9, h⟩ := eGdB h
  refine Ev.iastj (pc := 61) dX10_test_61 (j := s1.toNatClampNeg) lR_1 g9 rfl ?_
  refine Ev.aload_n (pc := 62) dX10_test_62 rfl ?_
  refine Ev.getIv (pc := 63) dX10_test_63 (v := (M.1 0 18)) fl_RX10_190 lR_0 rfl (eI_n (by decide)) ?_
  refine Ev.if_eq (pc := 66) (tgt := 70) dX10_test_66 (by decide) (fun c9 => ?_) (fun c9 => ?_)
  · have h := eT h c9
    refine Ev.aload_n (pc := 70) dX10_test_70 rfl ?_
    refine Ev.aload_n (pc := 71) dX10_test_71 rfl ?_
    refine Ev.getIv (pc := 72) dX10_test_72 (v := (M.1 0 17)) fl_RX10_194 lR_0 rfl (eI_n (by decide)) ?_
    refine eBk h (fun q3 hq3 h => ?_)
    refine Ev.callV (pc := 75) (as := [.int (M.1 0 17)]) (st := []) (z := 0) dX10_test_75 wc_X10_byteAt ml_RX10_200 im_X10_byteAt se_X10_byteAt lR_0 rfl rfl (ev_X10_byteAt (M.1 0 17) (eI M 1 s1.toNatClampNeg s0) _ hq3) rfl rfl (by decide) rfl rfl (Nat.le_of_ble_eq_true rfl) ?_
    refine Ev.istore (pc := 78) dX10_test_78 (by decide) rfl rfl ?_
    refine Ev.iload (pc := 80) dX10_test_80 rfl ?_
    refine Ev.bipush (pc := 82) dX10_test_82 (v := 61) (by decide) ?_
    refine Ev.icmp_eq (pc := 84) (tgt := 110) dX10_test_84 (by decide) (fun c9 => ?_) (fun c9 => ?_)
    · have h := eT h c9
      exact Ev.fg (ev_X10_test_110 _ _ _ _ _ _ h) (And.intro rfl (And.intro rfl (And.intro rfl (And.intro rfl (And.intro rfl trivial)))))
    · have h := eF h c9
      refine Ev.iload (pc := 87) dX10_test_87 rfl ?_
      refine Ev.bipush (pc := 89) dX10_test_89 (v := 60) (by decide) ?_
      refine Ev.icmp_eq (pc := 91) (tgt := 110) dX10_test_91 (by decide) (fun c9 => ?_) (fun c9 => ?_)
      · have h := eT h c9
        exact Ev.fg (ev_X10_test_110 _ _ _ _ _ _ h) (And.intro rfl (And.intro rfl (And.intro rfl (And.intro rfl (And.intro rfl trivial)))))
      · have h := eF h c9
        refine Ev.iload (pc := 94) dX10_test_94 rfl ?_
        refine Ev.bipush (pc := 96) dX10_test_96 (v := 62) (by decide) ?_
        refine Ev.icmp_eq (pc := 98) (tgt := 110) dX10_test_98 (by decide) (fun c9 => ?_) (fun c9 => ?_)
        · have h := eT h c9
          exact Ev.fg (ev_X10_test_110 _ _ _ _ _ _ h) (And.intro rfl (And.intro rfl (And.intro rfl (And.intro rfl (And.intro rfl trivial)))))
        · have h := eF h c9
          refine Ev.aload_n (pc := 101) dX10_test_101 rfl ?_
          refine Ev.aload_n (pc := 102) dX10_test_102 rfl ?_
          refine Ev.getIv (pc := 103) dX10_test_103 (v := (M.1 0 17)) fl_RX10_194 lR_0 rfl (eI_n (by decide)) ?_
          refine eBk h (fun q5 hq5 h => ?_)
          refine Ev.callV (pc := 106) (as := [.int (M.1 0 17)]) (st := []) (z := 0) dX10_test_106 wc_X10_wrong ml_RX10_203 im_X10_wrong se_X10_wrong lR_0 rfl rfl (ev_X10_wrong (M.1 0 17) (eI M 1 s1.toNatClampNeg s0) _ hq5) rfl rfl (by decide) rfl rfl (Nat.le_of_ble_eq_true rfl) ?_
          obtain rfl := Option.some.inj h
          exact Ev.vret (pc := 109) dX10_test_109 rfl
  · have h := eF h c9
    obtain rfl := Option.some.inj h
    exact Ev.vret (pc := 69) dX10_test_69 rfl
def F_X10_test_34  (v1 : Int32) (v2 : Int32) (v3 : Int32) (s0 : Int32) (s1 : Int32) (M : eMem) : Option eMem :=
  eG (eIn s1 2900) <|
  if (M.1 0 18) = 0 then
    (F_X10_word 10 14 (eI M 1 s1.toNatClampNeg s0)).bind fun q2 =>
    F_X10_test_61 v1 v2 v3 q2.1 (v3 + 1) q2.2
  else
    F_X10_test_61 v1 v2 v3 0 (v3 + 1) (eI M 1 s1.toNatClampNeg s0)
set_option maxRecDepth 100000 in
set_option maxHeartbeats 4000000 in
theorem ev_X10_test_34  (q : eMem)  (v1 : Int32) (v2 : Int32) (v3 : Int32) (s0 : Int32) (s1 : Int32) (M : eMem) (h : F_X10_test_34 v1 v2 v3 s0 s1 M = some q) : Ev layR 7 m_X10_test 34 [some (.ref 0), some (.int v1), some (.int v2), some (.int v3), none] [.int s0, .int s1, .ref 1] M (none, q) := by
  rw [F_X10_test_34] at h
  obtain ⟨g9, h⟩ := eGdB h
  refine Ev.iastj (pc := 34) dX10_test_34 (j := s1.toNatClampNeg) lR_1 g9 rfl ?_
  refine Ev.aload_n (pc := 35) dX10_test_35 rfl ?_
  refine Ev.getR (pc := 36) dX10_test_36 fl_RX10_7 lR_0 rfl ?_
  refine Ev.iload_n (pc := 39) dX10_test_39 rfl ?_
  refine Ev.iconst (pc := 40) dX10_test_40 (v := 1) (by decide) ?_
  refine Ev.iadd (pc := 41) dX10_test_41 ?_
  refine Ev.aload_n (pc := 42) dX10_test_42 rfl ?_
  refine Ev.getIv (pc := 43) dX10_test_43 (v := (M.1 0 18)) fl_RX10_190 lR_0 rfl (eI_n (by decide)) ?_
  refine Ev.if_eq (pc := 46) (tgt := 53) dX10_test_46 (by decide) (fun c9 => ?_) (fun c9 => ?_)
  · have h := eT h c9
    refine Ev.aload_n (pc := 53) dX10_test_53 rfl ?_
    refine Ev.bipush (pc := 54) dX10_test_54 (v := 10) (by decide) ?_
    refine Ev.bipush (pc := 56) dX10_test_56 (v := 14) (by decide) ?_
    refine eBk h (fun q2 hq2 h => ?_)
    refine Ev.callV (pc := 58) (as := [.int 10, .int 14]) (st := [.int (v3 + 1), .ref 1]) (z := 5) dX10_test_58 wc_X10_word ml_RX10_209 im_X10_word se_X10_word lR_0 rfl rfl (ev_X10_word 10 14 (eI M 1 s1.toNatClampNeg s0) _ hq2) rfl rfl (by decide) rfl rfl (Nat.le_of_ble_eq_true rfl) ?_
    exact Ev.fg (ev_X10_test_61 _ _ _ _ _ _ _ h) (And.intro rfl (And.intro rfl (And.intro rfl (And.intro rfl trivial))))
  · have h := eF h c9
    refine Ev.iconst (pc := 49) dX10_test_49 (v := 0) (by decide) ?_
    refine Ev.goto (pc := 50) (tgt := 61) dX10_test_50 (by decide) ?_
    exact Ev.fg (ev_X10_test_61 _ _ _ _ _ _ _ h) (And.intro rfl (And.intro rfl (And.intro rfl (And.intro rfl trivial))))
def F_X10_test (x1 : Int32) (x2 : Int32) (M : eMem) : Option eMem :=
  eG (eIn (x1 + 2) 2900) <|
  (F_X10_takes 33 M).bind fun q1 =>
  if q1.1 = 0 then
    F_X10_test_34 x1 x2 ((x1 + 3) + (5 * (M.1 1 (x1 + 2).toNatClampNeg))) 0 ((x1 + 3) + (5 * (M.1 1 (x1 + 2).toNatClampNeg))) q1.2
  else
    F_X10_test_34 x1 x2 ((x1 + 3) + (5 * (M.1 1 (x1 + 2).toNatClampNeg))) 1 ((x1 + 3) + (5 * (M.1 1 (x1 + 2).toNatClampNeg))) q1.2
set_option maxRecDepth 100000 in
set_option maxHeartbeats 4000000 in
theorem ev_X10_test (x1 : Int32) (x2 : Int32) (M : eMem) (q : eMem) (h : F_X10_test x1 x2 M = some q) : Ev layR 7 m_X10_test 0 [some (.ref 0), some (.int x1), some (.int x2), none, none] [] M (none, q) := by
  rw [F_X10_test] at h
  refine Ev.iload_n (pc := 0) dX10_test_0 rfl ?_
  refine Ev.iconst (pc := 1) dX10_test_1 (v := 3) (by decide) ?_
  refine Ev.iadd (pc := 2) dX10_test_2 ?_
  refine Ev.iconst (pc := 3) dX10_test_3 (v := 5) (by decide) ?_
  refine Ev.aload_n (pc := 4) dX10_test_4 rfl ?_
  refine Ev.getR (pc := 5) dX10_test_5 fl_RX10_7 lR_0 rfl ?_
  refine Ev.iload_n (pc := 8) dX10_test_8 rfl ?_
  refine Ev.iconst (pc := 9) dX10_test_9 (v := 2) (by decide) ?_
  refine Ev.iadd (pc := 10) dX10_test_10 ?_
  obtain ⟨g9, h⟩ := eGdB h
  refine Ev.ialdj (pc := 11) dX10_test_11 (j := (x1 + 2).toNatClampNeg) lR_1 g9 rfl ?_
  refine Ev.imul (pc := 12) dX10_test_12 ?_
  refine Ev.iadd (pc := 13) dX10_test_13 ?_
  refine Ev.istore_n (pc := 14) dX10_test_14 (by decide) rfl rfl ?_
  refine Ev.aload_n (pc := 15) dX10_test_15 rfl ?_
  refine Ev.getR (pc := 16) dX10_test_16 fl_RX10_7 lR_0 rfl ?_
  refine Ev.iload_n (pc := 19) dX10_test_19 rfl ?_
  refine Ev.aload_n (pc := 20) dX10_test_20 rfl ?_
  refine Ev.bipush (pc := 21) dX10_test_21 (v := 33) (by decide) ?_
  refine eBk h (fun q1 hq1 h => ?_)
  refine Ev.callV (pc := 23) (as := [.int 33]) (st := [.int ((x1 + 3) + (5 * (M.1 1 (x1 + 2).toNatClampNeg))), .ref 1]) (z := 0) dX10_test_23 wc_X10_takes ml_RX10_206 im_X10_takes se_X10_takes lR_0 rfl rfl (ev_X10_takes 33 M _ hq1) rfl rfl (by decide) rfl rfl (Nat.le_of_ble_eq_true rfl) ?_
  refine Ev.if_eq (pc := 26) (tgt := 33) dX10_test_26 (by decide) (fun c9 => ?_) (fun c9 => ?_)
  · have h := eT h c9
    refine Ev.iconst (pc := 33) dX10_test_33 (v := 0) (by decide) ?_
    exact Ev.fg (ev_X10_test_34 _ _ _ _ _ _ _ h) (And.intro rfl (And.intro rfl (And.intro rfl (And.intro rfl trivial))))
  · have h := eF h c9
    refine Ev.iconst (pc := 29) dX10_test_29 (v := 1) (by decide) ?_
    refine Ev.goto (pc := 30) (tgt := 34) dX10_test_30 (by decide) ?_
    exact Ev.fg (ev_X10_test_34 _ _ _ _ _ _ _ h) (And.intro rfl (And.intro rfl (And.intro rfl (And.intro rfl trivial))))
theorem dX10_clause_0 : decode cX10_clause 0 = .ok (.aload_n 0, 1) := by decide +kernel
theorem dX10_clause_1 : decode cX10_clause 1 = .ok (.getfield 7, 3) := by decide +kernel
theorem dX10_clause_4 : decode cX10_clause 4 = .ok (.iload_n 1, 1) := by decide +kernel
theorem dX10_clause_5 : decode cX10_clause 5 = .ok (.aload_n 0, 1) := by decide +kernel
theorem dX10_clause_6 : decode cX10_clause 6 = .ok (.iconst 0, 1) := by decide +kernel
theorem dX10_clause_7 : decode cX10_clause 7 = .ok (.iconst 2, 1) := by decide +kernel
theorem dX10_clause_8 : decode cX10_clause 8 = .ok (.invokevirtual 209, 3) := by decide +kernel
theorem dX10_clause_11 : decode cX10_clause 11 = .ok (.iastore, 1) := by decide +kernel
theorem dX10_clause_12 : decode cX10_clause 12 = .ok (.aload_n 0, 1) := by decide +kernel
theorem dX10_clause_13 : decode cX10_clause 13 = .ok (.getfield 7, 3) := by decide +kernel
theorem dX10_clause_16 : decode cX10_clause 16 = .ok (.iload_n 1, 1) := by decide +kernel
theorem dX10_clause_17 : decode cX10_clause 17 = .ok (.iconst 2, 1) := by decide +kernel
theorem dX10_clause_18 : decode cX10_clause 18 = .ok (.iadd, 1) := by decide +kernel
theorem dX10_clause_19 : decode cX10_clause 19 = .ok (.iconst 0, 1) := by decide +kernel
theorem dX10_clause_20 : decode cX10_clause 20 = .ok (.iastore, 1) := by decide +kernel
theorem dX10_clause_21 : decode cX10_clause 21 = .ok (.aload_n 0, 1) := by decide +kernel
theorem dX10_clause_22 : decode cX10_clause 22 = .ok (.bipush 32, 2) := by decide +kernel
theorem dX10_clause_24 : decode cX10_clause 24 = .ok (.invokevirtual 215, 3) := by decide +kernel
theorem dX10_clause_27 : decode cX10_clause 27 = .ok (.aload_n 0, 1) := by decide +kernel
theorem dX10_clause_28 : decode cX10_clause 28 = .ok (.getfield 190, 3) := by decide +kernel
theorem dX10_clause_31 : decode cX10_clause 31 = .ok (.ifCond .eq 4, 3) := by decide +kernel
theorem dX10_clause_34 : decode cX10_clause 34 = .ok (.return_, 1) := by decide +kernel
theorem dX10_clause_35 : decode cX10_clause 35 = .ok (.aload_n 0, 1) := by decide +kernel
theorem dX10_clause_36 : decode cX10_clause 36 = .ok (.getfield 7, 3) := by decide +kernel
theorem dX10_clause_39 : decode cX10_clause 39 = .ok (.iload_n 1, 1) := by decide +kernel
theorem dX10_clause_40 : decode cX10_clause 40 = .ok (.iconst 1, 1) := by decide +kernel
theorem dX10_clause_41 : decode cX10_clause 41 = .ok (.iadd, 1) := by decide +kernel
theorem dX10_clause_42 : decode cX10_clause 42 = .ok (.aload_n 0, 1) := by decide +kernel
theorem dX10_clause_43 : decode cX10_clause 43 = .ok (.iconst 3, 1) := by decide +kernel
theorem dX10_clause_44 : decode cX10_clause 44 = .ok (.bipush 9, 2) := by decide +kernel
theorem dX10_clause_46 : decode cX10_clause 46 = .ok (.invokevirtual 209, 3) := by decide +kernel
theorem dX10_clause_49 : decode cX10_clause 49 = .ok (.iastore, 1) := by decide +kernel
theorem dX10_clause_50 : decode cX10_clause 50 = .ok (.aload_n 0, 1) := by decide +kernel
theorem dX10_clause_51 : decode cX10_clause 51 = .ok (.getfield 190, 3) := by decide +kernel
theorem dX10_clause_54 : decode cX10_clause 54 = .ok (.ifCond .ne 12, 3) := by decide +kernel
theorem dX10_clause_57 : decode cX10_clause 57 = .ok (.aload_n 0, 1) := by decide +kernel
theorem dX10_clause_58 : decode cX10_clause 58 = .ok (.bipush 32, 2) := by decide +kernel
theorem dX10_clause_60 : decode cX10_clause 60 = .ok (.invokevirtual 206, 3) := by decide +kernel
theorem dX10_clause_63 : decode cX10_clause 63 = .ok (.ifCond .ne 4, 3) := by decide +kernel
theorem dX10_clause_66 : decode cX10_clause 66 = .ok (.return_, 1) := by decide +kernel
theorem dX10_clause_67 : decode cX10_clause 67 = .ok (.aload_n 0, 1) := by decide +kernel
theorem dX10_clause_68 : decode cX10_clause 68 = .ok (.bipush 15, 2) := by decide +kernel
theorem dX10_clause_70 : decode cX10_clause 70 = .ok (.bipush 15, 2) := by decide +kernel
theorem dX10_clause_72 : decode cX10_clause 72 = .ok (.invokevirtual 209, 3) := by decide +kernel
theorem dX10_clause_75 : decode cX10_clause 75 = .ok (.istore_n 2, 1) := by decide +kernel
theorem dX10_clause_76 : decode cX10_clause 76 = .ok (.aload_n 0, 1) := by decide +kernel
theorem dX10_clause_77 : decode cX10_clause 77 = .ok (.bipush 32, 2) := by decide +kernel
theorem dX10_clause_79 : decode cX10_clause 79 = .ok (.invokevirtual 215, 3) := by decide +kernel
theorem dX10_clause_82 : decode cX10_clause 82 = .ok (.iconst 1, 1) := by decide +kernel
theorem dX10_clause_83 : decode cX10_clause 83 = .ok (.istore_n 3, 1) := by decide +kernel
theorem dX10_clause_84 : decode cX10_clause 84 = .ok (.aload_n 0, 1) := by decide +kernel
theorem dX10_clause_85 : decode cX10_clause 85 = .ok (.getfield 190, 3) := by decide +kernel
theorem dX10_clause_88 : decode cX10_clause 88 = .ok (.ifCond .ne 7, 3) := by decide +kernel
theorem dX10_clause_91 : decode cX10_clause 91 = .ok (.iconst 1, 1) := by decide +kernel
theorem dX10_clause_92 : decode cX10_clause 92 = .ok (.goto 4, 3) := by decide +kernel
theorem dX10_clause_95 : decode cX10_clause 95 = .ok (.iconst 0, 1) := by decide +kernel
theorem dX10_clause_96 : decode cX10_clause 96 = .ok (.istore 4, 2) := by decide +kernel
theorem dX10_clause_98 : decode cX10_clause 98 = .ok (.iload 4, 2) := by decide +kernel
theorem dX10_clause_100 : decode cX10_clause 100 = .ok (.ifCond .eq 102, 3) := by decide +kernel
theorem dX10_clause_103 : decode cX10_clause 103 = .ok (.aload_n 0, 1) := by decide +kernel
theorem dX10_clause_104 : decode cX10_clause 104 = .ok (.iload_n 1, 1) := by decide +kernel
theorem dX10_clause_105 : decode cX10_clause 105 = .ok (.iload_n 3, 1) := by decide +kernel
theorem dX10_clause_106 : decode cX10_clause 106 = .ok (.invokevirtual 218, 3) := by decide +kernel
theorem dX10_clause_109 : decode cX10_clause 109 = .ok (.aload_n 0, 1) := by decide +kernel
theorem dX10_clause_110 : decode cX10_clause 110 = .ok (.getfield 190, 3) := by decide +kernel
theorem dX10_clause_113 : decode cX10_clause 113 = .ok (.ifCond .ne 45, 3) := by decide +kernel
theorem dX10_clause_116 : decode cX10_clause 116 = .ok (.aload_n 0, 1) := by decide +kernel
theorem dX10_clause_117 : decode cX10_clause 117 = .ok (.getfield 7, 3) := by decide +kernel
theorem dX10_clause_120 : decode cX10_clause 120 = .ok (.iload_n 1, 1) := by decide +kernel
theorem dX10_clause_121 : decode cX10_clause 121 = .ok (.iconst 2, 1) := by decide +kernel
theorem dX10_clause_122 : decode cX10_clause 122 = .ok (.iadd, 1) := by decide +kernel
theorem dX10_clause_123 : decode cX10_clause 123 = .ok (.iaload, 1) := by decide +kernel
theorem dX10_clause_124 : decode cX10_clause 124 = .ok (.iconst 4, 1) := by decide +kernel
theorem dX10_clause_125 : decode cX10_clause 125 = .ok (.if_icmp .ge 33, 3) := by decide +kernel
theorem dX10_clause_128 : decode cX10_clause 128 = .ok (.aload_n 0, 1) := by decide +kernel
theorem dX10_clause_129 : decode cX10_clause 129 = .ok (.aload_n 0, 1) := by decide +kernel
theorem dX10_clause_130 : decode cX10_clause 130 = .ok (.getfield 194, 3) := by decide +kernel
theorem dX10_clause_133 : decode cX10_clause 133 = .ok (.invokevirtual 200, 3) := by decide +kernel
theorem dX10_clause_136 : decode cX10_clause 136 = .ok (.bipush 38, 2) := by decide +kernel
theorem dX10_clause_138 : decode cX10_clause 138 = .ok (.if_icmp .eq 16, 3) := by decide +kernel
theorem dX10_clause_141 : decode cX10_clause 141 = .ok (.aload_n 0, 1) := by decide +kernel
theorem dX10_clause_142 : decode cX10_clause 142 = .ok (.aload_n 0, 1) := by decide +kernel
theorem dX10_clause_143 : decode cX10_clause 143 = .ok (.getfield 194, 3) := by decide +kernel
theorem dX10_clause_146 : decode cX10_clause 146 = .ok (.invokevirtual 200, 3) := by decide +kernel
theorem dX10_clause_149 : decode cX10_clause 149 = .ok (.bipush 124, 2) := by decide +kernel
theorem dX10_clause_151 : decode cX10_clause 151 = .ok (.if_icmp .ne 7, 3) := by decide +kernel
theorem dX10_clause_154 : decode cX10_clause 154 = .ok (.iconst 1, 1) := by decide +kernel
theorem dX10_clause_155 : decode cX10_clause 155 = .ok (.goto 4, 3) := by decide +kernel
theorem dX10_clause_158 : decode cX10_clause 158 = .ok (.iconst 0, 1) := by decide +kernel
theorem dX10_clause_159 : decode cX10_clause 159 = .ok (.istore 4, 2) := by decide +kernel
theorem dX10_clause_161 : decode cX10_clause 161 = .ok (.aload_n 0, 1) := by decide +kernel
theorem dX10_clause_162 : decode cX10_clause 162 = .ok (.aload_n 0, 1) := by decide +kernel
theorem dX10_clause_163 : decode cX10_clause 163 = .ok (.getfield 194, 3) := by decide +kernel
theorem dX10_clause_166 : decode cX10_clause 166 = .ok (.invokevirtual 200, 3) := by decide +kernel
theorem dX10_clause_169 : decode cX10_clause 169 = .ok (.bipush 124, 2) := by decide +kernel
theorem dX10_clause_171 : decode cX10_clause 171 = .ok (.if_icmp .ne 7, 3) := by decide +kernel
theorem dX10_clause_174 : decode cX10_clause 174 = .ok (.iconst 1, 1) := by decide +kernel
theorem dX10_clause_175 : decode cX10_clause 175 = .ok (.goto 4, 3) := by decide +kernel
theorem dX10_clause_178 : decode cX10_clause 178 = .ok (.iconst 0, 1) := by decide +kernel
theorem dX10_clause_179 : decode cX10_clause 179 = .ok (.istore_n 3, 1) := by decide +kernel
theorem dX10_clause_180 : decode cX10_clause 180 = .ok (.aload_n 0, 1) := by decide +kernel
theorem dX10_clause_181 : decode cX10_clause 181 = .ok (.dup, 1) := by decide +kernel
theorem dX10_clause_182 : decode cX10_clause 182 = .ok (.getfield 194, 3) := by decide +kernel
theorem dX10_clause_185 : decode cX10_clause 185 = .ok (.iload 4, 2) := by decide +kernel
theorem dX10_clause_187 : decode cX10_clause 187 = .ok (.ifCond .eq 7, 3) := by decide +kernel
theorem dX10_clause_190 : decode cX10_clause 190 = .ok (.iconst 1, 1) := by decide +kernel
theorem dX10_clause_191 : decode cX10_clause 191 = .ok (.goto 4, 3) := by decide +kernel
theorem dX10_clause_194 : decode cX10_clause 194 = .ok (.iconst 0, 1) := by decide +kernel
theorem dX10_clause_195 : decode cX10_clause 195 = .ok (.iadd, 1) := by decide +kernel
theorem dX10_clause_196 : decode cX10_clause 196 = .ok (.putfield 194, 3) := by decide +kernel
theorem dX10_clause_199 : decode cX10_clause 199 = .ok (.goto (-101), 3) := by decide +kernel
theorem dX10_clause_202 : decode cX10_clause 202 = .ok (.return_, 1) := by decide +kernel
def F_X10_clause_179 (rec : Int32 → Int32 → Int32 → eMem → Option eMem) (v1 : Int32) (v4 : Int32) (s0 : Int32) (M : eMem) : Option eMem :=
  if v4 = 0 then
    rec v1 s0 v4 (eI M 0 17 ((M.1 0 17) + 0))
  else
    rec v1 s0 v4 (eI M 0 17 ((M.1 0 17) + 1))
set_option maxRecDepth 100000 in
set_option maxHeartbeats 4000000 in
theorem ev_X10_clause_179 (rec : Int32 → Int32 → Int32 → eMem → Option eMem) (q : eMem) (hrec : ∀ (v1 : Int32) (v3 : Int32) (v4 : Int32) (M : eMem), rec v1 v3 v4 M = some q → Ev layR 8 m_X10_clause 98 [some (.ref 0), some (.int v1), none, some (.int v3), some (.int v4)] [] M (none, q)) (v1 : Int32) (v4 : Int32) (s0 : Int32) (M : eMem) (h : F_X10_clause_179 rec v1 v4 s0 M = some q) : Ev layR 8 m_X10_clause 179 [some (.ref 0), some (.int v1), none, none, some (.int v4)] [.int s0] M (none, q) := by
  rw [F_X10_clause_179] at h
  refine Ev.istore_n (pc := 179) dX10_clause_179 (by decide) rfl rfl ?_
  refine Ev.aload_n (pc := 180) dX10_clause_180 rfl ?_
  refine Ev.dup (pc := 181) dX10_clause_181 rfl ?_
  refine Ev.getI (pc := 182) dX10_clause_182 fl_RX10_194 lR_0 rfl ?_
  refine Ev.iload (pc := 185) dX10_clause_185 rfl ?_
  refine Ev.if_eq (pc := 187) (tgt := 194) dX10_clause_187 (by decide) (fun c9 => ?_) (fun c9 => ?_)
  · have h := eT h c9
    refine Ev.iconst (pc := 194) dX10_clause_194 (v := 0) (by decide) ?_
    refine Ev.iadd (pc := 195) dX10_clause_195 ?_
    refine Ev.putI (pc := 196) dX10_clause_196 fp_RX10_194 lR_0 rfl rfl rfl ?_
    refine Ev.goto (pc := 199) (tgt := 98) dX10_clause_199 (by decide) ?_
    exact Ev.fg (hrec _ _ _ _ h) (And.intro rfl (And.intro rfl (And.intro rfl (And.intro rfl trivial))))
  · have h := eF h c9
    refine Ev.iconst (pc := 190) dX10_clause_190 (v := 1) (by decide) ?_
    refine Ev.goto (pc := 191) (tgt := 195) dX10_clause_191 (by decide) ?_
    refine Ev.iadd (pc := 195) dX10_clause_195 ?_
    refine Ev.putI (pc := 196) dX10_clause_196 fp_RX10_194 lR_0 rfl rfl rfl ?_
    refine Ev.goto (pc := 199) (tgt := 98) dX10_clause_199 (by decide) ?_
    exact Ev.fg (hrec _ _ _ _ h) (And.intro rfl (And.intro rfl (And.intro rfl (And.intro rfl trivial))))
def F_X10_clause_159 (rec : Int32 → Int32 → Int32 → eMem → Option eMem) (v1 : Int32) (s0 : Int32) (M : eMem) : Option eMem :=
  (F_X10_byteAt (M.1 0 17) M).bind fun q8 =>
  if q8 = 124 then
    F_X10_clause_179 (fun v1 v3 v4 M => rec v1 v3 v4 M) v1 s0 1 M
  else
    F_X10_clause_179 (fun v1 v3 v4 M => rec v1 v3 v4 M) v1 s0 0 M
set_option maxRecDepth 100000 in
set_option maxHeartbeats 4000000 in
theorem ev_X10_clause_159 (rec : Int32 → Int32 → Int32 → eMem → Option eMem) (q : eMem) (hrec : ∀ (v1 : Int32) (v3 : Int32) (v4 : Int32) (M : eMem), rec v1 v3 v4 M = some q → Ev layR 8 m_X10_clause 98 [some (.ref 0), some (.int v1), none, some (.int v3), some (.int v4)] [] M (none, q)) (v1 : Int32) (s0 : Int32) (M : eMem) (h : F_X10_clause_159 rec v1 s0 M = some q) : Ev layR 8 m_X10_clause 159 [some (.ref 0), some (.int v1), none, none, none] [.int s0] M (none, q) := by
  rw [F_X10_clause_159] at h
  refine Ev.istore (pc := 159) dX10_clause_159 (by decide) rfl rfl ?_
  refine Ev.aload_n (pc := 161) dX10_clause_161 rfl ?_
  refine Ev.aload_n (pc := 162) dX10_clause_162 rfl ?_
  refine Ev.getI (pc := 163) dX10_clause_163 fl_RX10_194 lR_0 rfl ?_
  refine eBk h (fun q8 hq8 h => ?_)
  refine Ev.callV (pc := 166) (as := [.int (M.1 0 17)]) (st := []) (z := 0) dX10_clause_166 wc_X10_byteAt ml_RX10_200 im_X10_byteAt se_X10_byteAt lR_0 rfl rfl (ev_X10_byteAt (M.1 0 17) M _ hq8) rfl rfl (by decide) rfl rfl (Nat.le_of_ble_eq_true rfl) ?_
  refine Ev.bipush (pc := 169) dX10_clause_169 (v := 124) (by decide) ?_
  refine Ev.icmp_ne (pc := 171) (tgt := 178) dX10_clause_171 (by decide) (fun c9 => ?_) (fun c9 => ?_)
  · have h := eF h c9
    refine Ev.iconst (pc := 178) dX10_clause_178 (v := 0) (by decide) ?_
    exact Ev.fg (ev_X10_clause_179 _ _ hrec _ _ _ _ h) (And.intro rfl (And.intro rfl (And.intro rfl trivial)))
  · have h := eT h c9
    refine Ev.iconst (pc := 174) dX10_clause_174 (v := 1) (by decide) ?_
    refine Ev.goto (pc := 175) (tgt := 179) dX10_clause_175 (by decide) ?_
    exact Ev.fg (ev_X10_clause_179 _ _ hrec _ _ _ _ h) (And.intro rfl (And.intro rfl (And.intro rfl trivial)))
def F_X10_clause_158 (rec : Int32 → Int32 → Int32 → eMem → Option eMem) (v1 : Int32) (M : eMem) : Option eMem :=
  F_X10_clause_159 (fun v1 v3 v4 M => rec v1 v3 v4 M) v1 0 M
set_option maxRecDepth 100000 in
set_option maxHeartbeats 4000000 in
theorem ev_X10_clause_158 (rec : Int32 → Int32 → Int32 → eMem → Option eMem) (q : eMem) (hrec : ∀ (v1 : Int32) (v3 : Int32) (v4 : Int32) (M : eMem), rec v1 v3 v4 M = some q → Ev layR 8 m_X10_clause 98 [some (.ref 0), some (.int v1), none, some (.int v3), some (.int v4)] [] M (none, q)) (v1 : Int32) (M : eMem) (h : F_X10_clause_158 rec v1 M = some q) : Ev layR 8 m_X10_clause 158 [some (.ref 0), some (.int v1), none, none, none] [] M (none, q) := by
  rw [F_X10_clause_158] at h
  refine Ev.iconst (pc := 158) dX10_clause_158 (v := 0) (by decide) ?_
  exact Ev.fg (ev_X10_clause_159 _ _ hrec _ _ _ h) (And.intro rfl (And.intro rfl trivial))
def F_X10_clause_154 (rec : Int32 → Int32 → Int32 → eMem → Option eMem) (v1 : Int32) (M : eMem) : Option eMem :=
  F_X10_clause_159 (fun v1 v3 v4 M => rec v1 v3 v4 M) v1 1 M
set_option maxRecDepth 100000 in
set_option maxHeartbeats 4000000 in
theorem ev_X10_clause_154 (rec : Int32 → Int32 → Int32 → eMem → Option eMem) (q : eMem) (hrec : ∀ (v1 : Int32) (v3 : Int32) (v4 : Int32) (M : eMem), rec v1 v3 v4 M = some q → Ev layR 8 m_X10_clause 98 [some (.ref 0), some (.int v1), none, some (.int v3), some (.int v4)] [] M (none, q)) (v1 : Int32) (M : eMem) (h : F_X10_clause_154 rec v1 M = some q) : Ev layR 8 m_X10_clause 154 [some (.ref 0), some (.int v1), none, none, none] [] M (none, q) := by
  rw [F_X10_clause_154] at h
  refine Ev.iconst (pc := 154) dX10_clause_154 (v := 1) (by decide) ?_
  refine Ev.goto (pc := 155) (tgt := 159) dX10_clause_155 (by decide) ?_
  exact Ev.fg (ev_X10_clause_159 _ _ hrec _ _ _ h) (And.intro rfl (And.intro rfl trivial))
def F_X10_clause_98  : Nat → Int32 → Int32 → Int32 → eMem → Option eMem
  | 0, _, _, _, _ => none
  | n + 1, v1, v3, v4, M =>
    if v4 = 0 then
      some M
    else
      (F_X10_test v1 v3 M).bind fun q7 =>
      if (q7.1 0 18) = 0 then
        eG (eIn (v1 + 2) 2900) <|
        if (q7.1 1 (v1 + 2).toNatClampNeg) < 4 then
          (F_X10_byteAt (q7.1 0 17) q7).bind fun q9 =>
          if q9 = 38 then
            F_X10_clause_154 (fun v1 v3 v4 M => F_X10_clause_98 n v1 v3 v4 M) v1 q7
          else
            (F_X10_byteAt (q7.1 0 17) q7).bind fun q10 =>
            if q10 = 124 then
              F_X10_clause_154 (fun v1 v3 v4 M => F_X10_clause_98 n v1 v3 v4 M) v1 q7
            else
              F_X10_clause_158 (fun v1 v3 v4 M => F_X10_clause_98 n v1 v3 v4 M) v1 q7
        else
          F_X10_clause_158 (fun v1 v3 v4 M => F_X10_clause_98 n v1 v3 v4 M) v1 q7
      else
        F_X10_clause_158 (fun v1 v3 v4 M => F_X10_clause_98 n v1 v3 v4 M) v1 q7
set_option maxRecDepth 100000 in
set_option maxHeartbeats 4000000 in
theorem ev_X10_clause_98  (q : eMem)  : ∀ (fuel : Nat) (v1 : Int32) (v3 : Int32) (v4 : Int32) (M : eMem), F_X10_clause_98 fuel v1 v3 v4 M = some q → Ev layR 8 m_X10_clause 98 [some (.ref 0), some (.int v1), none, some (.int v3), some (.int v4)] [] M (none, q) := by
  intro fuel
  induction fuel with
  | zero => intro v1 v3 v4 M h; rw [F_X10_clause_98] at h; cases h
  | succ n ih =>
    intro v1 v3 v4 M h
    rw [F_X10_clause_98] at h
    refine Ev.iload (pc := 98) dX10_clause_98 rfl ?_
    refine Ev.if_eq (pc := 100) (tgt := 202) dX10_clause_100 (by decide) (fun c9 => ?_) (fun c9 => ?_)
    · have h := eT h c9
      obtain rfl := Option.some.inj h
      exact Ev.vret (pc := 202) dX10_clause_202 rfl
    · have h := eF h c9
      refine Ev.aload_n (pc := 103) dX10_clause_103 rfl ?_
      refine Ev.iload_n (pc := 104) dX10_clause_104 rfl ?_
      refine Ev.iload_n (pc := 105) dX10_clause_105 rfl ?_
      refine eBk h (fun q7 hq7 h => ?_)
      refine Ev.callV (pc := 106) (as := [.int v1, .int v3]) (st := []) (z := 2) dX10_clause_106 wc_X10_test ml_RX10_218 im_X10_test se_X10_test lR_0 rfl rfl (ev_X10_test v1 v3 M _ hq7) rfl rfl (by decide) rfl rfl (Nat.le_of_ble_eq_true rfl) ?_
      refine Ev.aload_n (pc := 109) dX10_clause_109 rfl ?_
      refine Ev.getI (pc := 110) dX10_clause_110 fl_RX10_190 lR_0 rfl ?_
      refine Ev.if_ne (pc := 113) (tgt := 158) dX10_clause_113 (by decide) (fun c9 => ?_) (fun c9 => ?_)
      · have h := eF h c9
        exact Ev.fg (ev_X10_clause_158 _ _ ih _ _ h) (And.intro rfl (And.intro rfl trivial))
      · have h := eT h c9
        refine Ev.aload_n (pc := 116) dX10_clause_116 rfl ?_
        refine Ev.getR (pc := 117) dX10_clause_117 fl_RX10_7 lR_0 rfl ?_
        refine Ev.iload_n (pc := 120) dX10_clause_120 rfl ?_
        refine Ev.iconst (pc := 121) dX10_clause_121 (v := 2) (by decide) ?_
        refine Ev.iadd (pc := 122) dX10_clause_122 ?_
        obtain ⟨g9, h⟩ := eGdB h
        refine Ev.ialdj (pc := 123) dX10_clause_123 (j := (v1 + 2).toNatClampNeg) lR_1 g9 rfl ?_
        refine Ev.iconst (pc := 124) dX10_clause_124 (v := 4) (by decide) ?_
        refine Ev.icmp_ge (pc := 125) (tgt := 158) dX10_clause_125 (by decide) (fun c9 => ?_) (fun c9 => ?_)
        · have h := eF h c9
          exact Ev.fg (ev_X10_clause_158 _ _ ih _ _ h) (And.intro rfl (And.intro rfl trivial))
        · have h := eT h c9
          refine Ev.aload_n (pc := 128) dX10_clause_128 rfl ?_
          refine Ev.aload_n (pc := 129) dX10_clause_129 rfl ?_
          refine Ev.getI (pc := 130) dX10_clause_130 fl_RX10_194 lR_0 rfl ?_
          refine eBk h (fun q9 hq9 h => ?_)
          refine Ev.callV (pc := 133) (as := [.int (q7.1 0 17)]) (st := []) (z := 0) dX10_clause_133 wc_X10_byteAt ml_RX10_200 im_X10_byteAt se_X10_byteAt lR_0 rfl rfl (ev_X10_byteAt (q7.1 0 17) q7 _ hq9) rfl rfl (by decide) rfl rfl (Nat.le_of_ble_eq_true rfl) ?_
          refine Ev.bipush (pc := 136) dX10_clause_136 (v := 38) (by decide) ?_
          refine Ev.icmp_eq (pc := 138) (tgt := 154) dX10_clause_138 (by decide) (fun c9 => ?_) (fun c9 => ?_)
          · have h := eT h c9
            exact Ev.fg (ev_X10_clause_154 _ _ ih _ _ h) (And.intro rfl (And.intro rfl trivial))
          · have h := eF h c9
            refine Ev.aload_n (pc := 141) dX10_clause_141 rfl ?_
            refine Ev.aload_n (pc := 142) dX10_clause_142 rfl ?_
            refine Ev.getI (pc := 143) dX10_clause_143 fl_RX10_194 lR_0 rfl ?_
            refine eBk h (fun q10 hq10 h => ?_)
            refine Ev.callV (pc := 146) (as := [.int (q7.1 0 17)]) (st := []) (z := 0) dX10_clause_146 wc_X10_byteAt ml_RX10_200 im_X10_byteAt se_X10_byteAt lR_0 rfl rfl (ev_X10_byteAt (q7.1 0 17) q7 _ hq10) rfl rfl (by decide) rfl rfl (Nat.le_of_ble_eq_true rfl) ?_
            refine Ev.bipush (pc := 149) dX10_clause_149 (v := 124) (by decide) ?_
            refine Ev.icmp_ne (pc := 151) (tgt := 158) dX10_clause_151 (by decide) (fun c9 => ?_) (fun c9 => ?_)
            · have h := eF h c9
              exact Ev.fg (ev_X10_clause_158 _ _ ih _ _ h) (And.intro rfl (And.intro rfl trivial))
            · have h := eT h c9
              exact Ev.fg (ev_X10_clause_154 _ _ ih _ _ h) (And.intro rfl (And.intro rfl trivial))
def F_X10_clause_96  (v1 : Int32) (v3 : Int32) (s0 : Int32) (M : eMem) : Option eMem :=
  F_X10_clause_98 eFuel v1 v3 s0 M
set_option maxRecDepth 100000 in
set_option maxHeartbeats 4000000 in
theorem ev_X10_clause_96  (q : eMem)  (v1 : Int32) (v3 : Int32) (s0 : Int32) (M : eMem) (h : F_X10_clause_96 v1 v3 s0 M = some q) : Ev layR 8 m_X10_clause 96 [some (.ref 0), some (.int v1), none, some (.int v3), none] [.int s0] M (none, q) := by
  rw [F_X10_clause_96] at h
  refine Ev.istore (pc := 96) dX10_clause_96 (by decide) rfl rfl ?_
  exact Ev.fg (ev_X10_clause_98 _ _ _ _ _ _ h) (And.intro rfl (And.intro rfl (And.intro rfl (And.intro rfl trivial))))
def F_X10_clause (x1 : Int32) (M : eMem) : Option eMem :=
  (F_X10_word 0 2 M).bind fun q1 =>
  eG (eIn x1 2900) <|
  eG (eIn (x1 + 2) 2900) <|
  (F_X10_needs 32 (eI (eI q1.2 1 x1.toNatClampNeg q1.1) 1 (x1 + 2).toNatClampNeg 0)).bind fun q2 =>
  if (q2.1 0 18) = 0 then
    (F_X10_word 3 9 q2).bind fun q3 =>
    eG (eIn (x1 + 1) 2900) <|
    if (q3.2.1 0 18) = 0 then
      (F_X10_takes 32 (eI q3.2 1 (x1 + 1).toNatClampNeg q3.1)).bind fun q4 =>
      if q4.1 = 0 then
        some q4.2
      else
        (F_X10_word 15 15 q4.2).bind fun q5 =>
        (F_X10_needs 32 q5.2).bind fun q6 =>
        if (q6.1 0 18) = 0 then
          F_X10_clause_96 x1 1 1 q6
        else
          F_X10_clause_96 x1 1 0 q6
    else
      some (eI q3.2 1 (x1 + 1).toNatClampNeg q3.1)
  else
    some q2
set_option maxRecDepth 100000 in
set_option maxHeartbeats 4000000 in
theorem ev_X10_clause (x1 : Int32) (M : eMem) (q : eMem) (h : F_X10_clause x1 M = some q) : Ev layR 8 m_X10_clause 0 [some (.ref 0), some (.int x1), none, none, none] [] M (none, q) := by
  rw [F_X10_clause] at h
  refine Ev.aload_n (pc := 0) dX10_clause_0 rfl ?_
  refine Ev.getR (pc := 1) dX10_clause_1 fl_RX10_7 lR_0 rfl ?_
  refine Ev.iload_n (pc := 4) dX10_clause_4 rfl ?_
  refine Ev.aload_n (pc := 5) dX10_clause_5 rfl ?_
  refine Ev.iconst (pc := 6) dX10_clause_6 (v := 0) (by decide) ?_
  refine Ev.iconst (pc := 7) dX10_clause_7 (v := 2) (by decide) ?_
  refine eBk h (fun q1 hq1 h => ?_)
  refine Ev.callV (pc := 8) (as := [.int 0, .int 2]) (st := [.int x1, .ref 1]) (z := 5) dX10_clause_8 wc_X10_word ml_RX10_209 im_X10_word se_X10_word lR_0 rfl rfl (ev_X10_word 0 2 M _ hq1) rfl rfl (by decide) rfl rfl (Nat.le_of_ble_eq_true rfl) ?_
  obtain ⟨g9, h⟩ := eGdB h
  refine Ev.iastj (pc := 11) dX10_clause_11 (j := x1.toNatClampNeg) lR_1 g9 rfl ?_
  refine Ev.aload_n (pc := 12) dX10_clause_12 rfl ?_
  refine Ev.getR (pc := 13) dX10_clause_13 fl_RX10_7 lR_0 rfl ?_
  refine Ev.iload_n (pc := 16) dX10_clause_16 rfl ?_
  refine Ev.iconst (pc := 17) dX10_clause_17 (v := 2) (by decide) ?_
  refine Ev.iadd (pc := 18) dX10_clause_18 ?_
  refine Ev.iconst (pc := 19) dX10_clause_19 (v := 0) (by decide) ?_
  obtain ⟨g9, h⟩ := eGdB h
  refine Ev.iastj (pc := 20) dX10_clause_20 (j := (x1 + 2).toNatClampNeg) lR_1 g9 rfl ?_
  refine Ev.aload_n (pc := 21) dX10_clause_21 rfl ?_
  refine Ev.bipush (pc := 22) dX10_clause_22 (v := 32) (by decide) ?_
  refine eBk h (fun q2 hq2 h => ?_)
  refine Ev.callV (pc := 24) (as := [.int 32]) (st := []) (z := 0) dX10_clause_24 wc_X10_needs ml_RX10_215 im_X10_needs se_X10_needs lR_0 rfl rfl (ev_X10_needs 32 (eI (eI q1.2 1 x1.toNatClampNeg q1.1) 1 (x1 + 2).toNatClampNeg 0) _ hq2) rfl rfl (by decide) rfl rfl (Nat.le_of_ble_eq_true rfl) ?_
  refine Ev.aload_n (pc := 27) dX10_clause_27 rfl ?_
  refine Ev.getI (pc := 28) dX10_clause_28 fl_RX10_190 lR_0 rfl ?_
  refine Ev.if_eq (pc := 31) (tgt := 35) dX10_clause_31 (by decide) (fun c9 => ?_) (fun c9 => ?_)
  · have h := eT h c9
    refine Ev.aload_n (pc := 35) dX10_clause_35 rfl ?_
    refine Ev.getR (pc := 36) dX10_clause_36 fl_RX10_7 lR_0 rfl ?_
    refine Ev.iload_n (pc := 39) dX10_clause_39 rfl ?_
    refine Ev.iconst (pc := 40) dX10_clause_40 (v := 1) (by decide) ?_
    refine Ev.iadd (pc := 41) dX10_clause_41 ?_
    refine Ev.aload_n (pc := 42) dX10_clause_42 rfl ?_
    refine Ev.iconst (pc := 43) dX10_clause_43 (v := 3) (by decide) ?_
    refine Ev.bipush (pc := 44) dX10_clause_44 (v := 9) (by decide) ?_
    refine eBk h (fun q3 hq3 h => ?_)
    refine Ev.callV (pc := 46) (as := [.int 3, .int 9]) (st := [.int (x1 + 1), .ref 1]) (z := 5) dX10_clause_46 wc_X10_word ml_RX10_209 im_X10_word se_X10_word lR_0 rfl rfl (ev_X10_word 3 9 q2 _ hq3) rfl rfl (by decide) rfl rfl (Nat.le_of_ble_eq_true rfl) ?_
    obtain ⟨g9, h⟩ := eGdB h
    refine Ev.iastj (pc := 49) dX10_clause_49 (j := (x1 + 1).toNatClampNeg) lR_1 g9 rfl ?_
    refine Ev.aload_n (pc := 50) dX10_clause_50 rfl ?_
    refine Ev.getIv (pc := 51) dX10_clause_51 (v := (q3.2.1 0 18)) fl_RX10_190 lR_0 rfl (eI_n (by decide)) ?_
    refine Ev.if_ne (pc := 54) (tgt := 66) dX10_clause_54 (by decide) (fun c9 => ?_) (fun c9 => ?_)
    · have h := eF h c9
      obtain rfl := Option.some.inj h
      exact Ev.vret (pc := 66) dX10_clause_66 rfl
    · have h := eT h c9
      refine Ev.aload_n (pc := 57) dX10_clause_57 rfl ?_
      refine Ev.bipush (pc := 58) dX10_clause_58 (v := 32) (by decide) ?_
      refine eBk h (fun q4 hq4 h => ?_)
      refine Ev.callV (pc := 60) (as := [.int 32]) (st := []) (z := 0) dX10_clause_60 wc_X10_takes ml_RX10_206 im_X10_takes se_X10_takes lR_0 rfl rfl (ev_X10_takes 32 (eI q3.2 1 (x1 + 1).toNatClampNeg q3.1) _ hq4) rfl rfl (by decide) rfl rfl (Nat.le_of_ble_eq_true rfl) ?_
      refine Ev.if_ne (pc := 63) (tgt := 67) dX10_clause_63 (by decide) (fun c9 => ?_) (fun c9 => ?_)
      · have h := eF h c9
        refine Ev.aload_n (pc := 67) dX10_clause_67 rfl ?_
        refine Ev.bipush (pc := 68) dX10_clause_68 (v := 15) (by decide) ?_
        refine Ev.bipush (pc := 70) dX10_clause_70 (v := 15) (by decide) ?_
        refine eBk h (fun q5 hq5 h => ?_)
        refine Ev.callV (pc := 72) (as := [.int 15, .int 15]) (st := []) (z := 5) dX10_clause_72 wc_X10_word ml_RX10_209 im_X10_word se_X10_word lR_0 rfl rfl (ev_X10_word 15 15 q4.2 _ hq5) rfl rfl (by decide) rfl rfl (Nat.le_of_ble_eq_true rfl) ?_
        refine Ev.istore_n (pc := 75) dX10_clause_75 (by decide) rfl rfl ?_
        refine Ev.aload_n (pc := 76) dX10_clause_76 rfl ?_
        refine Ev.bipush (pc := 77) dX10_clause_77 (v := 32) (by decide) ?_
        refine eBk h (fun q6 hq6 h => ?_)
        refine Ev.callV (pc := 79) (as := [.int 32]) (st := []) (z := 0) dX10_clause_79 wc_X10_needs ml_RX10_215 im_X10_needs se_X10_needs lR_0 rfl rfl (ev_X10_needs 32 q5.2 _ hq6) rfl rfl (by decide) rfl rfl (Nat.le_of_ble_eq_true rfl) ?_
        refine Ev.iconst (pc := 82) dX10_clause_82 (v := 1) (by decide) ?_
        refine Ev.istore_n (pc := 83) dX10_clause_83 (by decide) rfl rfl ?_
        refine Ev.aload_n (pc := 84) dX10_clause_84 rfl ?_
        refine Ev.getI (pc := 85) dX10_clause_85 fl_RX10_190 lR_0 rfl ?_
        refine Ev.if_ne (pc := 88) (tgt := 95) dX10_clause_88 (by decide) (fun c9 => ?_) (fun c9 => ?_)
        · have h := eF h c9
          refine Ev.iconst (pc := 95) dX10_clause_95 (v := 0) (by decide) ?_
          exact Ev.fg (ev_X10_clause_96 _ _ _ _ _ h) (And.intro rfl (And.intro rfl (And.intro rfl trivial)))
        · have h := eT h c9
          refine Ev.iconst (pc := 91) dX10_clause_91 (v := 1) (by decide) ?_
          refine Ev.goto (pc := 92) (tgt := 96) dX10_clause_92 (by decide) ?_
          exact Ev.fg (ev_X10_clause_96 _ _ _ _ _ h) (And.intro rfl (And.intro rfl (And.intro rfl trivial)))
      · have h := eT h c9
        obtain rfl := Option.some.inj h
        exact Ev.vret (pc := 66) dX10_clause_66 rfl
  · have h := eF h c9
    obtain rfl := Option.some.inj h
    exact Ev.vret (pc := 34) dX10_clause_34 rfl
