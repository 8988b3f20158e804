theorem dX10_more_0 : decode cX10_more 0 = .ok (.aload_n 0, 1) := by decide +kernel
theorem dX10_more_1 : decode cX10_more 1 = .ok (.getfield 146, 3) := by decide +kernel
theorem dX10_more_4 : decode cX10_more 4 = .ok (.istore 5, 2) := by decide +kernel
theorem dX10_more_6 : decode cX10_more 6 = .ok (.iload 5, 2) := by decide +kernel
theorem dX10_more_8 : decode cX10_more 8 = .ok (.ifCond .le 86, 3) := by decide +kernel
theorem dX10_more_11 : decode cX10_more 11 = .ok (.aload_n 0, 1) := by decide +kernel
theorem dX10_more_12 : decode cX10_more 12 = .ok (.getfield 32, 3) := by decide +kernel
theorem dX10_more_15 : decode cX10_more 15 = .ok (.iload 5, 2) := by decide +kernel
theorem dX10_more_17 : decode cX10_more 17 = .ok (.iconst 1, 1) := by decide +kernel
theorem dX10_more_18 : decode cX10_more 18 = .ok (.isub, 1) := by decide +kernel
theorem dX10_more_19 : decode cX10_more 19 = .ok (.iaload, 1) := by decide +kernel
theorem dX10_more_20 : decode cX10_more 20 = .ok (.iload_n 1, 1) := by decide +kernel
theorem dX10_more_21 : decode cX10_more 21 = .ok (.if_icmp .le 73, 3) := by decide +kernel
theorem dX10_more_24 : decode cX10_more 24 = .ok (.aload_n 0, 1) := by decide +kernel
theorem dX10_more_25 : decode cX10_more 25 = .ok (.getfield 32, 3) := by decide +kernel
theorem dX10_more_28 : decode cX10_more 28 = .ok (.iload 5, 2) := by decide +kernel
theorem dX10_more_30 : decode cX10_more 30 = .ok (.aload_n 0, 1) := by decide +kernel
theorem dX10_more_31 : decode cX10_more 31 = .ok (.getfield 32, 3) := by decide +kernel
theorem dX10_more_34 : decode cX10_more 34 = .ok (.iload 5, 2) := by decide +kernel
theorem dX10_more_36 : decode cX10_more 36 = .ok (.iconst 1, 1) := by decide +kernel
theorem dX10_more_37 : decode cX10_more 37 = .ok (.isub, 1) := by decide +kernel
theorem dX10_more_38 : decode cX10_more 38 = .ok (.iaload, 1) := by decide +kernel
theorem dX10_more_39 : decode cX10_more 39 = .ok (.iastore, 1) := by decide +kernel
theorem dX10_more_40 : decode cX10_more 40 = .ok (.aload_n 0, 1) := by decide +kernel
theorem dX10_more_41 : decode cX10_more 41 = .ok (.getfield 35, 3) := by decide +kernel
theorem dX10_more_44 : decode cX10_more 44 = .ok (.iload 5, 2) := by decide +kernel
theorem dX10_more_46 : decode cX10_more 46 = .ok (.aload_n 0, 1) := by decide +kernel
theorem dX10_more_47 : decode cX10_more 47 = .ok (.getfield 35, 3) := by decide +kernel
theorem dX10_more_50 : decode cX10_more 50 = .ok (.iload 5, 2) := by decide +kernel
theorem dX10_more_52 : decode cX10_more 52 = .ok (.iconst 1, 1) := by decide +kernel
theorem dX10_more_53 : decode cX10_more 53 = .ok (.isub, 1) := by decide +kernel
theorem dX10_more_54 : decode cX10_more 54 = .ok (.iaload, 1) := by decide +kernel
theorem dX10_more_55 : decode cX10_more 55 = .ok (.iastore, 1) := by decide +kernel
theorem dX10_more_56 : decode cX10_more 56 = .ok (.aload_n 0, 1) := by decide +kernel
theorem dX10_more_57 : decode cX10_more 57 = .ok (.getfield 38, 3) := by decide +kernel
theorem dX10_more_60 : decode cX10_more 60 = .ok (.iload 5, 2) := by decide +kernel
theorem dX10_more_62 : decode cX10_more 62 = .ok (.aload_n 0, 1) := by decide +kernel
theorem dX10_more_63 : decode cX10_more 63 = .ok (.getfield 38, 3) := by decide +kernel
theorem dX10_more_66 : decode cX10_more 66 = .ok (.iload 5, 2) := by decide +kernel
theorem dX10_more_68 : decode cX10_more 68 = .ok (.iconst 1, 1) := by decide +kernel
theorem dX10_more_69 : decode cX10_more 69 = .ok (.isub, 1) := by decide +kernel
theorem dX10_more_70 : decode cX10_more 70 = .ok (.iaload, 1) := by decide +kernel
theorem dX10_more_71 : decode cX10_more 71 = .ok (.iastore, 1) := by decide +kernel
theorem dX10_more_72 : decode cX10_more 72 = .ok (.aload_n 0, 1) := by decide +kernel
theorem dX10_more_73 : decode cX10_more 73 = .ok (.getfield 41, 3) := by decide +kernel
theorem dX10_more_76 : decode cX10_more 76 = .ok (.iload 5, 2) := by decide +kernel
theorem dX10_more_78 : decode cX10_more 78 = .ok (.aload_n 0, 1) := by decide +kernel
theorem dX10_more_79 : decode cX10_more 79 = .ok (.getfield 41, 3) := by decide +kernel
theorem dX10_more_82 : decode cX10_more 82 = .ok (.iload 5, 2) := by decide +kernel
theorem dX10_more_84 : decode cX10_more 84 = .ok (.iconst 1, 1) := by decide +kernel
theorem dX10_more_85 : decode cX10_more 85 = .ok (.isub, 1) := by decide +kernel
theorem dX10_more_86 : decode cX10_more 86 = .ok (.iaload, 1) := by decide +kernel
theorem dX10_more_87 : decode cX10_more 87 = .ok (.iastore, 1) := by decide +kernel
theorem dX10_more_88 : decode cX10_more 88 = .ok (.iinc 5 (-1), 3) := by decide +kernel
theorem dX10_more_91 : decode cX10_more 91 = .ok (.goto (-85), 3) := by decide +kernel
theorem dX10_more_94 : decode cX10_more 94 = .ok (.aload_n 0, 1) := by decide +kernel
theorem dX10_more_95 : decode cX10_more 95 = .ok (.getfield 32, 3) := by decide +kernel
theorem dX10_more_98 : decode cX10_more 98 = .ok (.iload 5, 2) := by decide +kernel
theorem dX10_more_100 : decode cX10_more 100 = .ok (.iload_n 1, 1) := by decide +kernel
theorem dX10_more_101 : decode cX10_more 101 = .ok (.iastore, 1) := by decide +kernel
theorem dX10_more_102 : decode cX10_more 102 = .ok (.aload_n 0, 1) := by decide +kernel
theorem dX10_more_103 : decode cX10_more 103 = .ok (.getfield 35, 3) := by decide +kernel
theorem dX10_more_106 : decode cX10_more 106 = .ok (.iload 5, 2) := by decide +kernel
theorem dX10_more_108 : decode cX10_more 108 = .ok (.iload_n 2, 1) := by decide +kernel
theorem dX10_more_109 : decode cX10_more 109 = .ok (.iastore, 1) := by decide +kernel
theorem dX10_more_110 : decode cX10_more 110 = .ok (.aload_n 0, 1) := by decide +kernel
theorem dX10_more_111 : decode cX10_more 111 = .ok (.getfield 38, 3) := by decide +kernel
theorem dX10_more_114 : decode cX10_more 114 = .ok (.iload 5, 2) := by decide +kernel
theorem dX10_more_116 : decode cX10_more 116 = .ok (.iload_n 3, 1) := by decide +kernel
theorem dX10_more_117 : decode cX10_more 117 = .ok (.iastore, 1) := by decide +kernel
theorem dX10_more_118 : decode cX10_more 118 = .ok (.aload_n 0, 1) := by decide +kernel
theorem dX10_more_119 : decode cX10_more 119 = .ok (.getfield 41, 3) := by decide +kernel
theorem dX10_more_122 : decode cX10_more 122 = .ok (.iload 5, 2) := by decide +kernel
theorem dX10_more_124 : decode cX10_more 124 = .ok (.iload 4, 2) := by decide +kernel
theorem dX10_more_126 : decode cX10_more 126 = .ok (.iastore, 1) := by decide +kernel
theorem dX10_more_127 : decode cX10_more 127 = .ok (.aload_n 0, 1) := by decide +kernel
theorem dX10_more_128 : decode cX10_more 128 = .ok (.dup, 1) := by decide +kernel
theorem dX10_more_129 : decode cX10_more 129 = .ok (.getfield 146, 3) := by decide +kernel
theorem dX10_more_132 : decode cX10_more 132 = .ok (.iconst 1, 1) := by decide +kernel
theorem dX10_more_133 : decode cX10_more 133 = .ok (.iadd, 1) := by decide +kernel
theorem dX10_more_134 : decode cX10_more 134 = .ok (.putfield 146, 3) := by decide +kernel
theorem dX10_more_137 : decode cX10_more 137 = .ok (.return_, 1) := by decide +kernel
def F_X10_more_6 (K94 : Int32 → Int32 → Int32 → Int32 → Int32 → eMem → Option eMem) : Nat → Int32 → Int32 → Int32 → Int32 → Int32 → eMem → Option eMem
  | 0, _, _, _, _, _, _ => none
  | n + 1, v1, v2, v3, v4, v5, M =>
    if 0 < v5 then
      eG (eIn (v5 - 1) 800) <|
      if v1 < (M.1 8 (v5 - 1).toNatClampNeg) then
        eG (eIn (v5 - 1) 800) <|
        eG (eIn v5 800) <|
        eG (eIn (v5 - 1) 800) <|
        eG (eIn v5 800) <|
        eG (eIn (v5 - 1) 800) <|
        eG (eIn v5 800) <|
        eG (eIn (v5 - 1) 800) <|
        eG (eIn v5 800) <|
        F_X10_more_6 K94 n v1 v2 v3 v4 (v5 + (-1)) (eI (eI (eI (eI M 8 v5.toNatClampNeg (M.1 8 (v5 - 1).toNatClampNeg)) 9 v5.toNatClampNeg (M.1 9 (v5 - 1).toNatClampNeg)) 10 v5.toNatClampNeg (M.1 10 (v5 - 1).toNatClampNeg)) 11 v5.toNatClampNeg (M.1 11 (v5 - 1).toNatClampNeg))
      else
        K94 v1 v2 v3 v4 v5 M
    else
      K94 v1 v2 v3 v4 v5 M
set_option maxRecDepth 100000 in
set_option maxHeartbeats 4000000 in
theorem ev_X10_more_6 (K94 : Int32 → Int32 → Int32 → Int32 → Int32 → eMem → Option eMem) (q : eMem) (hK94 : ∀ (v1 : Int32) (v2 : Int32) (v3 : Int32) (v4 : Int32) (v5 : Int32) (M : eMem), K94 v1 v2 v3 v4 v5 M = some q → Ev layR 0 m_X10_more 94 [some (.ref 0), some (.int v1), some (.int v2), some (.int v3), some (.int v4), some (.int v5)] [] M (none, q)) : ∀ (fuel : Nat) (v1 : Int32) (v2 : Int32) (v3 : Int32) (v4 : Int32) (v5 : Int32) (M : eMem), F_X10_more_6 K94 fuel v1 v2 v3 v4 v5 M = some q → Ev layR 0 m_X10_more 6 [some (.ref 0), some (.int v1), some (.int v2), some (.int v3), some (.int v4), some (.int v5)] [] M (none, q) := by
  intro fuel
  induction fuel with
  | zero => intro v1 v2 v3 v4 v5 M h; rw [F_X10_more_6] at h; cases h
  | succ n ih =>
    intro v1 v2 v3 v4 v5 M h
    rw [F_X10_more_6] at h
    refine Ev.iload (pc := 6) dX10_more_6 rfl ?_
    refine Ev.if_le (pc := 8) (tgt := 94) dX10_more_8 (by decide) (fun c9 => ?_) (fun c9 => ?_)
    · have h := eF h c9
      exact Ev.fg (hK94 _ _ _ _ _ _ h) (And.intro rfl (And.intro rfl (And.intro rfl (And.intro rfl (And.intro rfl (And.intro rfl trivial))))))
    · have h := eT h c9
      refine Ev.aload_n (pc := 11) dX10_more_11 rfl ?_
      refine Ev.getR (pc := 12) dX10_more_12 fl_RX10_32 lR_0 rfl ?_
      refine Ev.iload (pc := 15) dX10_more_15 rfl ?_
      refine Ev.iconst (pc := 17) dX10_more_17 (v := 1) (by decide) ?_
      refine Ev.isub (pc := 18) dX10_more_18 ?_
      obtain ⟨g9, h⟩ := eGdB h
      refine Ev.ialdj (pc := 19) dX10_more_19 (j := (v5 - 1).toNatClampNeg) lR_8 g9 rfl ?_
      refine Ev.iload_n (pc := 20) dX10_more_20 rfl ?_
      refine Ev.icmp_le (pc := 21) (tgt := 94) dX10_more_21 (by decide) (fun c9 => ?_) (fun c9 => ?_)
      · have h := eF h c9
        exact Ev.fg (hK94 _ _ _ _ _ _ h) (And.intro rfl (And.intro rfl (And.intro rfl (And.intro rfl (And.intro rfl (And.intro rfl trivial))))))
      · have h := eT h c9
        refine Ev.aload_n (pc := 24) dX10_more_24 rfl ?_
        refine Ev.getR (pc := 25) dX10_more_25 fl_RX10_32 lR_0 rfl ?_
        refine Ev.iload (pc := 28) dX10_more_28 rfl ?_
        refine Ev.aload_n (pc := 30) dX10_more_30 rfl ?_
        refine Ev.getR (pc := 31) dX10_more_31 fl_RX10_32 lR_0 rfl ?_
        refine Ev.iload (pc := 34) dX10_more_34 rfl ?_
        refine Ev.iconst (pc := 36) dX10_more_36 (v := 1) (by decide) ?_
        refine Ev.isub (pc := 37) dX10_more_37 ?_
        obtain ⟨g9, h⟩ := eGdB h
        refine Ev.ialdj (pc := 38) dX10_more_38 (j := (v5 - 1).toNatClampNeg) lR_8 g9 rfl ?_
        obtain ⟨g9, h⟩ := eGdB h
        refine Ev.iastj (pc := 39) dX10_more_39 (j := v5.toNatClampNeg) lR_8 g9 rfl ?_
        refine Ev.aload_n (pc := 40) dX10_more_40 rfl ?_
        refine Ev.getR (pc := 41) dX10_more_41 fl_RX10_35 lR_0 rfl ?_
        refine Ev.iload (pc := 44) dX10_more_44 rfl ?_
        refine Ev.aload_n (pc := 46) dX10_more_46 rfl ?_
        refine Ev.getR (pc := 47) dX10_more_47 fl_RX10_35 lR_0 rfl ?_
        refine Ev.iload (pc := 50) dX10_more_50 rfl ?_
        refine Ev.iconst (pc := 52) dX10_more_52 (v := 1) (by decide) ?_
        refine Ev.isub (pc := 53) dX10_more_53 ?_
        obtain ⟨g9, h⟩ := eGdB h
        refine Ev.ialdv (pc := 54) dX10_more_54 (v := (M.1 9 (v5 - 1).toNatClampNeg)) (j := (v5 - 1).toNatClampNeg) lR_9 g9 rfl (eI_n (by decide)) ?_
        obtain ⟨g9, h⟩ := eGdB h
        refine Ev.iastj (pc := 55) dX10_more_55 (j := v5.toNatClampNeg) lR_9 g9 rfl ?_
        refine Ev.aload_n (pc := 56) dX10_more_56 rfl ?_
        refine Ev.getR (pc := 57) dX10_more_57 fl_RX10_38 lR_0 rfl ?_
        refine Ev.iload (pc := 60) dX10_more_60 rfl ?_
        refine Ev.aload_n (pc := 62) dX10_more_62 rfl ?_
        refine Ev.getR (pc := 63) dX10_more_63 fl_RX10_38 lR_0 rfl ?_
        refine Ev.iload (pc := 66) dX10_more_66 rfl ?_
        refine Ev.iconst (pc := 68) dX10_more_68 (v := 1) (by decide) ?_
        refine Ev.isub (pc := 69) dX10_more_69 ?_
        obtain ⟨g9, h⟩ := eGdB h
        refine Ev.ialdv (pc := 70) dX10_more_70 (v := (M.1 10 (v5 - 1).toNatClampNeg)) (j := (v5 - 1).toNatClampNeg) lR_10 g9 rfl ((eI_n (by decide)).trans (eI_n (by decide))) ?_
        obtain ⟨g9, h⟩ := eGdB h
        refine Ev.iastj (pc := 71) dX10_more_71 (j := v5.toNatClampNeg) lR_10 g9 rfl ?_
        refine Ev.aload_n (pc := 72) dX10_more_72 rfl ?_
        refine Ev.getR (pc := 73) dX10_more_73 fl_RX10_41 lR_0 rfl ?_
        refine Ev.iload (pc := 76) dX10_more_76 rfl ?_
        refine Ev.aload_n (pc := 78) dX10_more_78 rfl ?_
        refine Ev.getR (pc := 79) dX10_more_79 fl_RX10_41 lR_0 rfl ?_
        refine Ev.iload (pc := 82) dX10_more_82 rfl ?_
        refine Ev.iconst (pc := 84) dX10_more_84 (v := 1) (by decide) ?_
        refine Ev.isub (pc := 85) dX10_more_85 ?_
        obtain ⟨g9, h⟩ := eGdB h
        refine Ev.ialdv (pc := 86) dX10_more_86 (v := (M.1 11 (v5 - 1).toNatClampNeg)) (j := (v5 - 1).toNatClampNeg) lR_11 g9 rfl ((eI_n (by decide)).trans ((eI_n (by decide)).trans (eI_n (by decide)))) ?_
        obtain ⟨g9, h⟩ := eGdB h
        refine Ev.iastj (pc := 87) dX10_more_87 (j := v5.toNatClampNeg) lR_11 g9 rfl ?_
        refine Ev.iincv (pc := 88) dX10_more_88 (v := (-1)) (by decide) rfl (by decide) rfl rfl ?_
        refine Ev.goto (pc := 91) (tgt := 6) dX10_more_91 (by decide) ?_
        exact Ev.fg (ih _ _ _ _ _ _ h) (And.intro rfl (And.intro rfl (And.intro rfl (And.intro rfl (And.intro rfl (And.intro rfl trivial))))))
def F_X10_more (x1 : Int32) (x2 : Int32) (x3 : Int32) (x4 : Int32) (M : eMem) : Option eMem :=
  F_X10_more_6
    (fun v1 v2 v3 v4 v5 M =>
      eG (eIn v5 800) <|
      eG (eIn v5 800) <|
      eG (eIn v5 800) <|
      eG (eIn v5 800) <|
      some (eI (eI (eI (eI (eI M 8 v5.toNatClampNeg v1) 9 v5.toNatClampNeg v2) 10 v5.toNatClampNeg v3) 11 v5.toNatClampNeg v4) 0 13 ((M.1 0 13) + 1)))
    eFuel x1 x2 x3 x4 (M.1 0 13) M
set_option maxRecDepth 100000 in
set_option maxHeartbeats 4000000 in
theorem ev_X10_more (x1 : Int32) (x2 : Int32) (x3 : Int32) (x4 : Int32) (M : eMem) (q : eMem) (h : F_X10_more x1 x2 x3 x4 M = some q) : Ev layR 0 m_X10_more 0 [some (.ref 0), some (.int x1), some (.int x2), some (.int x3), some (.int x4), none] [] M (none, q) := by
  rw [F_X10_more] at h
  refine Ev.aload_n (pc := 0) dX10_more_0 rfl ?_
  refine Ev.getI (pc := 1) dX10_more_1 fl_RX10_146 lR_0 rfl ?_
  refine Ev.istore (pc := 4) dX10_more_4 (by decide) rfl rfl ?_
  refine Ev.fg (ev_X10_more_6 _ _ ?_ _ _ _ _ _ _ _ h) (And.intro rfl (And.intro rfl (And.intro rfl (And.intro rfl (And.intro rfl (And.intro rfl trivial))))))
  · intro v1 v2 v3 v4 v5 M h
    refine Ev.aload_n (pc := 94) dX10_more_94 rfl ?_
    refine Ev.getR (pc := 95) dX10_more_95 fl_RX10_32 lR_0 rfl ?_
    refine Ev.iload (pc := 98) dX10_more_98 rfl ?_
    refine Ev.iload_n (pc := 100) dX10_more_100 rfl ?_
    obtain ⟨g9, h⟩ := eGdB h
    refine Ev.iastj (pc := 101) dX10_more_101 (j := v5.toNatClampNeg) lR_8 g9 rfl ?_
    refine Ev.aload_n (pc := 102) dX10_more_102 rfl ?_
    refine Ev.getR (pc := 103) dX10_more_103 fl_RX10_35 lR_0 rfl ?_
    refine Ev.iload (pc := 106) dX10_more_106 rfl ?_
    refine Ev.iload_n (pc := 108) dX10_more_108 rfl ?_
    obtain ⟨g9, h⟩ := eGdB h
    refine Ev.iastj (pc := 109) dX10_more_109 (j := v5.toNatClampNeg) lR_9 g9 rfl ?_
    refine Ev.aload_n (pc := 110) dX10_more_110 rfl ?_
    refine Ev.getR (pc := 111) dX10_more_111 fl_RX10_38 lR_0 rfl ?_
    refine Ev.iload (pc := 114) dX10_more_114 rfl ?_
    refine Ev.iload_n (pc := 116) dX10_more_116 rfl ?_
    obtain ⟨g9, h⟩ := eGdB h
    refine Ev.iastj (pc := 117) dX10_more_117 (j := v5.toNatClampNeg) lR_10 g9 rfl ?_
    refine Ev.aload_n (pc := 118) dX10_more_118 rfl ?_
    refine Ev.getR (pc := 119) dX10_more_119 fl_RX10_41 lR_0 rfl ?_
    refine Ev.iload (pc := 122) dX10_more_122 rfl ?_
    refine Ev.iload (pc := 124) dX10_more_124 rfl ?_
    obtain ⟨g9, h⟩ := eGdB h
    refine Ev.iastj (pc := 126) dX10_more_126 (j := v5.toNatClampNeg) lR_11 g9 rfl ?_
    refine Ev.aload_n (pc := 127) dX10_more_127 rfl ?_
    refine Ev.dup (pc := 128) dX10_more_128 rfl ?_
    refine Ev.getIv (pc := 129) dX10_more_129 (v := (M.1 0 13)) fl_RX10_146 lR_0 rfl ((eI_n (by decide)).trans ((eI_n (by decide)).trans ((eI_n (by decide)).trans (eI_n (by decide))))) ?_
    refine Ev.iconst (pc := 132) dX10_more_132 (v := 1) (by decide) ?_
    refine Ev.iadd (pc := 133) dX10_more_133 ?_
    refine Ev.putI (pc := 134) dX10_more_134 fp_RX10_146 lR_0 rfl rfl rfl ?_
    obtain rfl := Option.some.inj h
    exact Ev.vret (pc := 137) dX10_more_137 rfl
theorem dX10_gather_0 : decode cX10_gather 0 = .ok (.aload_n 0, 1) := by decide +kernel
theorem dX10_gather_1 : decode cX10_gather 1 = .ok (.iconst 0, 1) := by decide +kernel
theorem dX10_gather_2 : decode cX10_gather 2 = .ok (.putfield 146, 3) := by decide +kernel
theorem dX10_gather_5 : decode cX10_gather 5 = .ok (.iconst 0, 1) := by decide +kernel
theorem dX10_gather_6 : decode cX10_gather 6 = .ok (.istore_n 2, 1) := by decide +kernel
theorem dX10_gather_7 : decode cX10_gather 7 = .ok (.iload_n 2, 1) := by decide +kernel
theorem dX10_gather_8 : decode cX10_gather 8 = .ok (.aload_n 0, 1) := by decide +kernel
theorem dX10_gather_9 : decode cX10_gather 9 = .ok (.getfield 7, 3) := by decide +kernel
theorem dX10_gather_12 : decode cX10_gather 12 = .ok (.bipush 10, 2) := by decide +kernel
theorem dX10_gather_14 : decode cX10_gather 14 = .ok (.iaload, 1) := by decide +kernel
theorem dX10_gather_15 : decode cX10_gather 15 = .ok (.if_icmp .ge 76, 3) := by decide +kernel
theorem dX10_gather_18 : decode cX10_gather 18 = .ok (.aload_n 0, 1) := by decide +kernel
theorem dX10_gather_19 : decode cX10_gather 19 = .ok (.iload_n 2, 1) := by decide +kernel
theorem dX10_gather_20 : decode cX10_gather 20 = .ok (.bipush 6, 2) := by decide +kernel
theorem dX10_gather_22 : decode cX10_gather 22 = .ok (.invokevirtual 137, 3) := by decide +kernel
theorem dX10_gather_25 : decode cX10_gather 25 = .ok (.ifCond .ne 60, 3) := by decide +kernel
theorem dX10_gather_28 : decode cX10_gather 28 = .ok (.aload_n 0, 1) := by decide +kernel
theorem dX10_gather_29 : decode cX10_gather 29 = .ok (.iload_n 2, 1) := by decide +kernel
theorem dX10_gather_30 : decode cX10_gather 30 = .ok (.iconst 4, 1) := by decide +kernel
theorem dX10_gather_31 : decode cX10_gather 31 = .ok (.invokevirtual 137, 3) := by decide +kernel
theorem dX10_gather_34 : decode cX10_gather 34 = .ok (.iload_n 1, 1) := by decide +kernel
theorem dX10_gather_35 : decode cX10_gather 35 = .ok (.if_icmp .gt 50, 3) := by decide +kernel
theorem dX10_gather_38 : decode cX10_gather 38 = .ok (.aload_n 0, 1) := by decide +kernel
theorem dX10_gather_39 : decode cX10_gather 39 = .ok (.iload_n 2, 1) := by decide +kernel
theorem dX10_gather_40 : decode cX10_gather 40 = .ok (.iconst 3, 1) := by decide +kernel
theorem dX10_gather_41 : decode cX10_gather 41 = .ok (.invokevirtual 137, 3) := by decide +kernel
theorem dX10_gather_44 : decode cX10_gather 44 = .ok (.iload_n 1, 1) := by decide +kernel
theorem dX10_gather_45 : decode cX10_gather 45 = .ok (.bipush 24, 2) := by decide +kernel
theorem dX10_gather_47 : decode cX10_gather 47 = .ok (.aload_n 0, 1) := by decide +kernel
theorem dX10_gather_48 : decode cX10_gather 48 = .ok (.getfield 7, 3) := by decide +kernel
theorem dX10_gather_51 : decode cX10_gather 51 = .ok (.iconst 5, 1) := by decide +kernel
theorem dX10_gather_52 : decode cX10_gather 52 = .ok (.iaload, 1) := by decide +kernel
theorem dX10_gather_53 : decode cX10_gather 53 = .ok (.imul, 1) := by decide +kernel
theorem dX10_gather_54 : decode cX10_gather 54 = .ok (.isub, 1) := by decide +kernel
theorem dX10_gather_55 : decode cX10_gather 55 = .ok (.if_icmp .lt 30, 3) := by decide +kernel
theorem dX10_gather_58 : decode cX10_gather 58 = .ok (.aload_n 0, 1) := by decide +kernel
theorem dX10_gather_59 : decode cX10_gather 59 = .ok (.aload_n 0, 1) := by decide +kernel
theorem dX10_gather_60 : decode cX10_gather 60 = .ok (.iload_n 2, 1) := by decide +kernel
theorem dX10_gather_61 : decode cX10_gather 61 = .ok (.iconst 3, 1) := by decide +kernel
theorem dX10_gather_62 : decode cX10_gather 62 = .ok (.invokevirtual 137, 3) := by decide +kernel
theorem dX10_gather_65 : decode cX10_gather 65 = .ok (.aload_n 0, 1) := by decide +kernel
theorem dX10_gather_66 : decode cX10_gather 66 = .ok (.iload_n 2, 1) := by decide +kernel
theorem dX10_gather_67 : decode cX10_gather 67 = .ok (.iconst 1, 1) := by decide +kernel
theorem dX10_gather_68 : decode cX10_gather 68 = .ok (.invokevirtual 137, 3) := by decide +kernel
theorem dX10_gather_71 : decode cX10_gather 71 = .ok (.aload_n 0, 1) := by decide +kernel
theorem dX10_gather_72 : decode cX10_gather 72 = .ok (.iload_n 2, 1) := by decide +kernel
theorem dX10_gather_73 : decode cX10_gather 73 = .ok (.iconst 2, 1) := by decide +kernel
theorem dX10_gather_74 : decode cX10_gather 74 = .ok (.invokevirtual 137, 3) := by decide +kernel
theorem dX10_gather_77 : decode cX10_gather 77 = .ok (.aload_n 0, 1) := by decide +kernel
theorem dX10_gather_78 : decode cX10_gather 78 = .ok (.iload_n 2, 1) := by decide +kernel
theorem dX10_gather_79 : decode cX10_gather 79 = .ok (.invokevirtual 143, 3) := by decide +kernel
theorem dX10_gather_82 : decode cX10_gather 82 = .ok (.invokevirtual 150, 3) := by decide +kernel
theorem dX10_gather_85 : decode cX10_gather 85 = .ok (.iinc 2 1, 3) := by decide +kernel
theorem dX10_gather_88 : decode cX10_gather 88 = .ok (.goto (-81), 3) := by decide +kernel
theorem dX10_gather_91 : decode cX10_gather 91 = .ok (.return_, 1) := by decide +kernel
def F_X10_gather_7  : Nat → Int32 → Int32 → eMem → Option eMem
  | 0, _, _, _ => none
  | n + 1, v1, v2, M =>
    if v2 < (M.1 1 10) then
      (F_X10_report1 v2 6 M).bind fun q1 =>
      if q1 = 0 then
        (F_X10_report1 v2 4 M).bind fun q2 =>
        if v1 < q2 then
          F_X10_gather_7 n v1 (v2 + 1) M
        else
          (F_X10_report1 v2 3 M).bind fun q3 =>
          if q3 < (v1 - (24 * (M.1 1 5))) then
            F_X10_gather_7 n v1 (v2 + 1) M
          else
            (F_X10_report1 v2 3 M).bind fun q4 =>
            (F_X10_report1 v2 1 M).bind fun q5 =>
            (F_X10_report1 v2 2 M).bind fun q6 =>
            (F_X10_creditOf v2 M).bind fun q7 =>
            (F_X10_more q4 q5 q6 q7 M).bind fun q8 =>
            F_X10_gather_7 n v1 (v2 + 1) q8
      else
        F_X10_gather_7 n v1 (v2 + 1) M
    else
      some M
set_option maxRecDepth 100000 in
set_option maxHeartbeats 4000000 in
theorem ev_X10_gather_7  (q : eMem)  : ∀ (fuel : Nat) (v1 : Int32) (v2 : Int32) (M : eMem), F_X10_gather_7 fuel v1 v2 M = some q → Ev layR 2 m_X10_gather 7 [some (.ref 0), some (.int v1), some (.int v2)] [] M (none, q) := by
  intro fuel
  induction fuel with
  | zero => intro v1 v2 M h; rw [F_X10_gather_7] at h; cases h
  | succ n ih =>
    intro v1 v2 M h
    rw [F_X10_gather_7] at h
    refine Ev.iload_n (pc := 7) dX10_gather_7 rfl ?_
    refine Ev.aload_n (pc := 8) dX10_gather_8 rfl ?_
    refine Ev.getR (pc := 9) dX10_gather_9 fl_RX10_7 lR_0 rfl ?_
    refine Ev.bipush (pc := 12) dX10_gather_12 (v := 10) (by decide) ?_
    refine Ev.ialdj (pc := 14) dX10_gather_14 (j := 10) lR_1 (by decide) (by decide) ?_
    refine Ev.icmp_ge (pc := 15) (tgt := 91) dX10_gather_15 (by decide) (fun c9 => ?_) (fun c9 => ?_)
    · have h := eF h c9
      obtain rfl := Option.some.inj h
      exact Ev.vret (pc := 91) dX10_gather_91 rfl
    · have h := eT h c9
      refine Ev.aload_n (pc := 18) dX10_gather_18 rfl ?_
      refine Ev.iload_n (pc := 19) dX10_gather_19 rfl ?_
      refine Ev.bipush (pc := 20) dX10_gather_20 (v := 6) (by decide) ?_
      refine eBk h (fun q1 hq1 h => ?_)
      refine Ev.callV (pc := 22) (as := [.int v2, .int 6]) (st := []) (z := 0) dX10_gather_22 wc_X10_report1 ml_RX10_137 im_X10_report1 se_X10_report1 lR_0 rfl rfl (ev_X10_report1 v2 6 M _ hq1) rfl rfl (by decide) rfl rfl (Nat.le_of_ble_eq_true rfl) ?_
      refine Ev.if_ne (pc := 25) (tgt := 85) dX10_gather_25 (by decide) (fun c9 => ?_) (fun c9 => ?_)
      · have h := eF h c9
        refine Ev.iincv (pc := 85) dX10_gather_85 (v := 1) (by decide) rfl (by decide) rfl rfl ?_
        refine Ev.goto (pc := 88) (tgt := 7) dX10_gather_88 (by decide) ?_
        exact Ev.fg (ih _ _ _ h) (And.intro rfl (And.intro rfl (And.intro rfl trivial)))
      · have h := eT h c9
        refine Ev.aload_n (pc := 28) dX10_gather_28 rfl ?_
        refine Ev.iload_n (pc := 29) dX10_gather_29 rfl ?_
        refine Ev.iconst (pc := 30) dX10_gather_30 (v := 4) (by decide) ?_
        refine eBk h (fun q2 hq2 h => ?_)
        refine Ev.callV (pc := 31) (as := [.int v2, .int 4]) (st := []) (z := 0) dX10_gather_31 wc_X10_report1 ml_RX10_137 im_X10_report1 se_X10_report1 lR_0 rfl rfl (ev_X10_report1 v2 4 M _ hq2) rfl rfl (by decide) rfl rfl (Nat.le_of_ble_eq_true rfl) ?_
        refine Ev.iload_n (pc := 34) dX10_gather_34 rfl ?_
        refine Ev.icmp_gt (pc := 35) (tgt := 85) dX10_gather_35 (by decide) (fun c9 => ?_) (fun c9 => ?_)
        · have h := eT h c9
          refine Ev.iincv (pc := 85) dX10_gather_85 (v := 1) (by decide) rfl (by decide) rfl rfl ?_
          refine Ev.goto (pc := 88) (tgt := 7) dX10_gather_88 (by decide) ?_
          exact Ev.fg (ih _ _ _ h) (And.intro rfl (And.intro rfl (And.intro rfl trivial)))
        · have h := eF h c9
          refine Ev.aload_n (pc := 38) dX10_gather_38 rfl ?_
          refine Ev.iload_n (pc := 39) dX10_gather_39 rfl ?_
          refine Ev.iconst (pc := 40) dX10_gather_40 (v := 3) (by decide) ?_
          refine eBk h (fun q3 hq3 h => ?_)
          refine Ev.callV (pc := 41) (as := [.int v2, .int 3]) (st := []) (z := 0) dX10_gather_41 wc_X10_report1 ml_RX10_137 im_X10_report1 se_X10_report1 lR_0 rfl rfl (ev_X10_report1 v2 3 M _ hq3) rfl rfl (by decide) rfl rfl (Nat.le_of_ble_eq_true rfl) ?_
          refine Ev.iload_n (pc := 44) dX10_gather_44 rfl ?_
          refine Ev.bipush (pc := 45) dX10_gather_45 (v := 24) (by decide) ?_
          refine Ev.aload_n (pc := 47) dX10_gather_47 rfl ?_
          refine Ev.getR (pc := 48) dX10_gather_48 fl_RX10_7 lR_0 rfl ?_
          refine Ev.iconst (pc := 51) dX10_gather_51 (v := 5) (by decide) ?_
          refine Ev.ialdj (pc := 52) dX10_gather_52 (j := 5) lR_1 (by decide) (by decide) ?_
          refine Ev.imul (pc := 53) dX10_gather_53 ?_
          refine Ev.isub (pc := 54) dX10_gather_54 ?_
          refine Ev.icmp_lt (pc := 55) (tgt := 85) dX10_gather_55 (by decide) (fun c9 => ?_) (fun c9 => ?_)
          · have h := eT h c9
            refine Ev.iincv (pc := 85) dX10_gather_85 (v := 1) (by decide) rfl (by decide) rfl rfl ?_
            refine Ev.goto (pc := 88) (tgt := 7) dX10_gather_88 (by decide) ?_
            exact Ev.fg (ih _ _ _ h) (And.intro rfl (And.intro rfl (And.intro rfl trivial)))
          · have h := eF h c9
            refine Ev.aload_n (pc := 58) dX10_gather_58 rfl ?_
            refine Ev.aload_n (pc := 59) dX10_gather_59 rfl ?_
            refine Ev.iload_n (pc := 60) dX10_gather_60 rfl ?_
            refine Ev.iconst (pc := 61) dX10_gather_61 (v := 3) (by decide) ?_
            refine eBk h (fun q4 hq4 h => ?_)
            refine Ev.callV (pc := 62) (as := [.int v2, .int 3]) (st := [.ref 0]) (z := 0) dX10_gather_62 wc_X10_report1 ml_RX10_137 im_X10_report1 se_X10_report1 lR_0 rfl rfl (ev_X10_report1 v2 3 M _ hq4) rfl rfl (by decide) rfl rfl (Nat.le_of_ble_eq_true rfl) ?_
            refine Ev.aload_n (pc := 65) dX10_gather_65 rfl ?_
            refine Ev.iload_n (pc := 66) dX10_gather_66 rfl ?_
            refine Ev.iconst (pc := 67) dX10_gather_67 (v := 1) (by decide) ?_
            refine eBk h (fun q5 hq5 h => ?_)
            refine Ev.callV (pc := 68) (as := [.int v2, .int 1]) (st := [.int q4, .ref 0]) (z := 0) dX10_gather_68 wc_X10_report1 ml_RX10_137 im_X10_report1 se_X10_report1 lR_0 rfl rfl (ev_X10_report1 v2 1 M _ hq5) rfl rfl (by decide) rfl rfl (Nat.le_of_ble_eq_true rfl) ?_
            refine Ev.aload_n (pc := 71) dX10_gather_71 rfl ?_
            refine Ev.iload_n (pc := 72) dX10_gather_72 rfl ?_
            refine Ev.iconst (pc := 73) dX10_gather_73 (v := 2) (by decide) ?_
            refine eBk h (fun q6 hq6 h => ?_)
            refine Ev.callV (pc := 74) (as := [.int v2, .int 2]) (st := [.int q5, .int q4, .ref 0]) (z := 0) dX10_gather_74 wc_X10_report1 ml_RX10_137 im_X10_report1 se_X10_report1 lR_0 rfl rfl (ev_X10_report1 v2 2 M _ hq6) rfl rfl (by decide) rfl rfl (Nat.le_of_ble_eq_true rfl) ?_
            refine Ev.aload_n (pc := 77) dX10_gather_77 rfl ?_
            refine Ev.iload_n (pc := 78) dX10_gather_78 rfl ?_
            refine eBk h (fun q7 hq7 h => ?_)
            refine Ev.callV (pc := 79) (as := [.int v2]) (st := [.int q6, .int q5, .int q4, .ref 0]) (z := 0) dX10_gather_79 wc_X10_creditOf ml_RX10_143 im_X10_creditOf se_X10_creditOf lR_0 rfl rfl (ev_X10_creditOf v2 M _ hq7) rfl rfl (by decide) rfl rfl (Nat.le_of_ble_eq_true rfl) ?_
            refine eBk h (fun q8 hq8 h => ?_)
            refine Ev.callV (pc := 82) (as := [.int q4, .int q5, .int q6, .int q7]) (st := []) (z := 1) dX10_gather_82 wc_X10_more ml_RX10_150 im_X10_more se_X10_more lR_0 rfl rfl (ev_X10_more q4 q5 q6 q7 M _ hq8) rfl rfl (by decide) rfl rfl (Nat.le_of_ble_eq_true rfl) ?_
            refine Ev.iincv (pc := 85) dX10_gather_85 (v := 1) (by decide) rfl (by decide) rfl rfl ?_
            refine Ev.goto (pc := 88) (tgt := 7) dX10_gather_88 (by decide) ?_
            exact Ev.fg (ih _ _ _ h) (And.intro rfl (And.intro rfl (And.intro rfl trivial)))
def F_X10_gather (x1 : Int32) (M : eMem) : Option eMem :=
  F_X10_gather_7 eFuel x1 0 (eI M 0 13 0)
set_option maxRecDepth 100000 in
set_option maxHeartbeats 4000000 in
theorem ev_X10_gather (x1 : Int32) (M : eMem) (q : eMem) (h : F_X10_gather x1 M = some q) : Ev layR 2 m_X10_gather 0 [some (.ref 0), some (.int x1), none] [] M (none, q) := by
  rw [F_X10_gather] at h
  refine Ev.aload_n (pc := 0) dX10_gather_0 rfl ?_
  refine Ev.iconst (pc := 1) dX10_gather_1 (v := 0) (by decide) ?_
  refine Ev.putI (pc := 2) dX10_gather_2 fp_RX10_146 lR_0 rfl rfl rfl ?_
  refine Ev.iconst (pc := 5) dX10_gather_5 (v := 0) (by decide) ?_
  refine Ev.istore_n (pc := 6) dX10_gather_6 (by decide) rfl rfl ?_
  exact Ev.fg (ev_X10_gather_7 _ _ _ _ _ h) (And.intro rfl (And.intro rfl (And.intro rfl trivial)))
theorem dX10_weigh_0 : decode cX10_weigh 0 = .ok (.iconst 0, 1) := by decide +kernel
theorem dX10_weigh_1 : decode cX10_weigh 1 = .ok (.istore_n 1, 1) := by decide +kernel
theorem dX10_weigh_2 : decode cX10_weigh 2 = .ok (.iload_n 1, 1) := by decide +kernel
theorem dX10_weigh_3 : decode cX10_weigh 3 = .ok (.iconst 4, 1) := by decide +kernel
theorem dX10_weigh_4 : decode cX10_weigh 4 = .ok (.if_icmp .ge 16, 3) := by decide +kernel
theorem dX10_weigh_7 : decode cX10_weigh 7 = .ok (.aload_n 0, 1) := by decide +kernel
theorem dX10_weigh_8 : decode cX10_weigh 8 = .ok (.getfield 44, 3) := by decide +kernel
theorem dX10_weigh_11 : decode cX10_weigh 11 = .ok (.iload_n 1, 1) := by decide +kernel
theorem dX10_weigh_12 : decode cX10_weigh 12 = .ok (.lconst 1, 1) := by decide +kernel
theorem dX10_weigh_13 : decode cX10_weigh 13 = .ok (.lastore, 1) := by decide +kernel
theorem dX10_weigh_14 : decode cX10_weigh 14 = .ok (.iinc 1 1, 3) := by decide +kernel
theorem dX10_weigh_17 : decode cX10_weigh 17 = .ok (.goto (-15), 3) := by decide +kernel
theorem dX10_weigh_20 : decode cX10_weigh 20 = .ok (.aload_n 0, 1) := by decide +kernel
theorem dX10_weigh_21 : decode cX10_weigh 21 = .ok (.getfield 146, 3) := by decide +kernel
theorem dX10_weigh_24 : decode cX10_weigh 24 = .ok (.bipush 12, 2) := by decide +kernel
theorem dX10_weigh_26 : decode cX10_weigh 26 = .ok (.if_icmp .ge 7, 3) := by decide +kernel
theorem dX10_weigh_29 : decode cX10_weigh 29 = .ok (.iconst 0, 1) := by decide +kernel
theorem dX10_weigh_30 : decode cX10_weigh 30 = .ok (.goto 10, 3) := by decide +kernel
theorem dX10_weigh_33 : decode cX10_weigh 33 = .ok (.aload_n 0, 1) := by decide +kernel
theorem dX10_weigh_34 : decode cX10_weigh 34 = .ok (.getfield 146, 3) := by decide +kernel
theorem dX10_weigh_37 : decode cX10_weigh 37 = .ok (.bipush 12, 2) := by decide +kernel
theorem dX10_weigh_39 : decode cX10_weigh 39 = .ok (.isub, 1) := by decide +kernel
theorem dX10_weigh_40 : decode cX10_weigh 40 = .ok (.istore_n 1, 1) := by decide +kernel
theorem dX10_weigh_41 : decode cX10_weigh 41 = .ok (.iload_n 1, 1) := by decide +kernel
theorem dX10_weigh_42 : decode cX10_weigh 42 = .ok (.istore_n 2, 1) := by decide +kernel
theorem dX10_weigh_43 : decode cX10_weigh 43 = .ok (.iload_n 2, 1) := by decide +kernel
theorem dX10_weigh_44 : decode cX10_weigh 44 = .ok (.aload_n 0, 1) := by decide +kernel
theorem dX10_weigh_45 : decode cX10_weigh 45 = .ok (.getfield 146, 3) := by decide +kernel
theorem dX10_weigh_48 : decode cX10_weigh 48 = .ok (.if_icmp .ge 94, 3) := by decide +kernel
theorem dX10_weigh_51 : decode cX10_weigh 51 = .ok (.iconst 0, 1) := by decide +kernel
theorem dX10_weigh_52 : decode cX10_weigh 52 = .ok (.istore_n 3, 1) := by decide +kernel
theorem dX10_weigh_53 : decode cX10_weigh 53 = .ok (.iload_n 3, 1) := by decide +kernel
theorem dX10_weigh_54 : decode cX10_weigh 54 = .ok (.iconst 4, 1) := by decide +kernel
theorem dX10_weigh_55 : decode cX10_weigh 55 = .ok (.if_icmp .ge 81, 3) := by decide +kernel
theorem dX10_weigh_58 : decode cX10_weigh 58 = .ok (.aload_n 0, 1) := by decide +kernel
theorem dX10_weigh_59 : decode cX10_weigh 59 = .ok (.getfield 38, 3) := by decide +kernel
theorem dX10_weigh_62 : decode cX10_weigh 62 = .ok (.iload_n 2, 1) := by decide +kernel
theorem dX10_weigh_63 : decode cX10_weigh 63 = .ok (.iaload, 1) := by decide +kernel
theorem dX10_weigh_64 : decode cX10_weigh 64 = .ok (.iconst 1, 1) := by decide +kernel
theorem dX10_weigh_65 : decode cX10_weigh 65 = .ok (.if_icmp .ne 21, 3) := by decide +kernel
theorem dX10_weigh_68 : decode cX10_weigh 68 = .ok (.iload_n 3, 1) := by decide +kernel
theorem dX10_weigh_69 : decode cX10_weigh 69 = .ok (.aload_n 0, 1) := by decide +kernel
theorem dX10_weigh_70 : decode cX10_weigh 70 = .ok (.getfield 35, 3) := by decide +kernel
theorem dX10_weigh_73 : decode cX10_weigh 73 = .ok (.iload_n 2, 1) := by decide +kernel
theorem dX10_weigh_74 : decode cX10_weigh 74 = .ok (.iaload, 1) := by decide +kernel
theorem dX10_weigh_75 : decode cX10_weigh 75 = .ok (.if_icmp .ne 7, 3) := by decide +kernel
theorem dX10_weigh_78 : decode cX10_weigh 78 = .ok (.iconst 1, 1) := by decide +kernel
theorem dX10_weigh_79 : decode cX10_weigh 79 = .ok (.goto 22, 3) := by decide +kernel
theorem dX10_weigh_82 : decode cX10_weigh 82 = .ok (.iconst 0, 1) := by decide +kernel
theorem dX10_weigh_83 : decode cX10_weigh 83 = .ok (.goto 18, 3) := by decide +kernel
theorem dX10_weigh_86 : decode cX10_weigh 86 = .ok (.iload_n 3, 1) := by decide +kernel
theorem dX10_weigh_87 : decode cX10_weigh 87 = .ok (.aload_n 0, 1) := by decide +kernel
theorem dX10_weigh_88 : decode cX10_weigh 88 = .ok (.getfield 35, 3) := by decide +kernel
theorem dX10_weigh_91 : decode cX10_weigh 91 = .ok (.iload_n 2, 1) := by decide +kernel
theorem dX10_weigh_92 : decode cX10_weigh 92 = .ok (.iaload, 1) := by decide +kernel
theorem dX10_weigh_93 : decode cX10_weigh 93 = .ok (.if_icmp .eq 7, 3) := by decide +kernel
theorem dX10_weigh_96 : decode cX10_weigh 96 = .ok (.iconst 1, 1) := by decide +kernel
theorem dX10_weigh_97 : decode cX10_weigh 97 = .ok (.goto 4, 3) := by decide +kernel
theorem dX10_weigh_100 : decode cX10_weigh 100 = .ok (.iconst 0, 1) := by decide +kernel
theorem dX10_weigh_101 : decode cX10_weigh 101 = .ok (.istore 4, 2) := by decide +kernel
theorem dX10_weigh_103 : decode cX10_weigh 103 = .ok (.aload_n 0, 1) := by decide +kernel
theorem dX10_weigh_104 : decode cX10_weigh 104 = .ok (.getfield 44, 3) := by decide +kernel
theorem dX10_weigh_107 : decode cX10_weigh 107 = .ok (.iload_n 3, 1) := by decide +kernel
theorem dX10_weigh_108 : decode cX10_weigh 108 = .ok (.dup2, 1) := by decide +kernel
theorem dX10_weigh_109 : decode cX10_weigh 109 = .ok (.laload, 1) := by decide +kernel
theorem dX10_weigh_110 : decode cX10_weigh 110 = .ok (.iload 4, 2) := by decide +kernel
theorem dX10_weigh_112 : decode cX10_weigh 112 = .ok (.ifCond .eq 15, 3) := by decide +kernel
theorem dX10_weigh_115 : decode cX10_weigh 115 = .ok (.lconst 1, 1) := by decide +kernel
theorem dX10_weigh_116 : decode cX10_weigh 116 = .ok (.aload_n 0, 1) := by decide +kernel
theorem dX10_weigh_117 : decode cX10_weigh 117 = .ok (.getfield 41, 3) := by decide +kernel
theorem dX10_weigh_120 : decode cX10_weigh 120 = .ok (.iload_n 2, 1) := by decide +kernel
theorem dX10_weigh_121 : decode cX10_weigh 121 = .ok (.iaload, 1) := by decide +kernel
theorem dX10_weigh_122 : decode cX10_weigh 122 = .ok (.i2l, 1) := by decide +kernel
theorem dX10_weigh_123 : decode cX10_weigh 123 = .ok (.ladd, 1) := by decide +kernel
theorem dX10_weigh_124 : decode cX10_weigh 124 = .ok (.goto 4, 3) := by decide +kernel
theorem dX10_weigh_127 : decode cX10_weigh 127 = .ok (.lconst 1, 1) := by decide +kernel
theorem dX10_weigh_128 : decode cX10_weigh 128 = .ok (.lmul, 1) := by decide +kernel
theorem dX10_weigh_129 : decode cX10_weigh 129 = .ok (.lastore, 1) := by decide +kernel
theorem dX10_weigh_130 : decode cX10_weigh 130 = .ok (.iinc 3 1, 3) := by decide +kernel
theorem dX10_weigh_133 : decode cX10_weigh 133 = .ok (.goto (-80), 3) := by decide +kernel
theorem dX10_weigh_136 : decode cX10_weigh 136 = .ok (.iinc 2 1, 3) := by decide +kernel
theorem dX10_weigh_139 : decode cX10_weigh 139 = .ok (.goto (-96), 3) := by decide +kernel
theorem dX10_weigh_142 : decode cX10_weigh 142 = .ok (.return_, 1) := by decide +kernel
def F_X10_weigh_2 (K20 : eMem → Option eMem) : Nat → Int32 → eMem → Option eMem
  | 0, _, _ => none
  | n + 1, v1, M =>
    if v1 < 4 then
      eG (eIn v1 4) <|
      F_X10_weigh_2 K20 n (v1 + 1) (eJ M 12 v1.toNatClampNeg 1)
    else
      K20 M
set_option maxRecDepth 100000 in
set_option maxHeartbeats 4000000 in
theorem ev_X10_weigh_2 (K20 : eMem → Option eMem) (q : eMem) (hK20 : ∀  (M : eMem), K20 M = some q → Ev layR 0 m_X10_weigh 20 [some (.ref 0), none, none, none, none] [] M (none, q)) : ∀ (fuel : Nat) (v1 : Int32) (M : eMem), F_X10_weigh_2 K20 fuel v1 M = some q → Ev layR 0 m_X10_weigh 2 [some (.ref 0), some (.int v1), none, none, none] [] M (none, q) := by
  intro fuel
  induction fuel with
  | zero => intro v1 M h; rw [F_X10_weigh_2] at h; cases h
  | succ n ih =>
    intro v1 M h
    rw [F_X10_weigh_2] at h
    refine Ev.iload_n (pc := 2) dX10_weigh_2 rfl ?_
    refine Ev.iconst (pc := 3) dX10_weigh_3 (v := 4) (by decide) ?_
    refine Ev.icmp_ge (pc := 4) (tgt := 20) dX10_weigh_4 (by decide) (fun c9 => ?_) (fun c9 => ?_)
    · have h := eF h c9
      exact Ev.fg (hK20 _ h) (And.intro rfl trivial)
    · have h := eT h c9
      refine Ev.aload_n (pc := 7) dX10_weigh_7 rfl ?_
      refine Ev.getR (pc := 8) dX10_weigh_8 fl_RX10_44 lR_0 rfl ?_
      refine Ev.iload_n (pc := 11) dX10_weigh_11 rfl ?_
      refine Ev.lconst (pc := 12) dX10_weigh_12 (v := 1) (by decide) ?_
      obtain ⟨g9, h⟩ := eGdB h
      refine Ev.lastj (pc := 13) dX10_weigh_13 (j := v1.toNatClampNeg) lR_12 g9 rfl ?_
      refine Ev.iincv (pc := 14) dX10_weigh_14 (v := 1) (by decide) rfl (by decide) rfl rfl ?_
      refine Ev.goto (pc := 17) (tgt := 2) dX10_weigh_17 (by decide) ?_
      exact Ev.fg (ih _ _ h) (And.intro rfl (And.intro rfl trivial))
def F_X10_weigh_101 (rec : Int32 → Int32 → eMem → Option eMem) (K136 : Int32 → eMem → Option eMem) (v2 : Int32) (v3 : Int32) (s0 : Int32) (M : eMem) : Option eMem :=
  eG (eIn v3 4) <|
  if s0 = 0 then
    eG (eIn v3 4) <|
    rec v2 (v3 + 1) (eJ M 12 v3.toNatClampNeg ((M.2 12 v3.toNatClampNeg) * 1))
  else
    eG (eIn v2 800) <|
    eG (eIn v3 4) <|
    rec v2 (v3 + 1) (eJ M 12 v3.toNatClampNeg ((M.2 12 v3.toNatClampNeg) * (1 + (M.1 11 v2.toNatClampNeg).toInt64)))
set_option maxRecDepth 100000 in
set_option maxHeartbeats 4000000 in
theorem ev_X10_weigh_101 (rec : Int32 → Int32 → eMem → Option eMem) (K136 : Int32 → eMem → Option eMem) (q : eMem) (hrec : ∀ (v2 : Int32) (v3 : Int32) (M : eMem), rec v2 v3 M = some q → Ev layR 0 m_X10_weigh 53 [some (.ref 0), none, some (.int v2), some (.int v3), none] [] M (none, q)) (hK136 : ∀ (v2 : Int32) (M : eMem), K136 v2 M = some q → Ev layR 0 m_X10_weigh 136 [some (.ref 0), none, some (.int v2), none, none] [] M (none, q)) (v2 : Int32) (v3 : Int32) (s0 : Int32) (M : eMem) (h : F_X10_weigh_101 rec K136 v2 v3 s0 M = some q) : Ev layR 0 m_X10_weigh 101 [some (.ref 0), none, some (.int v2), some (.int v3), none] [.int s0] M (none, q) := by
  rw [F_X10_weigh_101] at h
  refine Ev.istore (pc := 101) dX10_weigh_101 (by decide) rfl rfl ?_
  refine Ev.aload_n (pc := 103) dX10_weigh_103 rfl ?_
  refine Ev.getR (pc := 104) dX10_weigh_104 fl_RX10_44 lR_0 rfl ?_
  refine Ev.iload_n (pc := 107) dX10_weigh_107 rfl ?_
  refine Ev.dup2 (pc := 108) dX10_weigh_108 rfl rfl ?_
  obtain ⟨g9, h⟩ := eGdB h
  refine Ev.laldj (pc := 109) dX10_weigh_109 (j := v3.toNatClampNeg) lR_12 g9 rfl ?_
  refine Ev.iload (pc := 110) dX10_weigh_110 rfl ?_
  refine Ev.if_eq (pc := 112) (tgt := 127) dX10_weigh_112 (by decide) (fun c9 => ?_) (fun c9 => ?_)
  · have h := eT h c9
    refine Ev.lconst (pc := 127) dX10_weigh_127 (v := 1) (by decide) ?_
    refine Ev.lmul (pc := 128) dX10_weigh_128 ?_
    obtain ⟨g9, h⟩ := eGdB h
    refine Ev.lastj (pc := 129) dX10_weigh_129 (j := v3.toNatClampNeg) lR_12 g9 rfl ?_
    refine Ev.iincv (pc := 130) dX10_weigh_130 (v := 1) (by decide) rfl (by decide) rfl rfl ?_
    refine Ev.goto (pc := 133) (tgt := 53) dX10_weigh_133 (by decide) ?_
    exact Ev.fg (hrec _ _ _ h) (And.intro rfl (And.intro rfl (And.intro rfl trivial)))
  · have h := eF h c9
    refine Ev.lconst (pc := 115) dX10_weigh_115 (v := 1) (by decide) ?_
    refine Ev.aload_n (pc := 116) dX10_weigh_116 rfl ?_
    refine Ev.getR (pc := 117) dX10_weigh_117 fl_RX10_41 lR_0 rfl ?_
    refine Ev.iload_n (pc := 120) dX10_weigh_120 rfl ?_
    obtain ⟨g9, h⟩ := eGdB h
    refine Ev.ialdj (pc := 121) dX10_weigh_121 (j := v2.toNatClampNeg) lR_11 g9 rfl ?_
    refine Ev.i2l (pc := 122) dX10_weigh_122 ?_
    refine Ev.ladd (pc := 123) dX10_weigh_123 ?_
    refine Ev.goto (pc := 124) (tgt := 128) dX10_weigh_124 (by decide) ?_
    refine Ev.lmul (pc := 128) dX10_weigh_128 ?_
    obtain ⟨g9, h⟩ := eGdB h
    refine Ev.lastj (pc := 129) dX10_weigh_129 (j := v3.toNatClampNeg) lR_12 g9 rfl ?_
    refine Ev.iincv (pc := 130) dX10_weigh_130 (v := 1) (by decide) rfl (by decide) rfl rfl ?_
    refine Ev.goto (pc := 133) (tgt := 53) dX10_weigh_133 (by decide) ?_
    exact Ev.fg (hrec _ _ _ h) (And.intro rfl (And.intro rfl (And.intro rfl trivial)))
def F_X10_weigh_53 (K136 : Int32 → eMem → Option eMem) : Nat → Int32 → Int32 → eMem → Option eMem
  | 0, _, _, _ => none
  | n + 1, v2, v3, M =>
    if v3 < 4 then
      eG (eIn v2 800) <|
      if (M.1 10 v2.toNatClampNeg) = 1 then
        eG (eIn v2 800) <|
        if v3 = (M.1 9 v2.toNatClampNeg) then
          F_X10_weigh_101 (fun v2 v3 M => F_X10_weigh_53 K136 n v2 v3 M) K136 v2 v3 1 M
        else
          F_X10_weigh_101 (fun v2 v3 M => F_X10_weigh_53 K136 n v2 v3 M) K136 v2 v3 0 M
      else
        eG (eIn v2 800) <|
        if v3 = (M.1 9 v2.toNatClampNeg) then
          F_X10_weigh_101 (fun v2 v3 M => F_X10_weigh_53 K136 n v2 v3 M) K136 v2 v3 0 M
        else
          F_X10_weigh_101 (fun v2 v3 M => F_X10_weigh_53 K136 n v2 v3 M) K136 v2 v3 1 M
    else
      K136 v2 M
set_option maxRecDepth 100000 in
set_option maxHeartbeats 4000000 in
theorem ev_X10_weigh_53 (K136 : Int32 → eMem → Option eMem) (q : eMem) (hK136 : ∀ (v2 : Int32) (M : eMem), K136 v2 M = some q → Ev layR 0 m_X10_weigh 136 [some (.ref 0), none, some (.int v2), none, none] [] M (none, q)) : ∀ (fuel : Nat) (v2 : Int32) (v3 : Int32) (M : eMem), F_X10_weigh_53 K136 fuel v2 v3 M = some q → Ev layR 0 m_X10_weigh 53 [some (.ref 0), none, some (.int v2), some (.int v3), none] [] M (none, q) := by
  intro fuel
  induction fuel with
  | zero => intro v2 v3 M h; rw [F_X10_weigh_53] at h; cases h
  | succ n ih =>
    intro v2 v3 M h
    rw [F_X10_weigh_53] at h
    refine Ev.iload_n (pc := 53) dX10_weigh_53 rfl ?_
    refine Ev.iconst (pc := 54) dX10_weigh_54 (v := 4) (by decide) ?_
    refine Ev.icmp_ge (pc := 55) (tgt := 136) dX10_weigh_55 (by decide) (fun c9 => ?_) (fun c9 => ?_)
    · have h := eF h c9
      exact Ev.fg (hK136 _ _ h) (And.intro rfl (And.intro rfl trivial))
    · have h := eT h c9
      refine Ev.aload_n (pc := 58) dX10_weigh_58 rfl ?_
      refine Ev.getR (pc := 59) dX10_weigh_59 fl_RX10_38 lR_0 rfl ?_
      refine Ev.iload_n (pc := 62) dX10_weigh_62 rfl ?_
      obtain ⟨g9, h⟩ := eGdB h
      refine Ev.ialdj (pc := 63) dX10_weigh_63 (j := v2.toNatClampNeg) lR_10 g9 rfl ?_
      refine Ev.iconst (pc := 64) dX10_weigh_64 (v := 1) (by decide) ?_
      refine Ev.icmp_ne (pc := 65) (tgt := 86) dX10_weigh_65 (by decide) (fun c9 => ?_) (fun c9 => ?_)
      · have h := eF h c9
        refine Ev.iload_n (pc := 86) dX10_weigh_86 rfl ?_
        refine Ev.aload_n (pc := 87) dX10_weigh_87 rfl ?_
        refine Ev.getR (pc := 88) dX10_weigh_88 fl_RX10_35 lR_0 rfl ?_
        refine Ev.iload_n (pc := 91) dX10_weigh_91 rfl ?_
        obtain ⟨g9, h⟩ := eGdB h
        refine Ev.ialdj (pc := 92) dX10_weigh_92 (j := v2.toNatClampNeg) lR_9 g9 rfl ?_
        refine Ev.icmp_eq (pc := 93) (tgt := 100) dX10_weigh_93 (by decide) (fun c9 => ?_) (fun c9 => ?_)
        · have h := eT h c9
          refine Ev.iconst (pc := 100) dX10_weigh_100 (v := 0) (by decide) ?_
          exact Ev.fg (ev_X10_weigh_101 _ _ _ ih hK136 _ _ _ _ h) (And.intro rfl (And.intro rfl (And.intro rfl trivial)))
        · have h := eF h c9
          refine Ev.iconst (pc := 96) dX10_weigh_96 (v := 1) (by decide) ?_
          refine Ev.goto (pc := 97) (tgt := 101) dX10_weigh_97 (by decide) ?_
          exact Ev.fg (ev_X10_weigh_101 _ _ _ ih hK136 _ _ _ _ h) (And.intro rfl (And.intro rfl (And.intro rfl trivial)))
      · have h := eT h c9
        refine Ev.iload_n (pc := 68) dX10_weigh_68 rfl ?_
        refine Ev.aload_n (pc := 69) dX10_weigh_69 rfl ?_
        refine Ev.getR (pc := 70) dX10_weigh_70 fl_RX10_35 lR_0 rfl ?_
        refine Ev.iload_n (pc := 73) dX10_weigh_73 rfl ?_
        obtain ⟨g9, h⟩ := eGdB h
        refine Ev.ialdj (pc := 74) dX10_weigh_74 (j := v2.toNatClampNeg) lR_9 g9 rfl ?_
        refine Ev.icmp_ne (pc := 75) (tgt := 82) dX10_weigh_75 (by decide) (fun c9 => ?_) (fun c9 => ?_)
        · have h := eF h c9
          refine Ev.iconst (pc := 82) dX10_weigh_82 (v := 0) (by decide) ?_
          refine Ev.goto (pc := 83) (tgt := 101) dX10_weigh_83 (by decide) ?_
          exact Ev.fg (ev_X10_weigh_101 _ _ _ ih hK136 _ _ _ _ h) (And.intro rfl (And.intro rfl (And.intro rfl trivial)))
        · have h := eT h c9
          refine Ev.iconst (pc := 78) dX10_weigh_78 (v := 1) (by decide) ?_
          refine Ev.goto (pc := 79) (tgt := 101) dX10_weigh_79 (by decide) ?_
          exact Ev.fg (ev_X10_weigh_101 _ _ _ ih hK136 _ _ _ _ h) (And.intro rfl (And.intro rfl (And.intro rfl trivial)))
def F_X10_weigh_43  : Nat → Int32 → eMem → Option eMem
  | 0, _, _ => none
  | n + 1, v2, M =>
    if v2 < (M.1 0 13) then
      F_X10_weigh_53
        (fun v2 M =>
          F_X10_weigh_43 n (v2 + 1) M)
        eFuel v2 0 M
    else
      some M
set_option maxRecDepth 100000 in
set_option maxHeartbeats 4000000 in
theorem ev_X10_weigh_43  (q : eMem)  : ∀ (fuel : Nat) (v2 : Int32) (M : eMem), F_X10_weigh_43 fuel v2 M = some q → Ev layR 0 m_X10_weigh 43 [some (.ref 0), none, some (.int v2), none, none] [] M (none, q) := by
  intro fuel
  induction fuel with
  | zero => intro v2 M h; rw [F_X10_weigh_43] at h; cases h
  | succ n ih =>
    intro v2 M h
    rw [F_X10_weigh_43] at h
    refine Ev.iload_n (pc := 43) dX10_weigh_43 rfl ?_
    refine Ev.aload_n (pc := 44) dX10_weigh_44 rfl ?_
    refine Ev.getI (pc := 45) dX10_weigh_45 fl_RX10_146 lR_0 rfl ?_
    refine Ev.icmp_ge (pc := 48) (tgt := 142) dX10_weigh_48 (by decide) (fun c9 => ?_) (fun c9 => ?_)
    · have h := eF h c9
      obtain rfl := Option.some.inj h
      exact Ev.vret (pc := 142) dX10_weigh_142 rfl
    · have h := eT h c9
      refine Ev.iconst (pc := 51) dX10_weigh_51 (v := 0) (by decide) ?_
      refine Ev.istore_n (pc := 52) dX10_weigh_52 (by decide) rfl rfl ?_
      refine Ev.fg (ev_X10_weigh_53 _ _ ?_ _ _ _ _ h) (And.intro rfl (And.intro rfl (And.intro rfl trivial)))
      · intro v2 M h
        refine Ev.iincv (pc := 136) dX10_weigh_136 (v := 1) (by decide) rfl (by decide) rfl rfl ?_
        refine Ev.goto (pc := 139) (tgt := 43) dX10_weigh_139 (by decide) ?_
        exact Ev.fg (ih _ _ h) (And.intro rfl (And.intro rfl trivial))
def F_X10_weigh_40  (s0 : Int32) (M : eMem) : Option eMem :=
  F_X10_weigh_43 eFuel s0 M
set_option maxRecDepth 100000 in
set_option maxHeartbeats 4000000 in
theorem ev_X10_weigh_40  (q : eMem)  (s0 : Int32) (M : eMem) (h : F_X10_weigh_40 s0 M = some q) : Ev layR 0 m_X10_weigh 40 [some (.ref 0), none, none, none, none] [.int s0] M (none, q) := by
  rw [F_X10_weigh_40] at h
  refine Ev.istore_n (pc := 40) dX10_weigh_40 (by decide) rfl rfl ?_
  refine Ev.iload_n (pc := 41) dX10_weigh_41 rfl ?_
  refine Ev.istore_n (pc := 42) dX10_weigh_42 (by decide) rfl rfl ?_
  exact Ev.fg (ev_X10_weigh_43 _ _ _ _ h) (And.intro rfl (And.intro rfl trivial))
def F_X10_weigh  (M : eMem) : Option eMem :=
  F_X10_weigh_2
    (fun M =>
      if (M.1 0 13) < 12 then
        F_X10_weigh_40 0 M
      else
        F_X10_weigh_40 ((M.1 0 13) - 12) M)
    eFuel 0 M
set_option maxRecDepth 100000 in
set_option maxHeartbeats 4000000 in
theorem ev_X10_weigh  (M : eMem) (q : eMem) (h : F_X10_weigh  M = some q) : Ev layR 0 m_X10_weigh 0 [some (.ref 0), none, none, none, none] [] M (none, q) := by
  rw [F_X10_weigh] at h
  refine Ev.iconst (pc := 0) dX10_weigh_0 (v := 0) (by decide) ?_
  refine Ev.istore_n (pc := 1) dX10_weigh_1 (by decide) rfl rfl ?_
  refine Ev.fg (ev_X10_weigh_2 _ _ ?_ _ _ _ h) (And.intro rfl (And.intro rfl trivial))
  · intro M h
    refine Ev.aload_n (pc := 20) dX10_weigh_20 rfl ?_
    refine Ev.getI (pc := 21) dX10_weigh_21 fl_RX10_146 lR_0 rfl ?_
    refine Ev.bipush (pc := 24) dX10_weigh_24 (v := 12) (by decide) ?_
    refine Ev.icmp_ge (pc := 26) (tgt := 33) dX10_weigh_26 (by decide) (fun c9 => ?_) (fun c9 => ?_)
    · have h := eF h c9
      refine Ev.aload_n (pc := 33) dX10_weigh_33 rfl ?_
      refine Ev.getI (pc := 34) dX10_weigh_34 fl_RX10_146 lR_0 rfl ?_
      refine Ev.bipush (pc := 37) dX10_weigh_37 (v := 12) (by decide) ?_
      refine Ev.isub (pc := 39) dX10_weigh_39 ?_
      exact Ev.fg (ev_X10_weigh_40 _ _ _ h) (And.intro rfl trivial)
    · have h := eT h c9
      refine Ev.iconst (pc := 29) dX10_weigh_29 (v := 0) (by decide) ?_
      refine Ev.goto (pc := 30) (tgt := 40) dX10_weigh_30 (by decide) ?_
      exact Ev.fg (ev_X10_weigh_40 _ _ _ h) (And.intro rfl trivial)
theorem dX10_weight_0 : decode cX10_weight 0 = .ok (.iload_n 1, 1) := by decide +kernel
theorem dX10_weight_1 : decode cX10_weight 1 = .ok (.invokestatic 99, 3) := by decide +kernel
theorem dX10_weight_4 : decode cX10_weight 4 = .ok (.ifCond .ne 10, 3) := by decide +kernel
theorem dX10_weight_7 : decode cX10_weight 7 = .ok (.aload_n 0, 1) := by decide +kernel
theorem dX10_weight_8 : decode cX10_weight 8 = .ok (.iconst 1, 1) := by decide +kernel
theorem dX10_weight_9 : decode cX10_weight 9 = .ok (.invokevirtual 66, 3) := by decide +kernel
theorem dX10_weight_12 : decode cX10_weight 12 = .ok (.i2l, 1) := by decide +kernel
theorem dX10_weight_13 : decode cX10_weight 13 = .ok (.lreturn, 1) := by decide +kernel
theorem dX10_weight_14 : decode cX10_weight 14 = .ok (.aload_n 0, 1) := by decide +kernel
theorem dX10_weight_15 : decode cX10_weight 15 = .ok (.aload_n 0, 1) := by decide +kernel
theorem dX10_weight_16 : decode cX10_weight 16 = .ok (.getfield 7, 3) := by decide +kernel
theorem dX10_weight_19 : decode cX10_weight 19 = .ok (.iconst 0, 1) := by decide +kernel
theorem dX10_weight_20 : decode cX10_weight 20 = .ok (.iaload, 1) := by decide +kernel
theorem dX10_weight_21 : decode cX10_weight 21 = .ok (.invokevirtual 154, 3) := by decide +kernel
theorem dX10_weight_24 : decode cX10_weight 24 = .ok (.aload_n 0, 1) := by decide +kernel
theorem dX10_weight_25 : decode cX10_weight 25 = .ok (.invokevirtual 158, 3) := by decide +kernel
theorem dX10_weight_28 : decode cX10_weight 28 = .ok (.aload_n 0, 1) := by decide +kernel
theorem dX10_weight_29 : decode cX10_weight 29 = .ok (.getfield 44, 3) := by decide +kernel
theorem dX10_weight_32 : decode cX10_weight 32 = .ok (.iload_n 1, 1) := by decide +kernel
theorem dX10_weight_33 : decode cX10_weight 33 = .ok (.laload, 1) := by decide +kernel
theorem dX10_weight_34 : decode cX10_weight 34 = .ok (.lreturn, 1) := by decide +kernel
def F_X10_weight (x1 : Int32) (M : eMem) : Option (Int64 × eMem) :=
  (F_X10_isStory x1).bind fun q1 =>
  if q1 = 0 then
    (F_X10_finding 1 M).bind fun q4 =>
    some (q4.1.toInt64, q4.2)
  else
    (F_X10_gather (M.1 1 0) M).bind fun q2 =>
    (F_X10_weigh q2).bind fun q3 =>
    eG (eIn x1 4) <|
    some ((q3.2 12 x1.toNatClampNeg), q3)
set_option maxRecDepth 100000 in
set_option maxHeartbeats 4000000 in
theorem ev_X10_weight (x1 : Int32) (M : eMem) (q : (Int64 × eMem)) (h : F_X10_weight x1 M = some q) : Ev layR 3 m_X10_weight 0 [some (.ref 0), some (.int x1)] [] M (some (.long q.1), q.2) := by
  rw [F_X10_weight] at h
  refine Ev.iload_n (pc := 0) dX10_weight_0 rfl ?_
  refine eBk h (fun q1 hq1 h => ?_)
  refine Ev.callS (pc := 1) (as := [.int x1]) (st := []) (z := 0) dX10_weight_1 wc_X10_isStory ml_RX10_99 sm_X10_isStory (ev_X10_isStory x1 M _ hq1) rfl rfl (by decide) rfl rfl (Nat.le_of_ble_eq_true rfl) ?_
  refine Ev.if_ne (pc := 4) (tgt := 14) dX10_weight_4 (by decide) (fun c9 => ?_) (fun c9 => ?_)
  · have h := eF h c9
    refine Ev.aload_n (pc := 14) dX10_weight_14 rfl ?_
    refine Ev.aload_n (pc := 15) dX10_weight_15 rfl ?_
    refine Ev.getR (pc := 16) dX10_weight_16 fl_RX10_7 lR_0 rfl ?_
    refine Ev.iconst (pc := 19) dX10_weight_19 (v := 0) (by decide) ?_
    refine Ev.ialdj (pc := 20) dX10_weight_20 (j := 0) lR_1 (by decide) (by decide) ?_
    refine eBk h (fun q2 hq2 h => ?_)
    refine Ev.callV (pc := 21) (as := [.int (M.1 1 0)]) (st := []) (z := 1) dX10_weight_21 wc_X10_gather ml_RX10_154 im_X10_gather se_X10_gather lR_0 rfl rfl (ev_X10_gather (M.1 1 0) M _ hq2) rfl rfl (by decide) rfl rfl (Nat.le_of_ble_eq_true rfl) ?_
    refine Ev.aload_n (pc := 24) dX10_weight_24 rfl ?_
    refine eBk h (fun q3 hq3 h => ?_)
    refine Ev.callV (pc := 25) (as := []) (st := []) (z := 4) dX10_weight_25 wc_X10_weigh ml_RX10_158 im_X10_weigh se_X10_weigh lR_0 rfl rfl (ev_X10_weigh  q2 _ hq3) rfl rfl (by decide) rfl rfl (Nat.le_of_ble_eq_true rfl) ?_
    refine Ev.aload_n (pc := 28) dX10_weight_28 rfl ?_
    refine Ev.getR (pc := 29) dX10_weight_29 fl_RX10_44 lR_0 rfl ?_
    refine Ev.iload_n (pc := 32) dX10_weight_32 rfl ?_
    obtain ⟨g9, h⟩ := eGdB h
    refine Ev.laldj (pc := 33) dX10_weight_33 (j := x1.toNatClampNeg) lR_12 g9 rfl ?_
    obtain rfl := Option.some.inj h
    exact Ev.lret (pc := 34) dX10_weight_34 rfl
  · have h := eT h c9
    refine Ev.aload_n (pc := 7) dX10_weight_7 rfl ?_
    refine Ev.iconst (pc := 8) dX10_weight_8 (v := 1) (by decide) ?_
    refine eBk h (fun q4 hq4 h => ?_)
    refine Ev.callV (pc := 9) (as := [.int 1]) (st := []) (z := 0) dX10_weight_9 wc_X10_finding ml_RX10_66 im_X10_finding se_X10_finding lR_0 rfl rfl (ev_X10_finding 1 M _ hq4) rfl rfl (by decide) rfl rfl (Nat.le_of_ble_eq_true rfl) ?_
    refine Ev.i2l (pc := 12) dX10_weight_12 ?_
    obtain rfl := Option.some.inj h
    exact Ev.lret (pc := 13) dX10_weight_13 rfl
theorem dX3_sum_0 : decode cX3_sum 0 = .ok (.lconst 0, 1) := by decide +kernel
theorem dX3_sum_1 : decode cX3_sum 1 = .ok (.lstore_n 1, 1) := by decide +kernel
theorem dX3_sum_2 : decode cX3_sum 2 = .ok (.iconst 0, 1) := by decide +kernel
theorem dX3_sum_3 : decode cX3_sum 3 = .ok (.istore_n 3, 1) := by decide +kernel
theorem dX3_sum_4 : decode cX3_sum 4 = .ok (.iload_n 3, 1) := by decide +kernel
theorem dX3_sum_5 : decode cX3_sum 5 = .ok (.iconst 4, 1) := by decide +kernel
theorem dX3_sum_6 : decode cX3_sum 6 = .ok (.if_icmp .ge 18, 3) := by decide +kernel
theorem dX3_sum_9 : decode cX3_sum 9 = .ok (.lload_n 1, 1) := by decide +kernel
theorem dX3_sum_10 : decode cX3_sum 10 = .ok (.aload_n 0, 1) := by decide +kernel
theorem dX3_sum_11 : decode cX3_sum 11 = .ok (.getfield 9, 3) := by decide +kernel
theorem dX3_sum_14 : decode cX3_sum 14 = .ok (.iload_n 3, 1) := by decide +kernel
theorem dX3_sum_15 : decode cX3_sum 15 = .ok (.laload, 1) := by decide +kernel
theorem dX3_sum_16 : decode cX3_sum 16 = .ok (.ladd, 1) := by decide +kernel
theorem dX3_sum_17 : decode cX3_sum 17 = .ok (.lstore_n 1, 1) := by decide +kernel
theorem dX3_sum_18 : decode cX3_sum 18 = .ok (.iinc 3 1, 3) := by decide +kernel
theorem dX3_sum_21 : decode cX3_sum 21 = .ok (.goto (-17), 3) := by decide +kernel
theorem dX3_sum_24 : decode cX3_sum 24 = .ok (.lload_n 1, 1) := by decide +kernel
theorem dX3_sum_25 : decode cX3_sum 25 = .ok (.lreturn, 1) := by decide +kernel
def F_X3_sum_4  : Nat → eMem → Int64 → Int32 → Option Int64
  | 0, _, _, _ => none
  | n + 1, M, v1, v3 =>
    if v3 < 4 then
      eG (eIn v3 4) <|
      F_X3_sum_4 n M (v1 + (M.2 56 v3.toNatClampNeg)) (v3 + 1)
    else
      some v1
set_option maxRecDepth 100000 in
set_option maxHeartbeats 4000000 in
theorem ev_X3_sum_4  (q : Int64) (M : eMem)  : ∀ (fuel : Nat) (v1 : Int64) (v3 : Int32), F_X3_sum_4 fuel M v1 v3 = some q → Ev layC 0 m_X3_sum 4 [some (.ref 55), some (.long v1), none, some (.int v3)] [] M (some (.long q), M) := by
  intro fuel
  induction fuel with
  | zero => intro v1 v3 h; rw [F_X3_sum_4] at h; cases h
  | succ n ih =>
    intro v1 v3 h
    rw [F_X3_sum_4] at h
    refine Ev.iload_n (pc := 4) dX3_sum_4 rfl ?_
    refine Ev.iconst (pc := 5) dX3_sum_5 (v := 4) (by decide) ?_
    refine Ev.icmp_ge (pc := 6) (tgt := 24) dX3_sum_6 (by decide) (fun c9 => ?_) (fun c9 => ?_)
    · have h := eF h c9
      refine Ev.lload_n (pc := 24) dX3_sum_24 rfl ?_
      obtain rfl := Option.some.inj h
      exact Ev.lret (pc := 25) dX3_sum_25 rfl
    · have h := eT h c9
      refine Ev.lload_n (pc := 9) dX3_sum_9 rfl ?_
      refine Ev.aload_n (pc := 10) dX3_sum_10 rfl ?_
      refine Ev.getR (pc := 11) dX3_sum_11 fl_RX3_9 lC_55 rfl ?_
      refine Ev.iload_n (pc := 14) dX3_sum_14 rfl ?_
      obtain ⟨g9, h⟩ := eGdB h
      refine Ev.laldj (pc := 15) dX3_sum_15 (j := v3.toNatClampNeg) lC_56 g9 rfl ?_
      refine Ev.ladd (pc := 16) dX3_sum_16 ?_
      refine Ev.lstore_n (pc := 17) dX3_sum_17 (by decide) rfl rfl ?_
      refine Ev.iincv (pc := 18) dX3_sum_18 (v := 1) (by decide) rfl (by decide) rfl rfl ?_
      refine Ev.goto (pc := 21) (tgt := 4) dX3_sum_21 (by decide) ?_
      exact Ev.fg (ih _ _ h) (And.intro rfl (And.intro rfl (And.intro rfl trivial)))
def F_X3_sum  (M : eMem) : Option Int64 :=
  F_X3_sum_4 eFuel M 0 0
set_option maxRecDepth 100000 in
set_option maxHeartbeats 4000000 in
theorem ev_X3_sum  (M : eMem) (q : Int64) (h : F_X3_sum  M = some q) : Ev layC 0 m_X3_sum 0 [some (.ref 55), none, none, none] [] M (some (.long q), M) := by
  rw [F_X3_sum] at h
  refine Ev.lconst (pc := 0) dX3_sum_0 (v := 0) (by decide) ?_
  refine Ev.lstore_n (pc := 1) dX3_sum_1 (by decide) rfl rfl ?_
  refine Ev.iconst (pc := 2) dX3_sum_2 (v := 0) (by decide) ?_
  refine Ev.istore_n (pc := 3) dX3_sum_3 (by decide) rfl rfl ?_
  exact Ev.fg (ev_X3_sum_4 _ _ _ _ _ h) (And.intro rfl (And.intro rfl (And.intro rfl trivial)))
theorem dX3_cleared_0 : decode cX3_cleared 0 = .ok (.aload_n 0, 1) := by decide +kernel
theorem dX3_cleared_1 : decode cX3_cleared 1 = .ok (.getfield 9, 3) := by decide +kernel
theorem dX3_cleared_4 : decode cX3_cleared 4 = .ok (.iload_n 1, 1) := by decide +kernel
theorem dX3_cleared_5 : decode cX3_cleared 5 = .ok (.laload, 1) := by decide +kernel
theorem dX3_cleared_6 : decode cX3_cleared 6 = .ok (.lstore_n 3, 1) := by decide +kernel
theorem dX3_cleared_7 : decode cX3_cleared 7 = .ok (.aload_n 0, 1) := by decide +kernel
theorem dX3_cleared_8 : decode cX3_cleared 8 = .ok (.invokevirtual 94, 3) := by decide +kernel
theorem dX3_cleared_11 : decode cX3_cleared 11 = .ok (.lstore 5, 2) := by decide +kernel
theorem dX3_cleared_13 : decode cX3_cleared 13 = .ok (.iconst 0, 1) := by decide +kernel
theorem dX3_cleared_14 : decode cX3_cleared 14 = .ok (.istore 7, 2) := by decide +kernel
theorem dX3_cleared_16 : decode cX3_cleared 16 = .ok (.iload 7, 2) := by decide +kernel
theorem dX3_cleared_18 : decode cX3_cleared 18 = .ok (.sipush 128, 3) := by decide +kernel
theorem dX3_cleared_21 : decode cX3_cleared 21 = .ok (.if_icmp .ge 29, 3) := by decide +kernel
theorem dX3_cleared_24 : decode cX3_cleared 24 = .ok (.lload 5, 2) := by decide +kernel
theorem dX3_cleared_26 : decode cX3_cleared 26 = .ok (.lconst 0, 1) := by decide +kernel
theorem dX3_cleared_27 : decode cX3_cleared 27 = .ok (.lcmp, 1) := by decide +kernel
theorem dX3_cleared_28 : decode cX3_cleared 28 = .ok (.ifCond .le 22, 3) := by decide +kernel
theorem dX3_cleared_31 : decode cX3_cleared 31 = .ok (.lload_n 3, 1) := by decide +kernel
theorem dX3_cleared_32 : decode cX3_cleared 32 = .ok (.lload 5, 2) := by decide +kernel
theorem dX3_cleared_34 : decode cX3_cleared 34 = .ok (.lrem, 1) := by decide +kernel
theorem dX3_cleared_35 : decode cX3_cleared 35 = .ok (.lstore 8, 2) := by decide +kernel
theorem dX3_cleared_37 : decode cX3_cleared 37 = .ok (.lload 5, 2) := by decide +kernel
theorem dX3_cleared_39 : decode cX3_cleared 39 = .ok (.lstore_n 3, 1) := by decide +kernel
theorem dX3_cleared_40 : decode cX3_cleared 40 = .ok (.lload 8, 2) := by decide +kernel
theorem dX3_cleared_42 : decode cX3_cleared 42 = .ok (.lstore 5, 2) := by decide +kernel
theorem dX3_cleared_44 : decode cX3_cleared 44 = .ok (.iinc 7 1, 3) := by decide +kernel
theorem dX3_cleared_47 : decode cX3_cleared 47 = .ok (.goto (-31), 3) := by decide +kernel
theorem dX3_cleared_50 : decode cX3_cleared 50 = .ok (.iload_n 2, 1) := by decide +kernel
theorem dX3_cleared_51 : decode cX3_cleared 51 = .ok (.ifCond .eq 10, 3) := by decide +kernel
theorem dX3_cleared_54 : decode cX3_cleared 54 = .ok (.aload_n 0, 1) := by decide +kernel
theorem dX3_cleared_55 : decode cX3_cleared 55 = .ok (.invokevirtual 94, 3) := by decide +kernel
theorem dX3_cleared_58 : decode cX3_cleared 58 = .ok (.goto 9, 3) := by decide +kernel
theorem dX3_cleared_61 : decode cX3_cleared 61 = .ok (.aload_n 0, 1) := by decide +kernel
theorem dX3_cleared_62 : decode cX3_cleared 62 = .ok (.getfield 9, 3) := by decide +kernel
theorem dX3_cleared_65 : decode cX3_cleared 65 = .ok (.iload_n 1, 1) := by decide +kernel
theorem dX3_cleared_66 : decode cX3_cleared 66 = .ok (.laload, 1) := by decide +kernel
theorem dX3_cleared_67 : decode cX3_cleared 67 = .ok (.lconst 1, 1) := by decide +kernel
theorem dX3_cleared_68 : decode cX3_cleared 68 = .ok (.lload_n 3, 1) := by decide +kernel
theorem dX3_cleared_69 : decode cX3_cleared 69 = .ok (.invokestatic 98, 3) := by decide +kernel
theorem dX3_cleared_72 : decode cX3_cleared 72 = .ok (.ldiv, 1) := by decide +kernel
theorem dX3_cleared_73 : decode cX3_cleared 73 = .ok (.lreturn, 1) := by decide +kernel
def F_X3_cleared_16 (K50 : Int32 → Int32 → Int64 → Option Int64) : Nat → eMem → Int32 → Int32 → Int64 → Int64 → Int32 → Option Int64
  | 0, _, _, _, _, _, _ => none
  | n + 1, M, v1, v2, v3, v5, v7 =>
    if v7 < 128 then
      if 0 < (lg_cmp v5 0) then
        if v5 = 0 then none else
        F_X3_cleared_16 K50 n M v1 v2 v5 (v3 - v3 / v5 * v5) (v7 + 1)
      else
        K50 v1 v2 v3
    else
      K50 v1 v2 v3
set_option maxRecDepth 100000 in
set_option maxHeartbeats 4000000 in
theorem ev_X3_cleared_16 (K50 : Int32 → Int32 → Int64 → Option Int64) (q : Int64) (M : eMem) (hK50 : ∀ (v1 : Int32) (v2 : Int32) (v3 : Int64), K50 v1 v2 v3 = some q → Ev layC 1 m_X3_cleared 50 [some (.ref 55), some (.int v1), some (.int v2), some (.long v3), none, none, none, none, none, none] [] M (some (.long q), M)) : ∀ (fuel : Nat) (v1 : Int32) (v2 : Int32) (v3 : Int64) (v5 : Int64) (v7 : Int32), F_X3_cleared_16 K50 fuel M v1 v2 v3 v5 v7 = some q → Ev layC 1 m_X3_cleared 16 [some (.ref 55), some (.int v1), some (.int v2), some (.long v3), none, some (.long v5), none, some (.int v7), none, none] [] M (some (.long q), M) := by
  intro fuel
  induction fuel with
  | zero => intro v1 v2 v3 v5 v7 h; rw [F_X3_cleared_16] at h; cases h
  | succ n ih =>
    intro v1 v2 v3 v5 v7 h
    rw [F_X3_cleared_16] at h
    refine Ev.iload (pc := 16) dX3_cleared_16 rfl ?_
    refine Ev.sipush (pc := 18) dX3_cleared_18 (v := 128) (by decide) ?_
    refine Ev.icmp_ge (pc := 21) (tgt := 50) dX3_cleared_21 (by decide) (fun c9 => ?_) (fun c9 => ?_)
    · have h := eF h c9
      exact Ev.fg (hK50 _ _ _ h) (And.intro rfl (And.intro rfl (And.intro rfl (And.intro rfl trivial))))
    · have h := eT h c9
      refine Ev.lload (pc := 24) dX3_cleared_24 rfl ?_
      refine Ev.lconst (pc := 26) dX3_cleared_26 (v := 0) (by decide) ?_
      refine Ev.lcmp (pc := 27) dX3_cleared_27 ?_
      refine Ev.if_le (pc := 28) (tgt := 50) dX3_cleared_28 (by decide) (fun c9 => ?_) (fun c9 => ?_)
      · have h := eF h c9
        exact Ev.fg (hK50 _ _ _ h) (And.intro rfl (And.intro rfl (And.intro rfl (And.intro rfl trivial))))
      · have h := eT h c9
        refine Ev.lload_n (pc := 31) dX3_cleared_31 rfl ?_
        refine Ev.lload (pc := 32) dX3_cleared_32 rfl ?_
        obtain ⟨g9, h⟩ := eGn h
        refine Ev.lrem (pc := 34) dX3_cleared_34 g9 ?_
        refine Ev.lstore (pc := 35) dX3_cleared_35 (by decide) rfl rfl ?_
        refine Ev.lload (pc := 37) dX3_cleared_37 rfl ?_
        refine Ev.lstore_n (pc := 39) dX3_cleared_39 (by decide) rfl rfl ?_
        refine Ev.lload (pc := 40) dX3_cleared_40 rfl ?_
        refine Ev.lstore (pc := 42) dX3_cleared_42 (by decide) rfl rfl ?_
        refine Ev.iincv (pc := 44) dX3_cleared_44 (v := 1) (by decide) rfl (by decide) rfl rfl ?_
        refine Ev.goto (pc := 47) (tgt := 16) dX3_cleared_47 (by decide) ?_
        exact Ev.fg (ih _ _ _ _ _ h) (And.intro rfl (And.intro rfl (And.intro rfl (And.intro rfl (And.intro rfl (And.intro rfl trivial))))))
def F_X3_cleared (x1 : Int32) (x2 : Int32) (M : eMem) : Option Int64 :=
  eG (eIn x1 4) <|
  (F_X3_sum M).bind fun q1 =>
  F_X3_cleared_16
    (fun v1 v2 v3 =>
      if v2 = 0 then
        eG (eIn v1 4) <|
        if (eMaxL 1 v3) = 0 then none else
        some ((M.2 56 v1.toNatClampNeg) / (eMaxL 1 v3))
      else
        (F_X3_sum M).bind fun q2 =>
        if (eMaxL 1 v3) = 0 then none else
        some (q2 / (eMaxL 1 v3)))
    eFuel M x1 x2 (M.2 56 x1.toNatClampNeg) q1 0
set_option maxRecDepth 100000 in
set_option maxHeartbeats 4000000 in
theorem ev_X3_cleared (x1 : Int32) (x2 : Int32) (M : eMem) (q : Int64) (h : F_X3_cleared x1 x2 M = some q) : Ev layC 1 m_X3_cleared 0 [some (.ref 55), some (.int x1), some (.int x2), none, none, none, none, none, none, none] [] M (some (.long q), M) := by
  rw [F_X3_cleared] at h
  refine Ev.aload_n (pc := 0) dX3_cleared_0 rfl ?_
  refine Ev.getR (pc := 1) dX3_cleared_1 fl_RX3_9 lC_55 rfl ?_
  refine Ev.iload_n (pc := 4) dX3_cleared_4 rfl ?_
  obtain ⟨g9, h⟩ := eGdB h
  refine Ev.laldj (pc := 5) dX3_cleared_5 (j := x1.toNatClampNeg) lC_56 g9 rfl ?_
  refine Ev.lstore_n (pc := 6) dX3_cleared_6 (by decide) rfl rfl ?_
  refine Ev.aload_n (pc := 7) dX3_cleared_7 rfl ?_
  refine eBk h (fun q1 hq1 h => ?_)
  refine Ev.callV (pc := 8) (as := []) (st := []) (z := 3) dX3_cleared_8 wc_X3_sum ml_RX3_94 im_X3_sum se_X3_sum lC_55 rfl rfl (ev_X3_sum  M _ hq1) rfl rfl (by decide) rfl rfl (Nat.le_of_ble_eq_true rfl) ?_
  refine Ev.lstore (pc := 11) dX3_cleared_11 (by decide) rfl rfl ?_
  refine Ev.iconst (pc := 13) dX3_cleared_13 (v := 0) (by decide) ?_
  refine Ev.istore (pc := 14) dX3_cleared_14 (by decide) rfl rfl ?_
  refine Ev.fg (ev_X3_cleared_16 _ _ _ ?_ _ _ _ _ _ _ h) (And.intro rfl (And.intro rfl (And.intro rfl (And.intro rfl (And.intro rfl (And.intro rfl trivial))))))
  · intro v1 v2 v3 h
    refine Ev.iload_n (pc := 50) dX3_cleared_50 rfl ?_
    refine Ev.if_eq (pc := 51) (tgt := 61) dX3_cleared_51 (by decide) (fun c9 => ?_) (fun c9 => ?_)
    · have h := eT h c9
      refine Ev.aload_n (pc := 61) dX3_cleared_61 rfl ?_
      refine Ev.getR (pc := 62) dX3_cleared_62 fl_RX3_9 lC_55 rfl ?_
      refine Ev.iload_n (pc := 65) dX3_cleared_65 rfl ?_
      obtain ⟨g9, h⟩ := eGdB h
      refine Ev.laldj (pc := 66) dX3_cleared_66 (j := v1.toNatClampNeg) lC_56 g9 rfl ?_
      refine Ev.lconst (pc := 67) dX3_cleared_67 (v := 1) (by decide) ?_
      refine Ev.lload_n (pc := 68) dX3_cleared_68 rfl ?_
      refine Ev.mmaxL (pc := 69) dX3_cleared_69 mm_RX3_98 (by decide) (Nat.le_of_ble_eq_true rfl) ?_
      obtain ⟨g9, h⟩ := eGn h
      refine Ev.ldiv (pc := 72) dX3_cleared_72 g9 ?_
      obtain rfl := Option.some.inj h
      exact Ev.lret (pc := 73) dX3_cleared_73 rfl
    · have h := eF h c9
      refine Ev.aload_n (pc := 54) dX3_cleared_54 rfl ?_
      refine eBk h (fun q2 hq2 h => ?_)
      refine Ev.callV (pc := 55) (as := []) (st := []) (z := 3) dX3_cleared_55 wc_X3_sum ml_RX3_94 im_X3_sum se_X3_sum lC_55 rfl rfl (ev_X3_sum  M _ hq2) rfl rfl (by decide) rfl rfl (Nat.le_of_ble_eq_true rfl) ?_
      refine Ev.goto (pc := 58) (tgt := 67) dX3_cleared_58 (by decide) ?_
      refine Ev.lconst (pc := 67) dX3_cleared_67 (v := 1) (by decide) ?_
      refine Ev.lload_n (pc := 68) dX3_cleared_68 rfl ?_
      refine Ev.mmaxL (pc := 69) dX3_cleared_69 mm_RX3_98 (by decide) (Nat.le_of_ble_eq_true rfl) ?_
      obtain ⟨g9, h⟩ := eGn h
      refine Ev.ldiv (pc := 72) dX3_cleared_72 g9 ?_
      obtain rfl := Option.some.inj h
      exact Ev.lret (pc := 73) dX3_cleared_73 rfl
theorem dX9_likely_0 : decode cX9_likely 0 = .ok (.iload_n 1, 1) := by decide +kernel
theorem dX9_likely_1 : decode cX9_likely 1 = .ok (.iconst 4, 1) := by decide +kernel
theorem dX9_likely_2 : decode cX9_likely 2 = .ok (.invokestatic 37, 3) := by decide +kernel
theorem dX9_likely_5 : decode cX9_likely 5 = .ok (.ifCond .ne 11, 3) := by decide +kernel
theorem dX9_likely_8 : decode cX9_likely 8 = .ok (.aload_n 0, 1) := by decide +kernel
theorem dX9_likely_9 : decode cX9_likely 9 = .ok (.ldc 41, 2) := by decide +kernel
theorem dX9_likely_11 : decode cX9_likely 11 = .ok (.invokevirtual 42, 3) := by decide +kernel
theorem dX9_likely_14 : decode cX9_likely 14 = .ok (.i2l, 1) := by decide +kernel
theorem dX9_likely_15 : decode cX9_likely 15 = .ok (.lreturn, 1) := by decide +kernel
theorem dX9_likely_16 : decode cX9_likely 16 = .ok (.aload_n 0, 1) := by decide +kernel
theorem dX9_likely_17 : decode cX9_likely 17 = .ok (.getfield 12, 3) := by decide +kernel
theorem dX9_likely_20 : decode cX9_likely 20 = .ok (.aload_n 0, 1) := by decide +kernel
theorem dX9_likely_21 : decode cX9_likely 21 = .ok (.getfield 12, 3) := by decide +kernel
theorem dX9_likely_24 : decode cX9_likely 24 = .ok (.getfield 46, 3) := by decide +kernel
theorem dX9_likely_27 : decode cX9_likely 27 = .ok (.getfield 99, 3) := by decide +kernel
theorem dX9_likely_30 : decode cX9_likely 30 = .ok (.invokevirtual 271, 3) := by decide +kernel
theorem dX9_likely_33 : decode cX9_likely 33 = .ok (.iload_n 1, 1) := by decide +kernel
theorem dX9_likely_34 : decode cX9_likely 34 = .ok (.iload_n 2, 1) := by decide +kernel
theorem dX9_likely_35 : decode cX9_likely 35 = .ok (.invokevirtual 281, 3) := by decide +kernel
theorem dX9_likely_38 : decode cX9_likely 38 = .ok (.lreturn, 1) := by decide +kernel
def F_X9_likely (x1 : Int32) (x2 : Int32) (M : eMem) : Option (Int64 × eMem) :=
  (F_X9_isIn x1 4).bind fun q1 =>
  if q1 = 0 then
    (F_X9_found (-1000001) M).bind fun q4 =>
    some (q4.1.toInt64, q4.2)
  else
    (F_X8_scalesAt (M.1 2 11) M).bind fun q2 =>
    (F_X3_cleared x1 x2 q2).bind fun q3 =>
    some (q3, q2)
set_option maxRecDepth 100000 in
set_option maxHeartbeats 4000000 in
theorem ev_X9_likely (x1 : Int32) (x2 : Int32) (M : eMem) (q : (Int64 × eMem)) (h : F_X9_likely x1 x2 M = some q) : Ev layC 5 m_X9_likely 0 [some (.ref 0), some (.int x1), some (.int x2)] [] M (some (.long q.1), q.2) := by
  rw [F_X9_likely] at h
  refine Ev.iload_n (pc := 0) dX9_likely_0 rfl ?_
  refine Ev.iconst (pc := 1) dX9_likely_1 (v := 4) (by decide) ?_
  refine eBk h (fun q1 hq1 h => ?_)
  refine Ev.callS (pc := 2) (as := [.int x1, .int 4]) (st := []) (z := 0) dX9_likely_2 wc_X9_isIn ml_RX9_37 sm_X9_isIn (ev_X9_isIn x1 4 M _ hq1) rfl rfl (by decide) rfl rfl (Nat.le_of_ble_eq_true rfl) ?_
  refine Ev.if_ne (pc := 5) (tgt := 16) dX9_likely_5 (by decide) (fun c9 => ?_) (fun c9 => ?_)
  · have h := eF h c9
    refine Ev.aload_n (pc := 16) dX9_likely_16 rfl ?_
    refine Ev.getR (pc := 17) dX9_likely_17 fl_RX9_12 lC_0 rfl ?_
    refine Ev.aload_n (pc := 20) dX9_likely_20 rfl ?_
    refine Ev.getR (pc := 21) dX9_likely_21 fl_RX9_12 lC_0 rfl ?_
    refine Ev.getR (pc := 24) dX9_likely_24 fl_RX9_46 lC_1 rfl ?_
    refine Ev.getI (pc := 27) dX9_likely_27 fl_RX9_99 lC_2 rfl ?_
    refine eBk h (fun q2 hq2 h => ?_)
    refine Ev.callV (pc := 30) (as := [.int (M.1 2 11)]) (st := []) (z := 0) dX9_likely_30 wc_X8_scalesAt ml_RX9_271 im_X8_scalesAt se_X8_scalesAt lC_1 rfl rfl (ev_X8_scalesAt (M.1 2 11) M _ hq2) rfl rfl (by decide) rfl rfl (Nat.le_of_ble_eq_true rfl) ?_
    refine Ev.iload_n (pc := 33) dX9_likely_33 rfl ?_
    refine Ev.iload_n (pc := 34) dX9_likely_34 rfl ?_
    refine eBk h (fun q3 hq3 h => ?_)
    refine Ev.callV (pc := 35) (as := [.int x1, .int x2]) (st := []) (z := 7) dX9_likely_35 wc_X3_cleared ml_RX9_281 im_X3_cleared se_X3_cleared lC_55 rfl rfl (ev_X3_cleared x1 x2 q2 _ hq3) rfl rfl (by decide) rfl rfl (Nat.le_of_ble_eq_true rfl) ?_
    obtain rfl := Option.some.inj h
    exact Ev.lret (pc := 38) dX9_likely_38 rfl
  · have h := eT h c9
    refine Ev.aload_n (pc := 8) dX9_likely_8 rfl ?_
    refine Ev.ldc (pc := 9) dX9_likely_9 ld_RX9_41 ?_
    refine eBk h (fun q4 hq4 h => ?_)
    refine Ev.callV (pc := 11) (as := [.int (-1000001)]) (st := []) (z := 1) dX9_likely_11 wc_X9_found ml_RX9_42 im_X9_found se_X9_found lC_0 rfl rfl (ev_X9_found (-1000001) M _ hq4) rfl rfl (by decide) rfl rfl (Nat.le_of_ble_eq_true rfl) ?_
    refine Ev.i2l (pc := 14) dX9_likely_14 ?_
    obtain rfl := Option.some.inj h
    exact Ev.lret (pc := 15) dX9_likely_15 rfl
theorem dX10_all_0 : decode cX10_all 0 = .ok (.aload_n 0, 1) := by decide +kernel
theorem dX10_all_1 : decode cX10_all 1 = .ok (.getfield 44, 3) := by decide +kernel
theorem dX10_all_4 : decode cX10_all 4 = .ok (.iconst 0, 1) := by decide +kernel
theorem dX10_all_5 : decode cX10_all 5 = .ok (.laload, 1) := by decide +kernel
theorem dX10_all_6 : decode cX10_all 6 = .ok (.aload_n 0, 1) := by decide +kernel
theorem dX10_all_7 : decode cX10_all 7 = .ok (.getfield 44, 3) := by decide +kernel
theorem dX10_all_10 : decode cX10_all 10 = .ok (.iconst 1, 1) := by decide +kernel
theorem dX10_all_11 : decode cX10_all 11 = .ok (.laload, 1) := by decide +kernel
theorem dX10_all_12 : decode cX10_all 12 = .ok (.ladd, 1) := by decide +kernel
theorem dX10_all_13 : decode cX10_all 13 = .ok (.aload_n 0, 1) := by decide +kernel
theorem dX10_all_14 : decode cX10_all 14 = .ok (.getfield 44, 3) := by decide +kernel
theorem dX10_all_17 : decode cX10_all 17 = .ok (.iconst 2, 1) := by decide +kernel
theorem dX10_all_18 : decode cX10_all 18 = .ok (.laload, 1) := by decide +kernel
theorem dX10_all_19 : decode cX10_all 19 = .ok (.ladd, 1) := by decide +kernel
theorem dX10_all_20 : decode cX10_all 20 = .ok (.aload_n 0, 1) := by decide +kernel
theorem dX10_all_21 : decode cX10_all 21 = .ok (.getfield 44, 3) := by decide +kernel
theorem dX10_all_24 : decode cX10_all 24 = .ok (.iconst 3, 1) := by decide +kernel
theorem dX10_all_25 : decode cX10_all 25 = .ok (.laload, 1) := by decide +kernel
theorem dX10_all_26 : decode cX10_all 26 = .ok (.ladd, 1) := by decide +kernel
theorem dX10_all_27 : decode cX10_all 27 = .ok (.lreturn, 1) := by decide +kernel
def F_X10_all  (M : eMem) : Option Int64 :=
  some ((((M.2 12 0) + (M.2 12 1)) + (M.2 12 2)) + (M.2 12 3))
set_option maxRecDepth 100000 in
set_option maxHeartbeats 4000000 in
theorem ev_X10_all  (M : eMem) (q : Int64) (h : F_X10_all  M = some q) : Ev layR 0 m_X10_all 0 [some (.ref 0)] [] M (some (.long q), M) := by
  rw [F_X10_all] at h
  refine Ev.aload_n (pc := 0) dX10_all_0 rfl ?_
  refine Ev.getR (pc := 1) dX10_all_1 fl_RX10_44 lR_0 rfl ?_
  refine Ev.iconst (pc := 4) dX10_all_4 (v := 0) (by decide) ?_
  refine Ev.laldj (pc := 5) dX10_all_5 (j := 0) lR_12 (by decide) (by decide) ?_
  refine Ev.aload_n (pc := 6) dX10_all_6 rfl ?_
  refine Ev.getR (pc := 7) dX10_all_7 fl_RX10_44 lR_0 rfl ?_
  refine Ev.iconst (pc := 10) dX10_all_10 (v := 1) (by decide) ?_
  refine Ev.laldj (pc := 11) dX10_all_11 (j := 1) lR_12 (by decide) (by decide) ?_
  refine Ev.ladd (pc := 12) dX10_all_12 ?_
  refine Ev.aload_n (pc := 13) dX10_all_13 rfl ?_
  refine Ev.getR (pc := 14) dX10_all_14 fl_RX10_44 lR_0 rfl ?_
  refine Ev.iconst (pc := 17) dX10_all_17 (v := 2) (by decide) ?_
  refine Ev.laldj (pc := 18) dX10_all_18 (j := 2) lR_12 (by decide) (by decide) ?_
  refine Ev.ladd (pc := 19) dX10_all_19 ?_
  refine Ev.aload_n (pc := 20) dX10_all_20 rfl ?_
  refine Ev.getR (pc := 21) dX10_all_21 fl_RX10_44 lR_0 rfl ?_
  refine Ev.iconst (pc := 24) dX10_all_24 (v := 3) (by decide) ?_
  refine Ev.laldj (pc := 25) dX10_all_25 (j := 3) lR_12 (by decide) (by decide) ?_
  refine Ev.ladd (pc := 26) dX10_all_26 ?_
  obtain rfl := Option.some.inj h
  exact Ev.lret (pc := 27) dX10_all_27 rfl
theorem dX10_common_0 : decode cX10_common 0 = .ok (.lload_n 0, 1) := by decide +kernel
theorem dX10_common_1 : decode cX10_common 1 = .ok (.lstore 4, 2) := by decide +kernel
theorem dX10_common_3 : decode cX10_common 3 = .ok (.lload_n 2, 1) := by decide +kernel
theorem dX10_common_4 : decode cX10_common 4 = .ok (.lstore 6, 2) := by decide +kernel
theorem dX10_common_6 : decode cX10_common 6 = .ok (.lload 6, 2) := by decide +kernel
theorem dX10_common_8 : decode cX10_common 8 = .ok (.lconst 0, 1) := by decide +kernel
theorem dX10_common_9 : decode cX10_common 9 = .ok (.lcmp, 1) := by decide +kernel
theorem dX10_common_10 : decode cX10_common 10 = .ok (.ifCond .eq 21, 3) := by decide +kernel
theorem dX10_common_13 : decode cX10_common 13 = .ok (.lload 4, 2) := by decide +kernel
theorem dX10_common_15 : decode cX10_common 15 = .ok (.lload 6, 2) := by decide +kernel
theorem dX10_common_17 : decode cX10_common 17 = .ok (.lrem, 1) := by decide +kernel
theorem dX10_common_18 : decode cX10_common 18 = .ok (.lstore 8, 2) := by decide +kernel
theorem dX10_common_20 : decode cX10_common 20 = .ok (.lload 6, 2) := by decide +kernel
theorem dX10_common_22 : decode cX10_common 22 = .ok (.lstore 4, 2) := by decide +kernel
theorem dX10_common_24 : decode cX10_common 24 = .ok (.lload 8, 2) := by decide +kernel
theorem dX10_common_26 : decode cX10_common 26 = .ok (.lstore 6, 2) := by decide +kernel
theorem dX10_common_28 : decode cX10_common 28 = .ok (.goto (-22), 3) := by decide +kernel
theorem dX10_common_31 : decode cX10_common 31 = .ok (.lload 4, 2) := by decide +kernel
theorem dX10_common_33 : decode cX10_common 33 = .ok (.lreturn, 1) := by decide +kernel
def F_X10_common_6  : Nat → Int64 → Int64 → Option Int64
  | 0, _, _ => none
  | n + 1, v4, v6 =>
    if (lg_cmp v6 0) = 0 then
      some v4
    else
      if v6 = 0 then none else
      F_X10_common_6 n v6 (v4 - v4 / v6 * v6)
set_option maxRecDepth 100000 in
set_option maxHeartbeats 4000000 in
theorem ev_X10_common_6 {lay : List eLC}  (q : Int64) (M : eMem)  : ∀ (fuel : Nat) (v4 : Int64) (v6 : Int64), F_X10_common_6 fuel v4 v6 = some q → Ev lay 0 m_X10_common 6 [none, none, none, none, some (.long v4), none, some (.long v6), none, none, none] [] M (some (.long q), M) := by
  intro fuel
  induction fuel with
  | zero => intro v4 v6 h; rw [F_X10_common_6] at h; cases h
  | succ n ih =>
    intro v4 v6 h
    rw [F_X10_common_6] at h
    refine Ev.lload (pc := 6) dX10_common_6 rfl ?_
    refine Ev.lconst (pc := 8) dX10_common_8 (v := 0) (by decide) ?_
    refine Ev.lcmp (pc := 9) dX10_common_9 ?_
    refine Ev.if_eq (pc := 10) (tgt := 31) dX10_common_10 (by decide) (fun c9 => ?_) (fun c9 => ?_)
    · have h := eT h c9
      refine Ev.lload (pc := 31) dX10_common_31 rfl ?_
      obtain rfl := Option.some.inj h
      exact Ev.lret (pc := 33) dX10_common_33 rfl
    · have h := eF h c9
      refine Ev.lload (pc := 13) dX10_common_13 rfl ?_
      refine Ev.lload (pc := 15) dX10_common_15 rfl ?_
      obtain ⟨g9, h⟩ := eGn h
      refine Ev.lrem (pc := 17) dX10_common_17 g9 ?_
      refine Ev.lstore (pc := 18) dX10_common_18 (by decide) rfl rfl ?_
      refine Ev.lload (pc := 20) dX10_common_20 rfl ?_
      refine Ev.lstore (pc := 22) dX10_common_22 (by decide) rfl rfl ?_
      refine Ev.lload (pc := 24) dX10_common_24 rfl ?_
      refine Ev.lstore (pc := 26) dX10_common_26 (by decide) rfl rfl ?_
      refine Ev.goto (pc := 28) (tgt := 6) dX10_common_28 (by decide) ?_
      exact Ev.fg (ih _ _ h) (And.intro rfl (And.intro rfl trivial))
def F_X10_common (x0 : Int64) (x2 : Int64) : Option Int64 :=
  F_X10_common_6 eFuel x0 x2
set_option maxRecDepth 100000 in
set_option maxHeartbeats 4000000 in
theorem ev_X10_common {lay : List eLC} (x0 : Int64) (x2 : Int64) (M : eMem) (q : Int64) (h : F_X10_common x0 x2 = some q) : Ev lay 0 m_X10_common 0 [some (.long x0), none, some (.long x2), none, none, none, none, none, none, none] [] M (some (.long q), M) := by
  rw [F_X10_common] at h
  refine Ev.lload_n (pc := 0) dX10_common_0 rfl ?_
  refine Ev.lstore (pc := 1) dX10_common_1 (by decide) rfl rfl ?_
  refine Ev.lload_n (pc := 3) dX10_common_3 rfl ?_
  refine Ev.lstore (pc := 4) dX10_common_4 (by decide) rfl rfl ?_
  exact Ev.fg (ev_X10_common_6 _ _ _ _ _ h) (And.intro rfl (And.intro rfl trivial))
theorem dX10_likelyOf_0 : decode cX10_likelyOf 0 = .ok (.aload_n 0, 1) := by decide +kernel
theorem dX10_likelyOf_1 : decode cX10_likelyOf 1 = .ok (.getfield 44, 3) := by decide +kernel
theorem dX10_likelyOf_4 : decode cX10_likelyOf 4 = .ok (.iload_n 1, 1) := by decide +kernel
theorem dX10_likelyOf_5 : decode cX10_likelyOf 5 = .ok (.laload, 1) := by decide +kernel
theorem dX10_likelyOf_6 : decode cX10_likelyOf 6 = .ok (.aload_n 0, 1) := by decide +kernel
theorem dX10_likelyOf_7 : decode cX10_likelyOf 7 = .ok (.invokevirtual 161, 3) := by decide +kernel
theorem dX10_likelyOf_10 : decode cX10_likelyOf 10 = .ok (.invokestatic 165, 3) := by decide +kernel
theorem dX10_likelyOf_13 : decode cX10_likelyOf 13 = .ok (.lstore_n 3, 1) := by decide +kernel
theorem dX10_likelyOf_14 : decode cX10_likelyOf 14 = .ok (.iload_n 2, 1) := by decide +kernel
theorem dX10_likelyOf_15 : decode cX10_likelyOf 15 = .ok (.ifCond .eq 10, 3) := by decide +kernel
theorem dX10_likelyOf_18 : decode cX10_likelyOf 18 = .ok (.aload_n 0, 1) := by decide +kernel
theorem dX10_likelyOf_19 : decode cX10_likelyOf 19 = .ok (.invokevirtual 161, 3) := by decide +kernel
theorem dX10_likelyOf_22 : decode cX10_likelyOf 22 = .ok (.goto 9, 3) := by decide +kernel
theorem dX10_likelyOf_25 : decode cX10_likelyOf 25 = .ok (.aload_n 0, 1) := by decide +kernel
theorem dX10_likelyOf_26 : decode cX10_likelyOf 26 = .ok (.getfield 44, 3) := by decide +kernel
theorem dX10_likelyOf_29 : decode cX10_likelyOf 29 = .ok (.iload_n 1, 1) := by decide +kernel
theorem dX10_likelyOf_30 : decode cX10_likelyOf 30 = .ok (.laload, 1) := by decide +kernel
theorem dX10_likelyOf_31 : decode cX10_likelyOf 31 = .ok (.lload_n 3, 1) := by decide +kernel
theorem dX10_likelyOf_32 : decode cX10_likelyOf 32 = .ok (.ldiv, 1) := by decide +kernel
theorem dX10_likelyOf_33 : decode cX10_likelyOf 33 = .ok (.lreturn, 1) := by decide +kernel
def F_X10_likelyOf (x1 : Int32) (x2 : Int32) (M : eMem) : Option Int64 :=
  eG (eIn x1 4) <|
  (F_X10_all M).bind fun q1 =>
  (F_X10_common (M.2 12 x1.toNatClampNeg) q1).bind fun q2 =>
  if x2 = 0 then
    eG (eIn x1 4) <|
    if q2 = 0 then none else
    some ((M.2 12 x1.toNatClampNeg) / q2)
  else
    (F_X10_all M).bind fun q3 =>
    if q2 = 0 then none else
    some (q3 / q2)
set_option maxRecDepth 100000 in
set_option maxHeartbeats 4000000 in
theorem ev_X10_likelyOf (x1 : Int32) (x2 : Int32) (M : eMem) (q : Int64) (h : F_X10_likelyOf x1 x2 M = some q) : Ev layR 1 m_X10_likelyOf 0 [some (.ref 0), some (.int x1), some (.int x2), none, none] [] M (some (.long q), M) := by
  rw [F_X10_likelyOf] at h
  refine Ev.aload_n (pc := 0) dX10_likelyOf_0 rfl ?_
  refine Ev.getR (pc := 1) dX10_likelyOf_1 fl_RX10_44 lR_0 rfl ?_
  refine Ev.iload_n (pc := 4) dX10_likelyOf_4 rfl ?_
  obtain ⟨g9, h⟩ := eGdB h
  refine Ev.laldj (pc := 5) dX10_likelyOf_5 (j := x1.toNatClampNeg) lR_12 g9 rfl ?_
  refine Ev.aload_n (pc := 6) dX10_likelyOf_6 rfl ?_
  refine eBk h (fun q1 hq1 h => ?_)
  refine Ev.callV (pc := 7) (as := []) (st := [.long (M.2 12 x1.toNatClampNeg)]) (z := 0) dX10_likelyOf_7 wc_X10_all ml_RX10_161 im_X10_all se_X10_all lR_0 rfl rfl (ev_X10_all  M _ hq1) rfl rfl (by decide) rfl rfl (Nat.le_of_ble_eq_true rfl) ?_
  refine eBk h (fun q2 hq2 h => ?_)
  refine Ev.callS (pc := 10) (as := [.long (M.2 12 x1.toNatClampNeg), .long q1]) (st := []) (z := 6) dX10_likelyOf_10 wc_X10_common ml_RX10_165 sm_X10_common (ev_X10_common (M.2 12 x1.toNatClampNeg) q1 M _ hq2) rfl rfl (by decide) rfl rfl (Nat.le_of_ble_eq_true rfl) ?_
  refine Ev.lstore_n (pc := 13) dX10_likelyOf_13 (by decide) rfl rfl ?_
  refine Ev.iload_n (pc := 14) dX10_likelyOf_14 rfl ?_
  refine Ev.if_eq (pc := 15) (tgt := 25) dX10_likelyOf_15 (by decide) (fun c9 => ?_) (fun c9 => ?_)
  · have h := eT h c9
    refine Ev.aload_n (pc := 25) dX10_likelyOf_25 rfl ?_
    refine Ev.getR (pc := 26) dX10_likelyOf_26 fl_RX10_44 lR_0 rfl ?_
    refine Ev.iload_n (pc := 29) dX10_likelyOf_29 rfl ?_
    obtain ⟨g9, h⟩ := eGdB h
    refine Ev.laldj (pc := 30) dX10_likelyOf_30 (j := x1.toNatClampNeg) lR_12 g9 rfl ?_
    refine Ev.lload_n (pc := 31) dX10_likelyOf_31 rfl ?_
    obtain ⟨g9, h⟩ := eGn h
    refine Ev.ldiv (pc := 32) dX10_likelyOf_32 g9 ?_
    obtain rfl := Option.some.inj h
    exact Ev.lret (pc := 33) dX10_likelyOf_33 rfl
  · have h := eF h c9
    refine Ev.aload_n (pc := 18) dX10_likelyOf_18 rfl ?_
    refine eBk h (fun q3 hq3 h => ?_)
    refine Ev.callV (pc := 19) (as := []) (st := []) (z := 0) dX10_likelyOf_19 wc_X10_all ml_RX10_161 im_X10_all se_X10_all lR_0 rfl rfl (ev_X10_all  M _ hq3) rfl rfl (by decide) rfl rfl (Nat.le_of_ble_eq_true rfl) ?_
    refine Ev.goto (pc := 22) (tgt := 31) dX10_likelyOf_22 (by decide) ?_
    refine Ev.lload_n (pc := 31) dX10_likelyOf_31 rfl ?_
    obtain ⟨g9, h⟩ := eGn h
    refine Ev.ldiv (pc := 32) dX10_likelyOf_32 g9 ?_
    obtain rfl := Option.some.inj h
    exact Ev.lret (pc := 33) dX10_likelyOf_33 rfl
theorem dX10_likely_0 : decode cX10_likely 0 = .ok (.iload_n 1, 1) := by decide +kernel
theorem dX10_likely_1 : decode cX10_likely 1 = .ok (.invokestatic 99, 3) := by decide +kernel
theorem dX10_likely_4 : decode cX10_likely 4 = .ok (.ifCond .ne 10, 3) := by decide +kernel
theorem dX10_likely_7 : decode cX10_likely 7 = .ok (.aload_n 0, 1) := by decide +kernel
theorem dX10_likely_8 : decode cX10_likely 8 = .ok (.iconst 1, 1) := by decide +kernel
theorem dX10_likely_9 : decode cX10_likely 9 = .ok (.invokevirtual 66, 3) := by decide +kernel
theorem dX10_likely_12 : decode cX10_likely 12 = .ok (.i2l, 1) := by decide +kernel
theorem dX10_likely_13 : decode cX10_likely 13 = .ok (.lreturn, 1) := by decide +kernel
theorem dX10_likely_14 : decode cX10_likely 14 = .ok (.aload_n 0, 1) := by decide +kernel
theorem dX10_likely_15 : decode cX10_likely 15 = .ok (.aload_n 0, 1) := by decide +kernel
theorem dX10_likely_16 : decode cX10_likely 16 = .ok (.getfield 7, 3) := by decide +kernel
theorem dX10_likely_19 : decode cX10_likely 19 = .ok (.iconst 0, 1) := by decide +kernel
theorem dX10_likely_20 : decode cX10_likely 20 = .ok (.iaload, 1) := by decide +kernel
theorem dX10_likely_21 : decode cX10_likely 21 = .ok (.invokevirtual 154, 3) := by decide +kernel
theorem dX10_likely_24 : decode cX10_likely 24 = .ok (.aload_n 0, 1) := by decide +kernel
theorem dX10_likely_25 : decode cX10_likely 25 = .ok (.invokevirtual 158, 3) := by decide +kernel
theorem dX10_likely_28 : decode cX10_likely 28 = .ok (.aload_n 0, 1) := by decide +kernel
theorem dX10_likely_29 : decode cX10_likely 29 = .ok (.iload_n 1, 1) := by decide +kernel
theorem dX10_likely_30 : decode cX10_likely 30 = .ok (.iload_n 2, 1) := by decide +kernel
theorem dX10_likely_31 : decode cX10_likely 31 = .ok (.invokevirtual 169, 3) := by decide +kernel
theorem dX10_likely_34 : decode cX10_likely 34 = .ok (.lreturn, 1) := by decide +kernel
def F_X10_likely (x1 : Int32) (x2 : Int32) (M : eMem) : Option (Int64 × eMem) :=
  (F_X10_isStory x1).bind fun q1 =>
  if q1 = 0 then
    (F_X10_finding 1 M).bind fun q5 =>
    some (q5.1.toInt64, q5.2)
  else
    (F_X10_gather (M.1 1 0) M).bind fun q2 =>
    (F_X10_weigh q2).bind fun q3 =>
    (F_X10_likelyOf x1 x2 q3).bind fun q4 =>
    some (q4, q3)
set_option maxRecDepth 100000 in
set_option maxHeartbeats 4000000 in
theorem ev_X10_likely (x1 : Int32) (x2 : Int32) (M : eMem) (q : (Int64 × eMem)) (h : F_X10_likely x1 x2 M = some q) : Ev layR 3 m_X10_likely 0 [some (.ref 0), some (.int x1), some (.int x2)] [] M (some (.long q.1), q.2) := by
  rw [F_X10_likely] at h
  refine Ev.iload_n (pc := 0) dX10_likely_0 rfl ?_
  refine eBk h (fun q1 hq1 h => ?_)
  refine Ev.callS (pc := 1) (as := [.int x1]) (st := []) (z := 0) dX10_likely_1 wc_X10_isStory ml_RX10_99 sm_X10_isStory (ev_X10_isStory x1 M _ hq1) rfl rfl (by decide) rfl rfl (Nat.le_of_ble_eq_true rfl) ?_
  refine Ev.if_ne (pc := 4) (tgt := 14) dX10_likely_4 (by decide) (fun c9 => ?_) (fun c9 => ?_)
  · have h := eF h c9
    refine Ev.aload_n (pc := 14) dX10_likely_14 rfl ?_
    refine Ev.aload_n (pc := 15) dX10_likely_15 rfl ?_
    refine Ev.getR (pc := 16) dX10_likely_16 fl_RX10_7 lR_0 rfl ?_
    refine Ev.iconst (pc := 19) dX10_likely_19 (v := 0) (by decide) ?_
    refine Ev.ialdj (pc := 20) dX10_likely_20 (j := 0) lR_1 (by decide) (by decide) ?_
    refine eBk h (fun q2 hq2 h => ?_)
    refine Ev.callV (pc := 21) (as := [.int (M.1 1 0)]) (st := []) (z := 1) dX10_likely_21 wc_X10_gather ml_RX10_154 im_X10_gather se_X10_gather lR_0 rfl rfl (ev_X10_gather (M.1 1 0) M _ hq2) rfl rfl (by decide) rfl rfl (Nat.le_of_ble_eq_true rfl) ?_
    refine Ev.aload_n (pc := 24) dX10_likely_24 rfl ?_
    refine eBk h (fun q3 hq3 h => ?_)
    refine Ev.callV (pc := 25) (as := []) (st := []) (z := 4) dX10_likely_25 wc_X10_weigh ml_RX10_158 im_X10_weigh se_X10_weigh lR_0 rfl rfl (ev_X10_weigh  q2 _ hq3) rfl rfl (by decide) rfl rfl (Nat.le_of_ble_eq_true rfl) ?_
    refine Ev.aload_n (pc := 28) dX10_likely_28 rfl ?_
    refine Ev.iload_n (pc := 29) dX10_likely_29 rfl ?_
    refine Ev.iload_n (pc := 30) dX10_likely_30 rfl ?_
    refine eBk h (fun q4 hq4 h => ?_)
    refine Ev.callV (pc := 31) (as := [.int x1, .int x2]) (st := []) (z := 2) dX10_likely_31 wc_X10_likelyOf ml_RX10_169 im_X10_likelyOf se_X10_likelyOf lR_0 rfl rfl (ev_X10_likelyOf x1 x2 q3 _ hq4) rfl rfl (by decide) rfl rfl (Nat.le_of_ble_eq_true rfl) ?_
    obtain rfl := Option.some.inj h
    exact Ev.lret (pc := 34) dX10_likely_34 rfl
  · have h := eT h c9
    refine Ev.aload_n (pc := 7) dX10_likely_7 rfl ?_
    refine Ev.iconst (pc := 8) dX10_likely_8 (v := 1) (by decide) ?_
    refine eBk h (fun q5 hq5 h => ?_)
    refine Ev.callV (pc := 9) (as := [.int 1]) (st := []) (z := 0) dX10_likely_9 wc_X10_finding ml_RX10_66 im_X10_finding se_X10_finding lR_0 rfl rfl (ev_X10_finding 1 M _ hq5) rfl rfl (by decide) rfl rfl (Nat.le_of_ble_eq_true rfl) ?_
    refine Ev.i2l (pc := 12) dX10_likely_12 ?_
    obtain rfl := Option.some.inj h
    exact Ev.lret (pc := 13) dX10_likely_13 rfl
theorem dX3_heaviest_0 : decode cX3_heaviest 0 = .ok (.iconst 0, 1) := by decide +kernel
theorem dX3_heaviest_1 : decode cX3_heaviest 1 = .ok (.istore_n 1, 1) := by decide +kernel
theorem dX3_heaviest_2 : decode cX3_heaviest 2 = .ok (.iconst 1, 1) := by decide +kernel
theorem dX3_heaviest_3 : decode cX3_heaviest 3 = .ok (.istore_n 2, 1) := by decide +kernel
theorem dX3_heaviest_4 : decode cX3_heaviest 4 = .ok (.iload_n 2, 1) := by decide +kernel
theorem dX3_heaviest_5 : decode cX3_heaviest 5 = .ok (.iconst 4, 1) := by decide +kernel
theorem dX3_heaviest_6 : decode cX3_heaviest 6 = .ok (.if_icmp .ge 27, 3) := by decide +kernel
theorem dX3_heaviest_9 : decode cX3_heaviest 9 = .ok (.aload_n 0, 1) := by decide +kernel
theorem dX3_heaviest_10 : decode cX3_heaviest 10 = .ok (.getfield 9, 3) := by decide +kernel
theorem dX3_heaviest_13 : decode cX3_heaviest 13 = .ok (.iload_n 2, 1) := by decide +kernel
theorem dX3_heaviest_14 : decode cX3_heaviest 14 = .ok (.laload, 1) := by decide +kernel
theorem dX3_heaviest_15 : decode cX3_heaviest 15 = .ok (.aload_n 0, 1) := by decide +kernel
theorem dX3_heaviest_16 : decode cX3_heaviest 16 = .ok (.getfield 9, 3) := by decide +kernel
theorem dX3_heaviest_19 : decode cX3_heaviest 19 = .ok (.iload_n 1, 1) := by decide +kernel
theorem dX3_heaviest_20 : decode cX3_heaviest 20 = .ok (.laload, 1) := by decide +kernel
theorem dX3_heaviest_21 : decode cX3_heaviest 21 = .ok (.lcmp, 1) := by decide +kernel
theorem dX3_heaviest_22 : decode cX3_heaviest 22 = .ok (.ifCond .le 5, 3) := by decide +kernel
theorem dX3_heaviest_25 : decode cX3_heaviest 25 = .ok (.iload_n 2, 1) := by decide +kernel
theorem dX3_heaviest_26 : decode cX3_heaviest 26 = .ok (.istore_n 1, 1) := by decide +kernel
theorem dX3_heaviest_27 : decode cX3_heaviest 27 = .ok (.iinc 2 1, 3) := by decide +kernel
theorem dX3_heaviest_30 : decode cX3_heaviest 30 = .ok (.goto (-26), 3) := by decide +kernel
theorem dX3_heaviest_33 : decode cX3_heaviest 33 = .ok (.iload_n 1, 1) := by decide +kernel
theorem dX3_heaviest_34 : decode cX3_heaviest 34 = .ok (.ireturn, 1) := by decide +kernel
def F_X3_heaviest_4  : Nat → eMem → Int32 → Int32 → Option Int32
  | 0, _, _, _ => none
  | n + 1, M, v1, v2 =>
    if v2 < 4 then
      eG (eIn v2 4) <|
      eG (eIn v1 4) <|
      if 0 < (lg_cmp (M.2 56 v2.toNatClampNeg) (M.2 56 v1.toNatClampNeg)) then
        F_X3_heaviest_4 n M v2 (v2 + 1)
      else
        F_X3_heaviest_4 n M v1 (v2 + 1)
    else
      some v1
set_option maxRecDepth 100000 in
set_option maxHeartbeats 4000000 in
theorem ev_X3_heaviest_4  (q : Int32) (M : eMem)  : ∀ (fuel : Nat) (v1 : Int32) (v2 : Int32), F_X3_heaviest_4 fuel M v1 v2 = some q → Ev layC 0 m_X3_heaviest 4 [some (.ref 55), some (.int v1), some (.int v2)] [] M (some (.int q), M) := by
  intro fuel
  induction fuel with
  | zero => intro v1 v2 h; rw [F_X3_heaviest_4] at h; cases h
  | succ n ih =>
    intro v1 v2 h
    rw [F_X3_heaviest_4] at h
    refine Ev.iload_n (pc := 4) dX3_heaviest_4 rfl ?_
    refine Ev.iconst (pc := 5) dX3_heaviest_5 (v := 4) (by decide) ?_
    refine Ev.icmp_ge (pc := 6) (tgt := 33) dX3_heaviest_6 (by decide) (fun c9 => ?_) (fun c9 => ?_)
    · have h := eF h c9
      refine Ev.iload_n (pc := 33) dX3_heaviest_33 rfl ?_
      obtain rfl := Option.some.inj h
      exact Ev.iret (pc := 34) dX3_heaviest_34 rfl rfl
    · have h := eT h c9
      refine Ev.aload_n (pc := 9) dX3_heaviest_9 rfl ?_
      refine Ev.getR (pc := 10) dX3_heaviest_10 fl_RX3_9 lC_55 rfl ?_
      refine Ev.iload_n (pc := 13) dX3_heaviest_13 rfl ?_
      obtain ⟨g9, h⟩ := eGdB h
      refine Ev.laldj (pc := 14) dX3_heaviest_14 (j := v2.toNatClampNeg) lC_56 g9 rfl ?_
      refine Ev.aload_n (pc := 15) dX3_heaviest_15 rfl ?_
      refine Ev.getR (pc := 16) dX3_heaviest_16 fl_RX3_9 lC_55 rfl ?_
      refine Ev.iload_n (pc := 19) dX3_heaviest_19 rfl ?_
      obtain ⟨g9, h⟩ := eGdB h
      refine Ev.laldj (pc := 20) dX3_heaviest_20 (j := v1.toNatClampNeg) lC_56 g9 rfl ?_
      refine Ev.lcmp (pc := 21) dX3_heaviest_21 ?_
      refine Ev.if_le (pc := 22) (tgt := 27) dX3_heaviest_22 (by decide) (fun c9 => ?_) (fun c9 => ?_)
      · have h := eF h c9
        refine Ev.iincv (pc := 27) dX3_heaviest_27 (v := 1) (by decide) rfl (by decide) rfl rfl ?_
        refine Ev.goto (pc := 30) (tgt := 4) dX3_heaviest_30 (by decide) ?_
        exact Ev.fg (ih _ _ h) (And.intro rfl (And.intro rfl (And.intro rfl trivial)))
      · have h := eT h c9
        refine Ev.iload_n (pc := 25) dX3_heaviest_25 rfl ?_
        refine Ev.istore_n (pc := 26) dX3_heaviest_26 (by decide) rfl rfl ?_
        refine Ev.iincv (pc := 27) dX3_heaviest_27 (v := 1) (by decide) rfl (by decide) rfl rfl ?_
        refine Ev.goto (pc := 30) (tgt := 4) dX3_heaviest_30 (by decide) ?_
        exact Ev.fg (ih _ _ h) (And.intro rfl (And.intro rfl (And.intro rfl trivial)))
def F_X3_heaviest  (M : eMem) : Option Int32 :=
  F_X3_heaviest_4 eFuel M 0 1
set_option maxRecDepth 100000 in
set_option maxHeartbeats 4000000 in
theorem ev_X3_heaviest  (M : eMem) (q : Int32) (h : F_X3_heaviest  M = some q) : Ev layC 0 m_X3_heaviest 0 [some (.ref 55), none, none] [] M (some (.int q), M) := by
  rw [F_X3_heaviest] at h
  refine Ev.iconst (pc := 0) dX3_heaviest_0 (v := 0) (by decide) ?_
  refine Ev.istore_n (pc := 1) dX3_heaviest_1 (by decide) rfl rfl ?_
  refine Ev.iconst (pc := 2) dX3_heaviest_2 (v := 1) (by decide) ?_
  refine Ev.istore_n (pc := 3) dX3_heaviest_3 (by decide) rfl rfl ?_
  exact Ev.fg (ev_X3_heaviest_4 _ _ _ _ _ h) (And.intro rfl (And.intro rfl (And.intro rfl trivial)))
theorem dX9_likeliest_0 : decode cX9_likeliest 0 = .ok (.iload_n 1, 1) := by decide +kernel
theorem dX9_likeliest_1 : decode cX9_likeliest 1 = .ok (.iconst 0, 1) := by decide +kernel
theorem dX9_likeliest_2 : decode cX9_likeliest 2 = .ok (.sipush 1943, 3) := by decide +kernel
theorem dX9_likeliest_5 : decode cX9_likeliest 5 = .ok (.invokestatic 55, 3) := by decide +kernel
theorem dX9_likeliest_8 : decode cX9_likeliest 8 = .ok (.ifCond .ne 10, 3) := by decide +kernel
theorem dX9_likeliest_11 : decode cX9_likeliest 11 = .ok (.aload_n 0, 1) := by decide +kernel
theorem dX9_likeliest_12 : decode cX9_likeliest 12 = .ok (.ldc 41, 2) := by decide +kernel
theorem dX9_likeliest_14 : decode cX9_likeliest 14 = .ok (.invokevirtual 42, 3) := by decide +kernel
theorem dX9_likeliest_17 : decode cX9_likeliest 17 = .ok (.ireturn, 1) := by decide +kernel
theorem dX9_likeliest_18 : decode cX9_likeliest 18 = .ok (.aload_n 0, 1) := by decide +kernel
theorem dX9_likeliest_19 : decode cX9_likeliest 19 = .ok (.getfield 12, 3) := by decide +kernel
theorem dX9_likeliest_22 : decode cX9_likeliest 22 = .ok (.iload_n 1, 1) := by decide +kernel
theorem dX9_likeliest_23 : decode cX9_likeliest 23 = .ok (.invokevirtual 271, 3) := by decide +kernel
theorem dX9_likeliest_26 : decode cX9_likeliest 26 = .ok (.invokevirtual 285, 3) := by decide +kernel
theorem dX9_likeliest_29 : decode cX9_likeliest 29 = .ok (.ireturn, 1) := by decide +kernel
def F_X9_likeliest (x1 : Int32) (M : eMem) : Option (Int32 × eMem) :=
  (F_X9_isBetween x1 0 1943).bind fun q1 =>
  if q1 = 0 then
    (F_X9_found (-1000001) M).bind fun q4 =>
    some (q4.1, q4.2)
  else
    (F_X8_scalesAt x1 M).bind fun q2 =>
    (F_X3_heaviest q2).bind fun q3 =>
    some (q3, q2)
set_option maxRecDepth 100000 in
set_option maxHeartbeats 4000000 in
theorem ev_X9_likeliest (x1 : Int32) (M : eMem) (q : (Int32 × eMem)) (h : F_X9_likeliest x1 M = some q) : Ev layC 5 m_X9_likeliest 0 [some (.ref 0), some (.int x1)] [] M (some (.int q.1), q.2) := by
  rw [F_X9_likeliest] at h
  refine Ev.iload_n (pc := 0) dX9_likeliest_0 rfl ?_
  refine Ev.iconst (pc := 1) dX9_likeliest_1 (v := 0) (by decide) ?_
  refine Ev.sipush (pc := 2) dX9_likeliest_2 (v := 1943) (by decide) ?_
  refine eBk h (fun q1 hq1 h => ?_)
  refine Ev.callS (pc := 5) (as := [.int x1, .int 0, .int 1943]) (st := []) (z := 0) dX9_likeliest_5 wc_X9_isBetween ml_RX9_55 sm_X9_isBetween (ev_X9_isBetween x1 0 1943 M _ hq1) rfl rfl (by decide) rfl rfl (Nat.le_of_ble_eq_true rfl) ?_
  refine Ev.if_ne (pc := 8) (tgt := 18) dX9_likeliest_8 (by decide) (fun c9 => ?_) (fun c9 => ?_)
  · have h := eF h c9
    refine Ev.aload_n (pc := 18) dX9_likeliest_18 rfl ?_
    refine Ev.getR (pc := 19) dX9_likeliest_19 fl_RX9_12 lC_0 rfl ?_
    refine Ev.iload_n (pc := 22) dX9_likeliest_22 rfl ?_
    refine eBk h (fun q2 hq2 h => ?_)
    refine Ev.callV (pc := 23) (as := [.int x1]) (st := []) (z := 0) dX9_likeliest_23 wc_X8_scalesAt ml_RX9_271 im_X8_scalesAt se_X8_scalesAt lC_1 rfl rfl (ev_X8_scalesAt x1 M _ hq2) rfl rfl (by decide) rfl rfl (Nat.le_of_ble_eq_true rfl) ?_
    refine eBk h (fun q3 hq3 h => ?_)
    refine Ev.callV (pc := 26) (as := []) (st := []) (z := 2) dX9_likeliest_26 wc_X3_heaviest ml_RX9_285 im_X3_heaviest se_X3_heaviest lC_55 rfl rfl (ev_X3_heaviest  q2 _ hq3) rfl rfl (by decide) rfl rfl (Nat.le_of_ble_eq_true rfl) ?_
    obtain rfl := Option.some.inj h
    exact Ev.iret (pc := 29) dX9_likeliest_29 rfl rfl
  · have h := eT h c9
    refine Ev.aload_n (pc := 11) dX9_likeliest_11 rfl ?_
    refine Ev.ldc (pc := 12) dX9_likeliest_12 ld_RX9_41 ?_
    refine eBk h (fun q4 hq4 h => ?_)
    refine Ev.callV (pc := 14) (as := [.int (-1000001)]) (st := []) (z := 1) dX9_likeliest_14 wc_X9_found ml_RX9_42 im_X9_found se_X9_found lC_0 rfl rfl (ev_X9_found (-1000001) M _ hq4) rfl rfl (by decide) rfl rfl (Nat.le_of_ble_eq_true rfl) ?_
    obtain rfl := Option.some.inj h
    exact Ev.iret (pc := 17) dX9_likeliest_17 rfl rfl
theorem dX10_greatest_0 : decode cX10_greatest 0 = .ok (.iconst 0, 1) := by decide +kernel
theorem dX10_greatest_1 : decode cX10_greatest 1 = .ok (.istore_n 1, 1) := by decide +kernel
theorem dX10_greatest_2 : decode cX10_greatest 2 = .ok (.iconst 1, 1) := by decide +kernel
theorem dX10_greatest_3 : decode cX10_greatest 3 = .ok (.istore_n 2, 1) := by decide +kernel
theorem dX10_greatest_4 : decode cX10_greatest 4 = .ok (.iload_n 2, 1) := by decide +kernel
theorem dX10_greatest_5 : decode cX10_greatest 5 = .ok (.iconst 4, 1) := by decide +kernel
theorem dX10_greatest_6 : decode cX10_greatest 6 = .ok (.if_icmp .ge 31, 3) := by decide +kernel
theorem dX10_greatest_9 : decode cX10_greatest 9 = .ok (.aload_n 0, 1) := by decide +kernel
theorem dX10_greatest_10 : decode cX10_greatest 10 = .ok (.getfield 44, 3) := by decide +kernel
theorem dX10_greatest_13 : decode cX10_greatest 13 = .ok (.iload_n 2, 1) := by decide +kernel
theorem dX10_greatest_14 : decode cX10_greatest 14 = .ok (.laload, 1) := by decide +kernel
theorem dX10_greatest_15 : decode cX10_greatest 15 = .ok (.aload_n 0, 1) := by decide +kernel
theorem dX10_greatest_16 : decode cX10_greatest 16 = .ok (.getfield 44, 3) := by decide +kernel
theorem dX10_greatest_19 : decode cX10_greatest 19 = .ok (.iload_n 1, 1) := by decide +kernel
theorem dX10_greatest_20 : decode cX10_greatest 20 = .ok (.laload, 1) := by decide +kernel
theorem dX10_greatest_21 : decode cX10_greatest 21 = .ok (.lcmp, 1) := by decide +kernel
theorem dX10_greatest_22 : decode cX10_greatest 22 = .ok (.ifCond .le 7, 3) := by decide +kernel
theorem dX10_greatest_25 : decode cX10_greatest 25 = .ok (.iload_n 2, 1) := by decide +kernel
theorem dX10_greatest_26 : decode cX10_greatest 26 = .ok (.goto 4, 3) := by decide +kernel
theorem dX10_greatest_29 : decode cX10_greatest 29 = .ok (.iload_n 1, 1) := by decide +kernel
theorem dX10_greatest_30 : decode cX10_greatest 30 = .ok (.istore_n 1, 1) := by decide +kernel
theorem dX10_greatest_31 : decode cX10_greatest 31 = .ok (.iinc 2 1, 3) := by decide +kernel
theorem dX10_greatest_34 : decode cX10_greatest 34 = .ok (.goto (-30), 3) := by decide +kernel
theorem dX10_greatest_37 : decode cX10_greatest 37 = .ok (.iload_n 1, 1) := by decide +kernel
theorem dX10_greatest_38 : decode cX10_greatest 38 = .ok (.ireturn, 1) := by decide +kernel
def F_X10_greatest_4  : Nat → eMem → Int32 → Int32 → Option Int32
  | 0, _, _, _ => none
  | n + 1, M, v1, v2 =>
    if v2 < 4 then
      eG (eIn v2 4) <|
      eG (eIn v1 4) <|
      if 0 < (lg_cmp (M.2 12 v2.toNatClampNeg) (M.2 12 v1.toNatClampNeg)) then
        F_X10_greatest_4 n M v2 (v2 + 1)
      else
        F_X10_greatest_4 n M v1 (v2 + 1)
    else
      some v1
set_option maxRecDepth 100000 in
set_option maxHeartbeats 4000000 in
theorem ev_X10_greatest_4  (q : Int32) (M : eMem)  : ∀ (fuel : Nat) (v1 : Int32) (v2 : Int32), F_X10_greatest_4 fuel M v1 v2 = some q → Ev layR 0 m_X10_greatest 4 [some (.ref 0), some (.int v1), some (.int v2)] [] M (some (.int q), M) := by
  intro fuel
  induction fuel with
  | zero => intro v1 v2 h; rw [F_X10_greatest_4] at h; cases h
  | succ n ih =>
    intro v1 v2 h
    rw [F_X10_greatest_4] at h
    refine Ev.iload_n (pc := 4) dX10_greatest_4 rfl ?_
    refine Ev.iconst (pc := 5) dX10_greatest_5 (v := 4) (by decide) ?_
    refine Ev.icmp_ge (pc := 6) (tgt := 37) dX10_greatest_6 (by decide) (fun c9 => ?_) (fun c9 => ?_)
    · have h := eF h c9
      refine Ev.iload_n (pc := 37) dX10_greatest_37 rfl ?_
      obtain rfl := Option.some.inj h
      exact Ev.iret (pc := 38) dX10_greatest_38 rfl rfl
    · have h := eT h c9
      refine Ev.aload_n (pc := 9) dX10_greatest_9 rfl ?_
      refine Ev.getR (pc := 10) dX10_greatest_10 fl_RX10_44 lR_0 rfl ?_
      refine Ev.iload_n (pc := 13) dX10_greatest_13 rfl ?_
      obtain ⟨g9, h⟩ := eGdB h
      refine Ev.laldj (pc := 14) dX10_greatest_14 (j := v2.toNatClampNeg) lR_12 g9 rfl ?_
      refine Ev.aload_n (pc := 15) dX10_greatest_15 rfl ?_
      refine Ev.getR (pc := 16) dX10_greatest_16 fl_RX10_44 lR_0 rfl ?_
      refine Ev.iload_n (pc := 19) dX10_greatest_19 rfl ?_
      obtain ⟨g9, h⟩ := eGdB h
      refine Ev.laldj (pc := 20) dX10_greatest_20 (j := v1.toNatClampNeg) lR_12 g9 rfl ?_
      refine Ev.lcmp (pc := 21) dX10_greatest_21 ?_
      refine Ev.if_le (pc := 22) (tgt := 29) dX10_greatest_22 (by decide) (fun c9 => ?_) (fun c9 => ?_)
      · have h := eF h c9
        refine Ev.iload_n (pc := 29) dX10_greatest_29 rfl ?_
        refine Ev.istore_n (pc := 30) dX10_greatest_30 (by decide) rfl rfl ?_
        refine Ev.iincv (pc := 31) dX10_greatest_31 (v := 1) (by decide) rfl (by decide) rfl rfl ?_
        refine Ev.goto (pc := 34) (tgt := 4) dX10_greatest_34 (by decide) ?_
        exact Ev.fg (ih _ _ h) (And.intro rfl (And.intro rfl (And.intro rfl trivial)))
      · have h := eT h c9
        refine Ev.iload_n (pc := 25) dX10_greatest_25 rfl ?_
        refine Ev.goto (pc := 26) (tgt := 30) dX10_greatest_26 (by decide) ?_
        refine Ev.istore_n (pc := 30) dX10_greatest_30 (by decide) rfl rfl ?_
        refine Ev.iincv (pc := 31) dX10_greatest_31 (v := 1) (by decide) rfl (by decide) rfl rfl ?_
        refine Ev.goto (pc := 34) (tgt := 4) dX10_greatest_34 (by decide) ?_
        exact Ev.fg (ih _ _ h) (And.intro rfl (And.intro rfl (And.intro rfl trivial)))
def F_X10_greatest  (M : eMem) : Option Int32 :=
  F_X10_greatest_4 eFuel M 0 1
set_option maxRecDepth 100000 in
set_option maxHeartbeats 4000000 in
theorem ev_X10_greatest  (M : eMem) (q : Int32) (h : F_X10_greatest  M = some q) : Ev layR 0 m_X10_greatest 0 [some (.ref 0), none, none] [] M (some (.int q), M) := by
  rw [F_X10_greatest] at h
  refine Ev.iconst (pc := 0) dX10_greatest_0 (v := 0) (by decide) ?_
  refine Ev.istore_n (pc := 1) dX10_greatest_1 (by decide) rfl rfl ?_
  refine Ev.iconst (pc := 2) dX10_greatest_2 (v := 1) (by decide) ?_
  refine Ev.istore_n (pc := 3) dX10_greatest_3 (by decide) rfl rfl ?_
  exact Ev.fg (ev_X10_greatest_4 _ _ _ _ _ h) (And.intro rfl (And.intro rfl (And.intro rfl trivial)))
theorem dX10_likeliest_0 : decode cX10_likeliest 0 = .ok (.iload_n 1, 1) := by decide +kernel
theorem dX10_likeliest_1 : decode cX10_likeliest 1 = .ok (.invokestatic 127, 3) := by decide +kernel
theorem dX10_likeliest_4 : decode cX10_likeliest 4 = .ok (.ifCond .ne 9, 3) := by decide +kernel
theorem dX10_likeliest_7 : decode cX10_likeliest 7 = .ok (.aload_n 0, 1) := by decide +kernel
theorem dX10_likeliest_8 : decode cX10_likeliest 8 = .ok (.iconst 1, 1) := by decide +kernel
theorem dX10_likeliest_9 : decode cX10_likeliest 9 = .ok (.invokevirtual 66, 3) := by decide +kernel
theorem dX10_likeliest_12 : decode cX10_likeliest 12 = .ok (.ireturn, 1) := by decide +kernel
theorem dX10_likeliest_13 : decode cX10_likeliest 13 = .ok (.aload_n 0, 1) := by decide +kernel
theorem dX10_likeliest_14 : decode cX10_likeliest 14 = .ok (.iload_n 1, 1) := by decide +kernel
theorem dX10_likeliest_15 : decode cX10_likeliest 15 = .ok (.invokevirtual 154, 3) := by decide +kernel
theorem dX10_likeliest_18 : decode cX10_likeliest 18 = .ok (.aload_n 0, 1) := by decide +kernel
theorem dX10_likeliest_19 : decode cX10_likeliest 19 = .ok (.invokevirtual 158, 3) := by decide +kernel
theorem dX10_likeliest_22 : decode cX10_likeliest 22 = .ok (.aload_n 0, 1) := by decide +kernel
theorem dX10_likeliest_23 : decode cX10_likeliest 23 = .ok (.invokevirtual 173, 3) := by decide +kernel
theorem dX10_likeliest_26 : decode cX10_likeliest 26 = .ok (.ireturn, 1) := by decide +kernel
def F_X10_likeliest (x1 : Int32) (M : eMem) : Option (Int32 × eMem) :=
  (F_X10_isHour x1).bind fun q1 =>
  if q1 = 0 then
    (F_X10_finding 1 M).bind fun q5 =>
    some (q5.1, q5.2)
  else
    (F_X10_gather x1 M).bind fun q2 =>
    (F_X10_weigh q2).bind fun q3 =>
    (F_X10_greatest q3).bind fun q4 =>
    some (q4, q3)
set_option maxRecDepth 100000 in
set_option maxHeartbeats 4000000 in
theorem ev_X10_likeliest (x1 : Int32) (M : eMem) (q : (Int32 × eMem)) (h : F_X10_likeliest x1 M = some q) : Ev layR 3 m_X10_likeliest 0 [some (.ref 0), some (.int x1)] [] M (some (.int q.1), q.2) := by
  rw [F_X10_likeliest] at h
  refine Ev.iload_n (pc := 0) dX10_likeliest_0 rfl ?_
  refine eBk h (fun q1 hq1 h => ?_)
  refine Ev.callS (pc := 1) (as := [.int x1]) (st := []) (z := 0) dX10_likeliest_1 wc_X10_isHour ml_RX10_127 sm_X10_isHour (ev_X10_isHour x1 M _ hq1) rfl rfl (by decide) rfl rfl (Nat.le_of_ble_eq_true rfl) ?_
  refine Ev.if_ne (pc := 4) (tgt := 13) dX10_likeliest_4 (by decide) (fun c9 => ?_) (fun c9 => ?_)
  · have h := eF h c9
    refine Ev.aload_n (pc := 13) dX10_likeliest_13 rfl ?_
    refine Ev.iload_n (pc := 14) dX10_likeliest_14 rfl ?_
    refine eBk h (fun q2 hq2 h => ?_)
    refine Ev.callV (pc := 15) (as := [.int x1]) (st := []) (z := 1) dX10_likeliest_15 wc_X10_gather ml_RX10_154 im_X10_gather se_X10_gather lR_0 rfl rfl (ev_X10_gather x1 M _ hq2) rfl rfl (by decide) rfl rfl (Nat.le_of_ble_eq_true rfl) ?_
    refine Ev.aload_n (pc := 18) dX10_likeliest_18 rfl ?_
    refine eBk h (fun q3 hq3 h => ?_)
    refine Ev.callV (pc := 19) (as := []) (st := []) (z := 4) dX10_likeliest_19 wc_X10_weigh ml_RX10_158 im_X10_weigh se_X10_weigh lR_0 rfl rfl (ev_X10_weigh  q2 _ hq3) rfl rfl (by decide) rfl rfl (Nat.le_of_ble_eq_true rfl) ?_
    refine Ev.aload_n (pc := 22) dX10_likeliest_22 rfl ?_
    refine eBk h (fun q4 hq4 h => ?_)
    refine Ev.callV (pc := 23) (as := []) (st := []) (z := 2) dX10_likeliest_23 wc_X10_greatest ml_RX10_173 im_X10_greatest se_X10_greatest lR_0 rfl rfl (ev_X10_greatest  q3 _ hq4) rfl rfl (by decide) rfl rfl (Nat.le_of_ble_eq_true rfl) ?_
    obtain rfl := Option.some.inj h
    exact Ev.iret (pc := 26) dX10_likeliest_26 rfl rfl
  · have h := eT h c9
    refine Ev.aload_n (pc := 7) dX10_likeliest_7 rfl ?_
    refine Ev.iconst (pc := 8) dX10_likeliest_8 (v := 1) (by decide) ?_
    refine eBk h (fun q5 hq5 h => ?_)
    refine Ev.callV (pc := 9) (as := [.int 1]) (st := []) (z := 0) dX10_likeliest_9 wc_X10_finding ml_RX10_66 im_X10_finding se_X10_finding lR_0 rfl rfl (ev_X10_finding 1 M _ hq5) rfl rfl (by decide) rfl rfl (Nat.le_of_ble_eq_true rfl) ?_
    obtain rfl := Option.some.inj h
    exact Ev.iret (pc := 12) dX10_likeliest_12 rfl rfl
theorem dX9_counted_0 : decode cX9_counted 0 = .ok (.iload_n 1, 1) := by decide +kernel
theorem dX9_counted_1 : decode cX9_counted 1 = .ok (.iconst 0, 1) := by decide +kernel
theorem dX9_counted_2 : decode cX9_counted 2 = .ok (.sipush 1943, 3) := by decide +kernel
theorem dX9_counted_5 : decode cX9_counted 5 = .ok (.invokestatic 55, 3) := by decide +kernel
theorem dX9_counted_8 : decode cX9_counted 8 = .ok (.ifCond .ne 10, 3) := by decide +kernel
theorem dX9_counted_11 : decode cX9_counted 11 = .ok (.aload_n 0, 1) := by decide +kernel
theorem dX9_counted_12 : decode cX9_counted 12 = .ok (.ldc 41, 2) := by decide +kernel
theorem dX9_counted_14 : decode cX9_counted 14 = .ok (.invokevirtual 42, 3) := by decide +kernel
theorem dX9_counted_17 : decode cX9_counted 17 = .ok (.ireturn, 1) := by decide +kernel
theorem dX9_counted_18 : decode cX9_counted 18 = .ok (.aload_n 0, 1) := by decide +kernel
theorem dX9_counted_19 : decode cX9_counted 19 = .ok (.getfield 12, 3) := by decide +kernel
theorem dX9_counted_22 : decode cX9_counted 22 = .ok (.iload_n 1, 1) := by decide +kernel
theorem dX9_counted_23 : decode cX9_counted 23 = .ok (.invokevirtual 271, 3) := by decide +kernel
theorem dX9_counted_26 : decode cX9_counted 26 = .ok (.getfield 288, 3) := by decide +kernel
theorem dX9_counted_29 : decode cX9_counted 29 = .ok (.ireturn, 1) := by decide +kernel
def F_X9_counted (x1 : Int32) (M : eMem) : Option (Int32 × eMem) :=
  (F_X9_isBetween x1 0 1943).bind fun q1 =>
  if q1 = 0 then
    (F_X9_found (-1000001) M).bind fun q3 =>
    some (q3.1, q3.2)
  else
    (F_X8_scalesAt x1 M).bind fun q2 =>
    some ((q2.1 55 2), q2)
set_option maxRecDepth 100000 in
set_option maxHeartbeats 4000000 in
theorem ev_X9_counted (x1 : Int32) (M : eMem) (q : (Int32 × eMem)) (h : F_X9_counted x1 M = some q) : Ev layC 5 m_X9_counted 0 [some (.ref 0), some (.int x1)] [] M (some (.int q.1), q.2) := by
  rw [F_X9_counted] at h
  refine Ev.iload_n (pc := 0) dX9_counted_0 rfl ?_
  refine Ev.iconst (pc := 1) dX9_counted_1 (v := 0) (by decide) ?_
  refine Ev.sipush (pc := 2) dX9_counted_2 (v := 1943) (by decide) ?_
  refine eBk h (fun q1 hq1 h => ?_)
  refine Ev.callS (pc := 5) (as := [.int x1, .int 0, .int 1943]) (st := []) (z := 0) dX9_counted_5 wc_X9_isBetween ml_RX9_55 sm_X9_isBetween (ev_X9_isBetween x1 0 1943 M _ hq1) rfl rfl (by decide) rfl rfl (Nat.le_of_ble_eq_true rfl) ?_
  refine Ev.if_ne (pc := 8) (tgt := 18) dX9_counted_8 (by decide) (fun c9 => ?_) (fun c9 => ?_)
  · have h := eF h c9
    refine Ev.aload_n (pc := 18) dX9_counted_18 rfl ?_
    refine Ev.getR (pc := 19) dX9_counted_19 fl_RX9_12 lC_0 rfl ?_
    refine Ev.iload_n (pc := 22) dX9_counted_22 rfl ?_
    refine eBk h (fun q2 hq2 h => ?_)
    refine Ev.callV (pc := 23) (as := [.int x1]) (st := []) (z := 0) dX9_counted_23 wc_X8_scalesAt ml_RX9_271 im_X8_scalesAt se_X8_scalesAt lC_1 rfl rfl (ev_X8_scalesAt x1 M _ hq2) rfl rfl (by decide) rfl rfl (Nat.le_of_ble_eq_true rfl) ?_
    refine Ev.getI (pc := 26) dX9_counted_26 fl_RX9_288 lC_55 rfl ?_
    obtain rfl := Option.some.inj h
    exact Ev.iret (pc := 29) dX9_counted_29 rfl rfl
  · have h := eT h c9
    refine Ev.aload_n (pc := 11) dX9_counted_11 rfl ?_
    refine Ev.ldc (pc := 12) dX9_counted_12 ld_RX9_41 ?_
    refine eBk h (fun q3 hq3 h => ?_)
    refine Ev.callV (pc := 14) (as := [.int (-1000001)]) (st := []) (z := 1) dX9_counted_14 wc_X9_found ml_RX9_42 im_X9_found se_X9_found lC_0 rfl rfl (ev_X9_found (-1000001) M _ hq3) rfl rfl (by decide) rfl rfl (Nat.le_of_ble_eq_true rfl) ?_
    obtain rfl := Option.some.inj h
    exact Ev.iret (pc := 17) dX9_counted_17 rfl rfl
theorem dX10_counted_0 : decode cX10_counted 0 = .ok (.iload_n 1, 1) := by decide +kernel
theorem dX10_counted_1 : decode cX10_counted 1 = .ok (.invokestatic 127, 3) := by decide +kernel
theorem dX10_counted_4 : decode cX10_counted 4 = .ok (.ifCond .ne 9, 3) := by decide +kernel
theorem dX10_counted_7 : decode cX10_counted 7 = .ok (.aload_n 0, 1) := by decide +kernel
theorem dX10_counted_8 : decode cX10_counted 8 = .ok (.iconst 1, 1) := by decide +kernel
theorem dX10_counted_9 : decode cX10_counted 9 = .ok (.invokevirtual 66, 3) := by decide +kernel
theorem dX10_counted_12 : decode cX10_counted 12 = .ok (.ireturn, 1) := by decide +kernel
theorem dX10_counted_13 : decode cX10_counted 13 = .ok (.aload_n 0, 1) := by decide +kernel
theorem dX10_counted_14 : decode cX10_counted 14 = .ok (.iload_n 1, 1) := by decide +kernel
theorem dX10_counted_15 : decode cX10_counted 15 = .ok (.invokevirtual 154, 3) := by decide +kernel
theorem dX10_counted_18 : decode cX10_counted 18 = .ok (.aload_n 0, 1) := by decide +kernel
theorem dX10_counted_19 : decode cX10_counted 19 = .ok (.getfield 146, 3) := by decide +kernel
theorem dX10_counted_22 : decode cX10_counted 22 = .ok (.bipush 12, 2) := by decide +kernel
theorem dX10_counted_24 : decode cX10_counted 24 = .ok (.if_icmp .ge 10, 3) := by decide +kernel
theorem dX10_counted_27 : decode cX10_counted 27 = .ok (.aload_n 0, 1) := by decide +kernel
theorem dX10_counted_28 : decode cX10_counted 28 = .ok (.getfield 146, 3) := by decide +kernel
theorem dX10_counted_31 : decode cX10_counted 31 = .ok (.goto 5, 3) := by decide +kernel
theorem dX10_counted_34 : decode cX10_counted 34 = .ok (.bipush 12, 2) := by decide +kernel
theorem dX10_counted_36 : decode cX10_counted 36 = .ok (.ireturn, 1) := by decide +kernel
def F_X10_counted (x1 : Int32) (M : eMem) : Option (Int32 × eMem) :=
  (F_X10_isHour x1).bind fun q1 =>
  if q1 = 0 then
    (F_X10_finding 1 M).bind fun q3 =>
    some (q3.1, q3.2)
  else
    (F_X10_gather x1 M).bind fun q2 =>
    if (q2.1 0 13) < 12 then
      some ((q2.1 0 13), q2)
    else
      some (12, q2)
set_option maxRecDepth 100000 in
set_option maxHeartbeats 4000000 in
theorem ev_X10_counted (x1 : Int32) (M : eMem) (q : (Int32 × eMem)) (h : F_X10_counted x1 M = some q) : Ev layR 3 m_X10_counted 0 [some (.ref 0), some (.int x1)] [] M (some (.int q.1), q.2) := by
  rw [F_X10_counted] at h
  refine Ev.iload_n (pc := 0) dX10_counted_0 rfl ?_
  refine eBk h (fun q1 hq1 h => ?_)
  refine Ev.callS (pc := 1) (as := [.int x1]) (st := []) (z := 0) dX10_counted_1 wc_X10_isHour ml_RX10_127 sm_X10_isHour (ev_X10_isHour x1 M _ hq1) rfl rfl (by decide) rfl rfl (Nat.le_of_ble_eq_true rfl) ?_
  refine Ev.if_ne (pc := 4) (tgt := 13) dX10_counted_4 (by decide) (fun c9 => ?_) (fun c9 => ?_)
  · have h := eF h c9
    refine Ev.aload_n (pc := 13) dX10_counted_13 rfl ?_
    refine Ev.iload_n (pc := 14) dX10_counted_14 rfl ?_
    refine eBk h (fun q2 hq2 h => ?_)
    refine Ev.callV (pc := 15) (as := [.int x1]) (st := []) (z := 1) dX10_counted_15 wc_X10_gather ml_RX10_154 im_X10_gather se_X10_gather lR_0 rfl rfl (ev_X10_gather x1 M _ hq2) rfl rfl (by decide) rfl rfl (Nat.le_of_ble_eq_true rfl) ?_
    refine Ev.aload_n (pc := 18) dX10_counted_18 rfl ?_
    refine Ev.getI (pc := 19) dX10_counted_19 fl_RX10_146 lR_0 rfl ?_
    refine Ev.bipush (pc := 22) dX10_counted_22 (v := 12) (by decide) ?_
    refine Ev.icmp_ge (pc := 24) (tgt := 34) dX10_counted_24 (by decide) (fun c9 => ?_) (fun c9 => ?_)
    · have h := eF h c9
      refine Ev.bipush (pc := 34) dX10_counted_34 (v := 12) (by decide) ?_
      obtain rfl := Option.some.inj h
      exact Ev.iret (pc := 36) dX10_counted_36 rfl rfl
    · have h := eT h c9
      refine Ev.aload_n (pc := 27) dX10_counted_27 rfl ?_
      refine Ev.getI (pc := 28) dX10_counted_28 fl_RX10_146 lR_0 rfl ?_
      refine Ev.goto (pc := 31) (tgt := 36) dX10_counted_31 (by decide) ?_
      obtain rfl := Option.some.inj h
      exact Ev.iret (pc := 36) dX10_counted_36 rfl rfl
  · have h := eT h c9
    refine Ev.aload_n (pc := 7) dX10_counted_7 rfl ?_
    refine Ev.iconst (pc := 8) dX10_counted_8 (v := 1) (by decide) ?_
    refine eBk h (fun q3 hq3 h => ?_)
    refine Ev.callV (pc := 9) (as := [.int 1]) (st := []) (z := 0) dX10_counted_9 wc_X10_finding ml_RX10_66 im_X10_finding se_X10_finding lR_0 rfl rfl (ev_X10_finding 1 M _ hq3) rfl rfl (by decide) rfl rfl (Nat.le_of_ble_eq_true rfl) ?_
    obtain rfl := Option.some.inj h
    exact Ev.iret (pc := 12) dX10_counted_12 rfl rfl
theorem dX9_troops_0 : decode cX9_troops 0 = .ok (.iload_n 1, 1) := by decide +kernel
theorem dX9_troops_1 : decode cX9_troops 1 = .ok (.iconst 0, 1) := by decide +kernel
theorem dX9_troops_2 : decode cX9_troops 2 = .ok (.sipush 900, 3) := by decide +kernel
theorem dX9_troops_5 : decode cX9_troops 5 = .ok (.invokestatic 55, 3) := by decide +kernel
theorem dX9_troops_8 : decode cX9_troops 8 = .ok (.ifCond .ne 10, 3) := by decide +kernel
theorem dX9_troops_11 : decode cX9_troops 11 = .ok (.aload_n 0, 1) := by decide +kernel
theorem dX9_troops_12 : decode cX9_troops 12 = .ok (.ldc 41, 2) := by decide +kernel
theorem dX9_troops_14 : decode cX9_troops 14 = .ok (.invokevirtual 42, 3) := by decide +kernel
theorem dX9_troops_17 : decode cX9_troops 17 = .ok (.ireturn, 1) := by decide +kernel
theorem dX9_troops_18 : decode cX9_troops 18 = .ok (.aload_n 0, 1) := by decide +kernel
theorem dX9_troops_19 : decode cX9_troops 19 = .ok (.getfield 12, 3) := by decide +kernel
theorem dX9_troops_22 : decode cX9_troops 22 = .ok (.getfield 212, 3) := by decide +kernel
theorem dX9_troops_25 : decode cX9_troops 25 = .ok (.getfield 289, 3) := by decide +kernel
theorem dX9_troops_28 : decode cX9_troops 28 = .ok (.istore_n 2, 1) := by decide +kernel
theorem dX9_troops_29 : decode cX9_troops 29 = .ok (.aload_n 0, 1) := by decide +kernel
theorem dX9_troops_30 : decode cX9_troops 30 = .ok (.getfield 12, 3) := by decide +kernel
theorem dX9_troops_33 : decode cX9_troops 33 = .ok (.getfield 212, 3) := by decide +kernel
theorem dX9_troops_36 : decode cX9_troops 36 = .ok (.iload_n 1, 1) := by decide +kernel
theorem dX9_troops_37 : decode cX9_troops 37 = .ok (.putfield 289, 3) := by decide +kernel
theorem dX9_troops_40 : decode cX9_troops 40 = .ok (.iload_n 2, 1) := by decide +kernel
theorem dX9_troops_41 : decode cX9_troops 41 = .ok (.ireturn, 1) := by decide +kernel
def F_X9_troops (x1 : Int32) (M : eMem) : Option (Int32 × eMem) :=
  (F_X9_isBetween x1 0 900).bind fun q1 =>
  if q1 = 0 then
    (F_X9_found (-1000001) M).bind fun q2 =>
    some (q2.1, q2.2)
  else
    some ((M.1 29 9), (eI M 29 9 x1))
set_option maxRecDepth 100000 in
set_option maxHeartbeats 4000000 in
theorem ev_X9_troops (x1 : Int32) (M : eMem) (q : (Int32 × eMem)) (h : F_X9_troops x1 M = some q) : Ev layC 2 m_X9_troops 0 [some (.ref 0), some (.int x1), none] [] M (some (.int q.1), q.2) := by
  rw [F_X9_troops] at h
  refine Ev.iload_n (pc := 0) dX9_troops_0 rfl ?_
  refine Ev.iconst (pc := 1) dX9_troops_1 (v := 0) (by decide) ?_
  refine Ev.sipush (pc := 2) dX9_troops_2 (v := 900) (by decide) ?_
  refine eBk h (fun q1 hq1 h => ?_)
  refine Ev.callS (pc := 5) (as := [.int x1, .int 0, .int 900]) (st := []) (z := 0) dX9_troops_5 wc_X9_isBetween ml_RX9_55 sm_X9_isBetween (ev_X9_isBetween x1 0 900 M _ hq1) rfl rfl (by decide) rfl rfl (Nat.le_of_ble_eq_true rfl) ?_
  refine Ev.if_ne (pc := 8) (tgt := 18) dX9_troops_8 (by decide) (fun c9 => ?_) (fun c9 => ?_)
  · have h := eF h c9
    refine Ev.aload_n (pc := 18) dX9_troops_18 rfl ?_
    refine Ev.getR (pc := 19) dX9_troops_19 fl_RX9_12 lC_0 rfl ?_
    refine Ev.getR (pc := 22) dX9_troops_22 fl_RX9_212 lC_1 rfl ?_
    refine Ev.getI (pc := 25) dX9_troops_25 fl_RX9_289 lC_29 rfl ?_
    refine Ev.istore_n (pc := 28) dX9_troops_28 (by decide) rfl rfl ?_
    refine Ev.aload_n (pc := 29) dX9_troops_29 rfl ?_
    refine Ev.getR (pc := 30) dX9_troops_30 fl_RX9_12 lC_0 rfl ?_
    refine Ev.getR (pc := 33) dX9_troops_33 fl_RX9_212 lC_1 rfl ?_
    refine Ev.iload_n (pc := 36) dX9_troops_36 rfl ?_
    refine Ev.putI (pc := 37) dX9_troops_37 fp_RX9_289 lC_29 rfl rfl rfl ?_
    refine Ev.iload_n (pc := 40) dX9_troops_40 rfl ?_
    obtain rfl := Option.some.inj h
    exact Ev.iret (pc := 41) dX9_troops_41 rfl rfl
  · have h := eT h c9
    refine Ev.aload_n (pc := 11) dX9_troops_11 rfl ?_
    refine Ev.ldc (pc := 12) dX9_troops_12 ld_RX9_41 ?_
    refine eBk h (fun q2 hq2 h => ?_)
    refine Ev.callV (pc := 14) (as := [.int (-1000001)]) (st := []) (z := 1) dX9_troops_14 wc_X9_found ml_RX9_42 im_X9_found se_X9_found lC_0 rfl rfl (ev_X9_found (-1000001) M _ hq2) rfl rfl (by decide) rfl rfl (Nat.le_of_ble_eq_true rfl) ?_
    obtain rfl := Option.some.inj h
    exact Ev.iret (pc := 17) dX9_troops_17 rfl rfl
theorem dX10_troops_0 : decode cX10_troops 0 = .ok (.iload_n 1, 1) := by decide +kernel
theorem dX10_troops_1 : decode cX10_troops 1 = .ok (.iconst 0, 1) := by decide +kernel
theorem dX10_troops_2 : decode cX10_troops 2 = .ok (.sipush 900, 3) := by decide +kernel
theorem dX10_troops_5 : decode cX10_troops 5 = .ok (.invokestatic 58, 3) := by decide +kernel
theorem dX10_troops_8 : decode cX10_troops 8 = .ok (.ifCond .ne 9, 3) := by decide +kernel
theorem dX10_troops_11 : decode cX10_troops 11 = .ok (.aload_n 0, 1) := by decide +kernel
theorem dX10_troops_12 : decode cX10_troops 12 = .ok (.iconst 1, 1) := by decide +kernel
theorem dX10_troops_13 : decode cX10_troops 13 = .ok (.invokevirtual 66, 3) := by decide +kernel
theorem dX10_troops_16 : decode cX10_troops 16 = .ok (.ireturn, 1) := by decide +kernel
theorem dX10_troops_17 : decode cX10_troops 17 = .ok (.aload_n 0, 1) := by decide +kernel
theorem dX10_troops_18 : decode cX10_troops 18 = .ok (.getfield 7, 3) := by decide +kernel
theorem dX10_troops_21 : decode cX10_troops 21 = .ok (.bipush 6, 2) := by decide +kernel
theorem dX10_troops_23 : decode cX10_troops 23 = .ok (.iaload, 1) := by decide +kernel
theorem dX10_troops_24 : decode cX10_troops 24 = .ok (.istore_n 2, 1) := by decide +kernel
theorem dX10_troops_25 : decode cX10_troops 25 = .ok (.aload_n 0, 1) := by decide +kernel
theorem dX10_troops_26 : decode cX10_troops 26 = .ok (.getfield 7, 3) := by decide +kernel
theorem dX10_troops_29 : decode cX10_troops 29 = .ok (.bipush 6, 2) := by decide +kernel
theorem dX10_troops_31 : decode cX10_troops 31 = .ok (.iload_n 1, 1) := by decide +kernel
theorem dX10_troops_32 : decode cX10_troops 32 = .ok (.iastore, 1) := by decide +kernel
theorem dX10_troops_33 : decode cX10_troops 33 = .ok (.iload_n 2, 1) := by decide +kernel
theorem dX10_troops_34 : decode cX10_troops 34 = .ok (.ireturn, 1) := by decide +kernel
def F_X10_troops (x1 : Int32) (M : eMem) : Option (Int32 × eMem) :=
  (F_X10_in x1 0 900).bind fun q1 =>
  if q1 = 0 then
    (F_X10_finding 1 M).bind fun q2 =>
    some (q2.1, q2.2)
  else
    some ((M.1 1 6), (eI M 1 6 x1))
set_option maxRecDepth 100000 in
set_option maxHeartbeats 4000000 in
theorem ev_X10_troops (x1 : Int32) (M : eMem) (q : (Int32 × eMem)) (h : F_X10_troops x1 M = some q) : Ev layR 1 m_X10_troops 0 [some (.ref 0), some (.int x1), none] [] M (some (.int q.1), q.2) := by
  rw [F_X10_troops] at h
  refine Ev.iload_n (pc := 0) dX10_troops_0 rfl ?_
  refine Ev.iconst (pc := 1) dX10_troops_1 (v := 0) (by decide) ?_
  refine Ev.sipush (pc := 2) dX10_troops_2 (v := 900) (by decide) ?_
  refine eBk h (fun q1 hq1 h => ?_)
  refine Ev.callS (pc := 5) (as := [.int x1, .int 0, .int 900]) (st := []) (z := 0) dX10_troops_5 wc_X10_in ml_RX10_58 sm_X10_in (ev_X10_in x1 0 900 M _ hq1) rfl rfl (by decide) rfl rfl (Nat.le_of_ble_eq_true rfl) ?_
  refine Ev.if_ne (pc := 8) (tgt := 17) dX10_troops_8 (by decide) (fun c9 => ?_) (fun c9 => ?_)
  · have h := eF h c9
    refine Ev.aload_n (pc := 17) dX10_troops_17 rfl ?_
    refine Ev.getR (pc := 18) dX10_troops_18 fl_RX10_7 lR_0 rfl ?_
    refine Ev.bipush (pc := 21) dX10_troops_21 (v := 6) (by decide) ?_
    refine Ev.ialdj (pc := 23) dX10_troops_23 (j := 6) lR_1 (by decide) (by decide) ?_
    refine Ev.istore_n (pc := 24) dX10_troops_24 (by decide) rfl rfl ?_
    refine Ev.aload_n (pc := 25) dX10_troops_25 rfl ?_
    refine Ev.getR (pc := 26) dX10_troops_26 fl_RX10_7 lR_0 rfl ?_
    refine Ev.bipush (pc := 29) dX10_troops_29 (v := 6) (by decide) ?_
    refine Ev.iload_n (pc := 31) dX10_troops_31 rfl ?_
    refine Ev.iastj (pc := 32) dX10_troops_32 (j := 6) lR_1 (by decide) (by decide) ?_
    refine Ev.iload_n (pc := 33) dX10_troops_33 rfl ?_
    obtain rfl := Option.some.inj h
    exact Ev.iret (pc := 34) dX10_troops_34 rfl rfl
  · have h := eT h c9
    refine Ev.aload_n (pc := 11) dX10_troops_11 rfl ?_
    refine Ev.iconst (pc := 12) dX10_troops_12 (v := 1) (by decide) ?_
    refine eBk h (fun q2 hq2 h => ?_)
    refine Ev.callV (pc := 13) (as := [.int 1]) (st := []) (z := 0) dX10_troops_13 wc_X10_finding ml_RX10_66 im_X10_finding se_X10_finding lR_0 rfl rfl (ev_X10_finding 1 M _ hq2) rfl rfl (by decide) rfl rfl (Nat.le_of_ble_eq_true rfl) ?_
    obtain rfl := Option.some.inj h
    exact Ev.iret (pc := 16) dX10_troops_16 rfl rfl
theorem dX1_greatestRest_0 : decode cX1_greatestRest 0 = .ok (.iconst 0, 1) := by decide +kernel
theorem dX1_greatestRest_1 : decode cX1_greatestRest 1 = .ok (.istore_n 1, 1) := by decide +kernel
theorem dX1_greatestRest_2 : decode cX1_greatestRest 2 = .ok (.iconst 1, 1) := by decide +kernel
theorem dX1_greatestRest_3 : decode cX1_greatestRest 3 = .ok (.istore_n 2, 1) := by decide +kernel
theorem dX1_greatestRest_4 : decode cX1_greatestRest 4 = .ok (.iload_n 2, 1) := by decide +kernel
theorem dX1_greatestRest_5 : decode cX1_greatestRest 5 = .ok (.iconst 4, 1) := by decide +kernel
theorem dX1_greatestRest_6 : decode cX1_greatestRest 6 = .ok (.if_icmp .ge 27, 3) := by decide +kernel
theorem dX1_greatestRest_9 : decode cX1_greatestRest 9 = .ok (.aload_n 0, 1) := by decide +kernel
theorem dX1_greatestRest_10 : decode cX1_greatestRest 10 = .ok (.getfield 41, 3) := by decide +kernel
theorem dX1_greatestRest_13 : decode cX1_greatestRest 13 = .ok (.iload_n 2, 1) := by decide +kernel
theorem dX1_greatestRest_14 : decode cX1_greatestRest 14 = .ok (.laload, 1) := by decide +kernel
theorem dX1_greatestRest_15 : decode cX1_greatestRest 15 = .ok (.aload_n 0, 1) := by decide +kernel
theorem dX1_greatestRest_16 : decode cX1_greatestRest 16 = .ok (.getfield 41, 3) := by decide +kernel
theorem dX1_greatestRest_19 : decode cX1_greatestRest 19 = .ok (.iload_n 1, 1) := by decide +kernel
theorem dX1_greatestRest_20 : decode cX1_greatestRest 20 = .ok (.laload, 1) := by decide +kernel
theorem dX1_greatestRest_21 : decode cX1_greatestRest 21 = .ok (.lcmp, 1) := by decide +kernel
theorem dX1_greatestRest_22 : decode cX1_greatestRest 22 = .ok (.ifCond .le 5, 3) := by decide +kernel
theorem dX1_greatestRest_25 : decode cX1_greatestRest 25 = .ok (.iload_n 2, 1) := by decide +kernel
theorem dX1_greatestRest_26 : decode cX1_greatestRest 26 = .ok (.istore_n 1, 1) := by decide +kernel
theorem dX1_greatestRest_27 : decode cX1_greatestRest 27 = .ok (.iinc 2 1, 3) := by decide +kernel
theorem dX1_greatestRest_30 : decode cX1_greatestRest 30 = .ok (.goto (-26), 3) := by decide +kernel
theorem dX1_greatestRest_33 : decode cX1_greatestRest 33 = .ok (.iload_n 1, 1) := by decide +kernel
theorem dX1_greatestRest_34 : decode cX1_greatestRest 34 = .ok (.ireturn, 1) := by decide +kernel
def F_X1_greatestRest_4  : Nat → eMem → Int32 → Int32 → Option Int32
  | 0, _, _, _ => none
  | n + 1, M, v1, v2 =>
    if v2 < 4 then
      eG (eIn v2 4) <|
      eG (eIn v1 4) <|
      if 0 < (lg_cmp (M.2 38 v2.toNatClampNeg) (M.2 38 v1.toNatClampNeg)) then
        F_X1_greatestRest_4 n M v2 (v2 + 1)
      else
        F_X1_greatestRest_4 n M v1 (v2 + 1)
    else
      some v1
set_option maxRecDepth 100000 in
set_option maxHeartbeats 4000000 in
theorem ev_X1_greatestRest_4  (q : Int32) (M : eMem)  : ∀ (fuel : Nat) (v1 : Int32) (v2 : Int32), F_X1_greatestRest_4 fuel M v1 v2 = some q → Ev layC 0 m_X1_greatestRest 4 [some (.ref 29), some (.int v1), some (.int v2)] [] M (some (.int q), M) := by
  intro fuel
  induction fuel with
  | zero => intro v1 v2 h; rw [F_X1_greatestRest_4] at h; cases h
  | succ n ih =>
    intro v1 v2 h
    rw [F_X1_greatestRest_4] at h
    refine Ev.iload_n (pc := 4) dX1_greatestRest_4 rfl ?_
    refine Ev.iconst (pc := 5) dX1_greatestRest_5 (v := 4) (by decide) ?_
    refine Ev.icmp_ge (pc := 6) (tgt := 33) dX1_greatestRest_6 (by decide) (fun c9 => ?_) (fun c9 => ?_)
    · have h := eF h c9
      refine Ev.iload_n (pc := 33) dX1_greatestRest_33 rfl ?_
      obtain rfl := Option.some.inj h
      exact Ev.iret (pc := 34) dX1_greatestRest_34 rfl rfl
    · have h := eT h c9
      refine Ev.aload_n (pc := 9) dX1_greatestRest_9 rfl ?_
      refine Ev.getR (pc := 10) dX1_greatestRest_10 fl_RX1_41 lC_29 rfl ?_
      refine Ev.iload_n (pc := 13) dX1_greatestRest_13 rfl ?_
      obtain ⟨g9, h⟩ := eGdB h
      refine Ev.laldj (pc := 14) dX1_greatestRest_14 (j := v2.toNatClampNeg) lC_38 g9 rfl ?_
      refine Ev.aload_n (pc := 15) dX1_greatestRest_15 rfl ?_
      refine Ev.getR (pc := 16) dX1_greatestRest_16 fl_RX1_41 lC_29 rfl ?_
      refine Ev.iload_n (pc := 19) dX1_greatestRest_19 rfl ?_
      obtain ⟨g9, h⟩ := eGdB h
      refine Ev.laldj (pc := 20) dX1_greatestRest_20 (j := v1.toNatClampNeg) lC_38 g9 rfl ?_
      refine Ev.lcmp (pc := 21) dX1_greatestRest_21 ?_
      refine Ev.if_le (pc := 22) (tgt := 27) dX1_greatestRest_22 (by decide) (fun c9 => ?_) (fun c9 => ?_)
      · have h := eF h c9
        refine Ev.iincv (pc := 27) dX1_greatestRest_27 (v := 1) (by decide) rfl (by decide) rfl rfl ?_
        refine Ev.goto (pc := 30) (tgt := 4) dX1_greatestRest_30 (by decide) ?_
        exact Ev.fg (ih _ _ h) (And.intro rfl (And.intro rfl (And.intro rfl trivial)))
      · have h := eT h c9
        refine Ev.iload_n (pc := 25) dX1_greatestRest_25 rfl ?_
        refine Ev.istore_n (pc := 26) dX1_greatestRest_26 (by decide) rfl rfl ?_
        refine Ev.iincv (pc := 27) dX1_greatestRest_27 (v := 1) (by decide) rfl (by decide) rfl rfl ?_
        refine Ev.goto (pc := 30) (tgt := 4) dX1_greatestRest_30 (by decide) ?_
        exact Ev.fg (ih _ _ h) (And.intro rfl (And.intro rfl (And.intro rfl trivial)))
def F_X1_greatestRest  (M : eMem) : Option Int32 :=
  F_X1_greatestRest_4 eFuel M 0 1
set_option maxRecDepth 100000 in
set_option maxHeartbeats 4000000 in
theorem ev_X1_greatestRest  (M : eMem) (q : Int32) (h : F_X1_greatestRest  M = some q) : Ev layC 0 m_X1_greatestRest 0 [some (.ref 29), none, none] [] M (some (.int q), M) := by
  rw [F_X1_greatestRest] at h
  refine Ev.iconst (pc := 0) dX1_greatestRest_0 (v := 0) (by decide) ?_
  refine Ev.istore_n (pc := 1) dX1_greatestRest_1 (by decide) rfl rfl ?_
  refine Ev.iconst (pc := 2) dX1_greatestRest_2 (v := 1) (by decide) ?_
  refine Ev.istore_n (pc := 3) dX1_greatestRest_3 (by decide) rfl rfl ?_
  exact Ev.fg (ev_X1_greatestRest_4 _ _ _ _ _ h) (And.intro rfl (And.intro rfl (And.intro rfl trivial)))
theorem dX1_part_0 : decode cX1_part 0 = .ok (.lconst 1, 1) := by decide +kernel
theorem dX1_part_1 : decode cX1_part 1 = .ok (.aload_n 1, 1) := by decide +kernel
theorem dX1_part_2 : decode cX1_part 2 = .ok (.invokevirtual 64, 3) := by decide +kernel
theorem dX1_part_5 : decode cX1_part 5 = .ok (.invokestatic 70, 3) := by decide +kernel
theorem dX1_part_8 : decode cX1_part 8 = .ok (.lstore_n 2, 1) := by decide +kernel
theorem dX1_part_9 : decode cX1_part 9 = .ok (.aload_n 0, 1) := by decide +kernel
theorem dX1_part_10 : decode cX1_part 10 = .ok (.getfield 76, 3) := by decide +kernel
theorem dX1_part_13 : decode cX1_part 13 = .ok (.istore 4, 2) := by decide +kernel
theorem dX1_part_15 : decode cX1_part 15 = .ok (.iconst 0, 1) := by decide +kernel
theorem dX1_part_16 : decode cX1_part 16 = .ok (.istore 5, 2) := by decide +kernel
theorem dX1_part_18 : decode cX1_part 18 = .ok (.iload 5, 2) := by decide +kernel
theorem dX1_part_20 : decode cX1_part 20 = .ok (.iconst 4, 1) := by decide +kernel
theorem dX1_part_21 : decode cX1_part 21 = .ok (.if_icmp .ge 59, 3) := by decide +kernel
theorem dX1_part_24 : decode cX1_part 24 = .ok (.aload_n 0, 1) := by decide +kernel
theorem dX1_part_25 : decode cX1_part 25 = .ok (.getfield 76, 3) := by decide +kernel
theorem dX1_part_28 : decode cX1_part 28 = .ok (.i2l, 1) := by decide +kernel
theorem dX1_part_29 : decode cX1_part 29 = .ok (.aload_n 1, 1) := by decide +kernel
theorem dX1_part_30 : decode cX1_part 30 = .ok (.getfield 79, 3) := by decide +kernel
theorem dX1_part_33 : decode cX1_part 33 = .ok (.iload 5, 2) := by decide +kernel
theorem dX1_part_35 : decode cX1_part 35 = .ok (.laload, 1) := by decide +kernel
theorem dX1_part_36 : decode cX1_part 36 = .ok (.lmul, 1) := by decide +kernel
theorem dX1_part_37 : decode cX1_part 37 = .ok (.lstore 6, 2) := by decide +kernel
theorem dX1_part_39 : decode cX1_part 39 = .ok (.aload_n 0, 1) := by decide +kernel
theorem dX1_part_40 : decode cX1_part 40 = .ok (.getfield 45, 3) := by decide +kernel
theorem dX1_part_43 : decode cX1_part 43 = .ok (.iload 5, 2) := by decide +kernel
theorem dX1_part_45 : decode cX1_part 45 = .ok (.lload 6, 2) := by decide +kernel
theorem dX1_part_47 : decode cX1_part 47 = .ok (.lload_n 2, 1) := by decide +kernel
theorem dX1_part_48 : decode cX1_part 48 = .ok (.ldiv, 1) := by decide +kernel
theorem dX1_part_49 : decode cX1_part 49 = .ok (.l2i, 1) := by decide +kernel
theorem dX1_part_50 : decode cX1_part 50 = .ok (.iastore, 1) := by decide +kernel
theorem dX1_part_51 : decode cX1_part 51 = .ok (.aload_n 0, 1) := by decide +kernel
theorem dX1_part_52 : decode cX1_part 52 = .ok (.getfield 41, 3) := by decide +kernel
theorem dX1_part_55 : decode cX1_part 55 = .ok (.iload 5, 2) := by decide +kernel
theorem dX1_part_57 : decode cX1_part 57 = .ok (.lload 6, 2) := by decide +kernel
theorem dX1_part_59 : decode cX1_part 59 = .ok (.lload_n 2, 1) := by decide +kernel
theorem dX1_part_60 : decode cX1_part 60 = .ok (.lrem, 1) := by decide +kernel
theorem dX1_part_61 : decode cX1_part 61 = .ok (.lastore, 1) := by decide +kernel
theorem dX1_part_62 : decode cX1_part 62 = .ok (.iload 4, 2) := by decide +kernel
theorem dX1_part_64 : decode cX1_part 64 = .ok (.aload_n 0, 1) := by decide +kernel
theorem dX1_part_65 : decode cX1_part 65 = .ok (.getfield 45, 3) := by decide +kernel
theorem dX1_part_68 : decode cX1_part 68 = .ok (.iload 5, 2) := by decide +kernel
theorem dX1_part_70 : decode cX1_part 70 = .ok (.iaload, 1) := by decide +kernel
theorem dX1_part_71 : decode cX1_part 71 = .ok (.isub, 1) := by decide +kernel
theorem dX1_part_72 : decode cX1_part 72 = .ok (.istore 4, 2) := by decide +kernel
theorem dX1_part_74 : decode cX1_part 74 = .ok (.iinc 5 1, 3) := by decide +kernel
theorem dX1_part_77 : decode cX1_part 77 = .ok (.goto (-59), 3) := by decide +kernel
theorem dX1_part_80 : decode cX1_part 80 = .ok (.iconst 0, 1) := by decide +kernel
theorem dX1_part_81 : decode cX1_part 81 = .ok (.istore 5, 2) := by decide +kernel
theorem dX1_part_83 : decode cX1_part 83 = .ok (.iload 5, 2) := by decide +kernel
theorem dX1_part_85 : decode cX1_part 85 = .ok (.iconst 4, 1) := by decide +kernel
theorem dX1_part_86 : decode cX1_part 86 = .ok (.if_icmp .ge 44, 3) := by decide +kernel
theorem dX1_part_89 : decode cX1_part 89 = .ok (.iload 4, 2) := by decide +kernel
theorem dX1_part_91 : decode cX1_part 91 = .ok (.ifCond .le 39, 3) := by decide +kernel
theorem dX1_part_94 : decode cX1_part 94 = .ok (.aload_n 0, 1) := by decide +kernel
theorem dX1_part_95 : decode cX1_part 95 = .ok (.invokevirtual 82, 3) := by decide +kernel
theorem dX1_part_98 : decode cX1_part 98 = .ok (.istore 6, 2) := by decide +kernel
theorem dX1_part_100 : decode cX1_part 100 = .ok (.aload_n 0, 1) := by decide +kernel
theorem dX1_part_101 : decode cX1_part 101 = .ok (.getfield 45, 3) := by decide +kernel
theorem dX1_part_104 : decode cX1_part 104 = .ok (.iload 6, 2) := by decide +kernel
theorem dX1_part_106 : decode cX1_part 106 = .ok (.dup2, 1) := by decide +kernel
theorem dX1_part_107 : decode cX1_part 107 = .ok (.iaload, 1) := by decide +kernel
theorem dX1_part_108 : decode cX1_part 108 = .ok (.iconst 1, 1) := by decide +kernel
theorem dX1_part_109 : decode cX1_part 109 = .ok (.iadd, 1) := by decide +kernel
theorem dX1_part_110 : decode cX1_part 110 = .ok (.iastore, 1) := by decide +kernel
theorem dX1_part_111 : decode cX1_part 111 = .ok (.aload_n 0, 1) := by decide +kernel
theorem dX1_part_112 : decode cX1_part 112 = .ok (.getfield 41, 3) := by decide +kernel
theorem dX1_part_115 : decode cX1_part 115 = .ok (.iload 6, 2) := by decide +kernel
theorem dX1_part_117 : decode cX1_part 117 = .ok (.ldc2_w 86, 3) := by decide +kernel
theorem dX1_part_120 : decode cX1_part 120 = .ok (.lastore, 1) := by decide +kernel
theorem dX1_part_121 : decode cX1_part 121 = .ok (.iinc 4 (-1), 3) := by decide +kernel
theorem dX1_part_124 : decode cX1_part 124 = .ok (.iinc 5 1, 3) := by decide +kernel
theorem dX1_part_127 : decode cX1_part 127 = .ok (.goto (-44), 3) := by decide +kernel
theorem dX1_part_130 : decode cX1_part 130 = .ok (.iconst 0, 1) := by decide +kernel
theorem dX1_part_131 : decode cX1_part 131 = .ok (.istore 5, 2) := by decide +kernel
theorem dX1_part_133 : decode cX1_part 133 = .ok (.iconst 0, 1) := by decide +kernel
theorem dX1_part_134 : decode cX1_part 134 = .ok (.istore 6, 2) := by decide +kernel
theorem dX1_part_136 : decode cX1_part 136 = .ok (.iload 6, 2) := by decide +kernel
theorem dX1_part_138 : decode cX1_part 138 = .ok (.iconst 4, 1) := by decide +kernel
theorem dX1_part_139 : decode cX1_part 139 = .ok (.if_icmp .ge 43, 3) := by decide +kernel
theorem dX1_part_142 : decode cX1_part 142 = .ok (.aload_n 0, 1) := by decide +kernel
theorem dX1_part_143 : decode cX1_part 143 = .ok (.getfield 38, 3) := by decide +kernel
theorem dX1_part_146 : decode cX1_part 146 = .ok (.iload 6, 2) := by decide +kernel
theorem dX1_part_148 : decode cX1_part 148 = .ok (.iaload, 1) := by decide +kernel
theorem dX1_part_149 : decode cX1_part 149 = .ok (.aload_n 0, 1) := by decide +kernel
theorem dX1_part_150 : decode cX1_part 150 = .ok (.getfield 45, 3) := by decide +kernel
theorem dX1_part_153 : decode cX1_part 153 = .ok (.iload 6, 2) := by decide +kernel
theorem dX1_part_155 : decode cX1_part 155 = .ok (.iaload, 1) := by decide +kernel
theorem dX1_part_156 : decode cX1_part 156 = .ok (.if_icmp .eq 6, 3) := by decide +kernel
theorem dX1_part_159 : decode cX1_part 159 = .ok (.iinc 5 1, 3) := by decide +kernel
theorem dX1_part_162 : decode cX1_part 162 = .ok (.aload_n 0, 1) := by decide +kernel
theorem dX1_part_163 : decode cX1_part 163 = .ok (.getfield 38, 3) := by decide +kernel
theorem dX1_part_166 : decode cX1_part 166 = .ok (.iload 6, 2) := by decide +kernel
theorem dX1_part_168 : decode cX1_part 168 = .ok (.aload_n 0, 1) := by decide +kernel
theorem dX1_part_169 : decode cX1_part 169 = .ok (.getfield 45, 3) := by decide +kernel
theorem dX1_part_172 : decode cX1_part 172 = .ok (.iload 6, 2) := by decide +kernel
theorem dX1_part_174 : decode cX1_part 174 = .ok (.iaload, 1) := by decide +kernel
theorem dX1_part_175 : decode cX1_part 175 = .ok (.iastore, 1) := by decide +kernel
theorem dX1_part_176 : decode cX1_part 176 = .ok (.iinc 6 1, 3) := by decide +kernel
theorem dX1_part_179 : decode cX1_part 179 = .ok (.goto (-43), 3) := by decide +kernel
theorem dX1_part_182 : decode cX1_part 182 = .ok (.iload 5, 2) := by decide +kernel
theorem dX1_part_184 : decode cX1_part 184 = .ok (.ireturn, 1) := by decide +kernel
def F_X1_part_18 (K80 : Int32 → eMem → Option (Int32 × eMem)) : Nat → Int64 → Int32 → Int32 → eMem → Option (Int32 × eMem)
  | 0, _, _, _, _ => none
  | n + 1, v2, v4, v5, M =>
    if v5 < 4 then
      eG (eIn v5 4) <|
      if v2 = 0 then none else
      eG (eIn v5 4) <|
      if v2 = 0 then none else
      eG (eIn v5 4) <|
      eG (eIn v5 4) <|
      F_X1_part_18 K80 n v2 (v4 - (((M.1 29 9).toInt64 * (M.2 56 v5.toNatClampNeg)) / v2).toInt32) (v5 + 1) (eJ (eI M 39 v5.toNatClampNeg (((M.1 29 9).toInt64 * (M.2 56 v5.toNatClampNeg)) / v2).toInt32) 38 v5.toNatClampNeg (((M.1 29 9).toInt64 * (M.2 56 v5.toNatClampNeg)) - ((M.1 29 9).toInt64 * (M.2 56 v5.toNatClampNeg)) / v2 * v2))
    else
      K80 v4 M
set_option maxRecDepth 100000 in
set_option maxHeartbeats 4000000 in
theorem ev_X1_part_18 (K80 : Int32 → eMem → Option (Int32 × eMem)) (q : (Int32 × eMem)) (hK80 : ∀ (v4 : Int32) (M : eMem), K80 v4 M = some q → Ev layC 1 m_X1_part 80 [some (.ref 29), none, none, none, some (.int v4), none, none, none] [] M (some (.int q.1), q.2)) : ∀ (fuel : Nat) (v2 : Int64) (v4 : Int32) (v5 : Int32) (M : eMem), F_X1_part_18 K80 fuel v2 v4 v5 M = some q → Ev layC 1 m_X1_part 18 [some (.ref 29), some (.ref 55), some (.long v2), none, some (.int v4), some (.int v5), none, none] [] M (some (.int q.1), q.2) := by
  intro fuel
  induction fuel with
  | zero => intro v2 v4 v5 M h; rw [F_X1_part_18] at h; cases h
  | succ n ih =>
    intro v2 v4 v5 M h
    rw [F_X1_part_18] at h
    refine Ev.iload (pc := 18) dX1_part_18 rfl ?_
    refine Ev.iconst (pc := 20) dX1_part_20 (v := 4) (by decide) ?_
    refine Ev.icmp_ge (pc := 21) (tgt := 80) dX1_part_21 (by decide) (fun c9 => ?_) (fun c9 => ?_)
    · have h := eF h c9
      exact Ev.fg (hK80 _ _ h) (And.intro rfl (And.intro rfl trivial))
    · have h := eT h c9
      refine Ev.aload_n (pc := 24) dX1_part_24 rfl ?_
      refine Ev.getI (pc := 25) dX1_part_25 fl_RX1_76 lC_29 rfl ?_
      refine Ev.i2l (pc := 28) dX1_part_28 ?_
      refine Ev.aload_n (pc := 29) dX1_part_29 rfl ?_
      refine Ev.getR (pc := 30) dX1_part_30 fl_RX1_79 lC_55 rfl ?_
      refine Ev.iload (pc := 33) dX1_part_33 rfl ?_
      obtain ⟨g9, h⟩ := eGdB h
      refine Ev.laldj (pc := 35) dX1_part_35 (j := v5.toNatClampNeg) lC_56 g9 rfl ?_
      refine Ev.lmul (pc := 36) dX1_part_36 ?_
      refine Ev.lstore (pc := 37) dX1_part_37 (by decide) rfl rfl ?_
      refine Ev.aload_n (pc := 39) dX1_part_39 rfl ?_
      refine Ev.getR (pc := 40) dX1_part_40 fl_RX1_45 lC_29 rfl ?_
      refine Ev.iload (pc := 43) dX1_part_43 rfl ?_
      refine Ev.lload (pc := 45) dX1_part_45 rfl ?_
      refine Ev.lload_n (pc := 47) dX1_part_47 rfl ?_
      obtain ⟨g9, h⟩ := eGn h
      refine Ev.ldiv (pc := 48) dX1_part_48 g9 ?_
      refine Ev.l2i (pc := 49) dX1_part_49 ?_
      obtain ⟨g9, h⟩ := eGdB h
      refine Ev.iastj (pc := 50) dX1_part_50 (j := v5.toNatClampNeg) lC_39 g9 rfl ?_
      refine Ev.aload_n (pc := 51) dX1_part_51 rfl ?_
      refine Ev.getR (pc := 52) dX1_part_52 fl_RX1_41 lC_29 rfl ?_
      refine Ev.iload (pc := 55) dX1_part_55 rfl ?_
      refine Ev.lload (pc := 57) dX1_part_57 rfl ?_
      refine Ev.lload_n (pc := 59) dX1_part_59 rfl ?_
      obtain ⟨g9, h⟩ := eGn h
      refine Ev.lrem (pc := 60) dX1_part_60 g9 ?_
      obtain ⟨g9, h⟩ := eGdB h
      refine Ev.lastj (pc := 61) dX1_part_61 (j := v5.toNatClampNeg) lC_38 g9 rfl ?_
      refine Ev.iload (pc := 62) dX1_part_62 rfl ?_
      refine Ev.aload_n (pc := 64) dX1_part_64 rfl ?_
      refine Ev.getR (pc := 65) dX1_part_65 fl_RX1_45 lC_29 rfl ?_
      refine Ev.iload (pc := 68) dX1_part_68 rfl ?_
      obtain ⟨g9, h⟩ := eGdB h
      refine Ev.ialdv (pc := 70) dX1_part_70 (v := (((M.1 29 9).toInt64 * (M.2 56 v5.toNatClampNeg)) / v2).toInt32) (j := v5.toNatClampNeg) lC_39 g9 rfl (eJ_o.trans eI_e) ?_
      refine Ev.isub (pc := 71) dX1_part_71 ?_
      refine Ev.istore (pc := 72) dX1_part_72 (by decide) rfl rfl ?_
      refine Ev.iincv (pc := 74) dX1_part_74 (v := 1) (by decide) rfl (by decide) rfl rfl ?_
      refine Ev.goto (pc := 77) (tgt := 18) dX1_part_77 (by decide) ?_
      exact Ev.fg (ih _ _ _ _ h) (And.intro rfl (And.intro rfl (And.intro rfl (And.intro rfl (And.intro rfl trivial)))))
def F_X1_part_83 (K130 : eMem → Option (Int32 × eMem)) : Nat → Int32 → Int32 → eMem → Option (Int32 × eMem)
  | 0, _, _, _ => none
  | n + 1, v4, v5, M =>
    if v5 < 4 then
      if 0 < v4 then
        (F_X1_greatestRest M).bind fun q2 =>
        eG (eIn q2 4) <|
        eG (eIn q2 4) <|
        eG (eIn q2 4) <|
        F_X1_part_83 K130 n (v4 + (-1)) (v5 + 1) (eJ (eI M 39 q2.toNatClampNeg ((M.1 39 q2.toNatClampNeg) + 1)) 38 q2.toNatClampNeg (-1))
      else
        K130 M
    else
      K130 M
set_option maxRecDepth 100000 in
set_option maxHeartbeats 4000000 in
theorem ev_X1_part_83 (K130 : eMem → Option (Int32 × eMem)) (q : (Int32 × eMem)) (hK130 : ∀  (M : eMem), K130 M = some q → Ev layC 1 m_X1_part 130 [some (.ref 29), none, none, none, none, none, none, none] [] M (some (.int q.1), q.2)) : ∀ (fuel : Nat) (v4 : Int32) (v5 : Int32) (M : eMem), F_X1_part_83 K130 fuel v4 v5 M = some q → Ev layC 1 m_X1_part 83 [some (.ref 29), none, none, none, some (.int v4), some (.int v5), none, none] [] M (some (.int q.1), q.2) := by
  intro fuel
  induction fuel with
  | zero => intro v4 v5 M h; rw [F_X1_part_83] at h; cases h
  | succ n ih =>
    intro v4 v5 M h
    rw [F_X1_part_83] at h
    refine Ev.iload (pc := 83) dX1_part_83 rfl ?_
    refine Ev.iconst (pc := 85) dX1_part_85 (v := 4) (by decide) ?_
    refine Ev.icmp_ge (pc := 86) (tgt := 130) dX1_part_86 (by decide) (fun c9 => ?_) (fun c9 => ?_)
    · have h := eF h c9
      exact Ev.fg (hK130 _ h) (And.intro rfl trivial)
    · have h := eT h c9
      refine Ev.iload (pc := 89) dX1_part_89 rfl ?_
      refine Ev.if_le (pc := 91) (tgt := 130) dX1_part_91 (by decide) (fun c9 => ?_) (fun c9 => ?_)
      · have h := eF h c9
        exact Ev.fg (hK130 _ h) (And.intro rfl trivial)
      · have h := eT h c9
        refine Ev.aload_n (pc := 94) dX1_part_94 rfl ?_
        refine eBk h (fun q2 hq2 h => ?_)
        refine Ev.callV (pc := 95) (as := []) (st := []) (z := 2) dX1_part_95 wc_X1_greatestRest ml_RX1_82 im_X1_greatestRest se_X1_greatestRest lC_29 rfl rfl (ev_X1_greatestRest  M _ hq2) rfl rfl (by decide) rfl rfl (Nat.le_of_ble_eq_true rfl) ?_
        refine Ev.istore (pc := 98) dX1_part_98 (by decide) rfl rfl ?_
        refine Ev.aload_n (pc := 100) dX1_part_100 rfl ?_
        refine Ev.getR (pc := 101) dX1_part_101 fl_RX1_45 lC_29 rfl ?_
        refine Ev.iload (pc := 104) dX1_part_104 rfl ?_
        refine Ev.dup2 (pc := 106) dX1_part_106 rfl rfl ?_
        obtain ⟨g9, h⟩ := eGdB h
        refine Ev.ialdj (pc := 107) dX1_part_107 (j := q2.toNatClampNeg) lC_39 g9 rfl ?_
        refine Ev.iconst (pc := 108) dX1_part_108 (v := 1) (by decide) ?_
        refine Ev.iadd (pc := 109) dX1_part_109 ?_
        obtain ⟨g9, h⟩ := eGdB h
        refine Ev.iastj (pc := 110) dX1_part_110 (j := q2.toNatClampNeg) lC_39 g9 rfl ?_
        refine Ev.aload_n (pc := 111) dX1_part_111 rfl ?_
        refine Ev.getR (pc := 112) dX1_part_112 fl_RX1_41 lC_29 rfl ?_
        refine Ev.iload (pc := 115) dX1_part_115 rfl ?_
        refine Ev.ldc2 (pc := 117) dX1_part_117 ll_RX1_86 ?_
        obtain ⟨g9, h⟩ := eGdB h
        refine Ev.lastj (pc := 120) dX1_part_120 (j := q2.toNatClampNeg) lC_38 g9 rfl ?_
        refine Ev.iincv (pc := 121) dX1_part_121 (v := (-1)) (by decide) rfl (by decide) rfl rfl ?_
        refine Ev.iincv (pc := 124) dX1_part_124 (v := 1) (by decide) rfl (by decide) rfl rfl ?_
        refine Ev.goto (pc := 127) (tgt := 83) dX1_part_127 (by decide) ?_
        exact Ev.fg (ih _ _ _ h) (And.intro rfl (And.intro rfl (And.intro rfl trivial)))
def F_X1_part_162 (rec : Int32 → Int32 → eMem → Option (Int32 × eMem)) (v5 : Int32) (v6 : Int32) (M : eMem) : Option (Int32 × eMem) :=
  eG (eIn v6 4) <|
  eG (eIn v6 4) <|
  rec v5 (v6 + 1) (eI M 37 v6.toNatClampNeg (M.1 39 v6.toNatClampNeg))
set_option maxRecDepth 100000 in
set_option maxHeartbeats 4000000 in
theorem ev_X1_part_162 (rec : Int32 → Int32 → eMem → Option (Int32 × eMem)) (q : (Int32 × eMem)) (hrec : ∀ (v5 : Int32) (v6 : Int32) (M : eMem), rec v5 v6 M = some q → Ev layC 1 m_X1_part 136 [some (.ref 29), none, none, none, none, some (.int v5), some (.int v6), none] [] M (some (.int q.1), q.2)) (v5 : Int32) (v6 : Int32) (M : eMem) (h : F_X1_part_162 rec v5 v6 M = some q) : Ev layC 1 m_X1_part 162 [some (.ref 29), none, none, none, none, some (.int v5), some (.int v6), none] [] M (some (.int q.1), q.2) := by
  rw [F_X1_part_162] at h
  refine Ev.aload_n (pc := 162) dX1_part_162 rfl ?_
  refine Ev.getR (pc := 163) dX1_part_163 fl_RX1_38 lC_29 rfl ?_
  refine Ev.iload (pc := 166) dX1_part_166 rfl ?_
  refine Ev.aload_n (pc := 168) dX1_part_168 rfl ?_
  refine Ev.getR (pc := 169) dX1_part_169 fl_RX1_45 lC_29 rfl ?_
  refine Ev.iload (pc := 172) dX1_part_172 rfl ?_
  obtain ⟨g9, h⟩ := eGdB h
  refine Ev.ialdj (pc := 174) dX1_part_174 (j := v6.toNatClampNeg) lC_39 g9 rfl ?_
  obtain ⟨g9, h⟩ := eGdB h
  refine Ev.iastj (pc := 175) dX1_part_175 (j := v6.toNatClampNeg) lC_37 g9 rfl ?_
  refine Ev.iincv (pc := 176) dX1_part_176 (v := 1) (by decide) rfl (by decide) rfl rfl ?_
  refine Ev.goto (pc := 179) (tgt := 136) dX1_part_179 (by decide) ?_
  exact Ev.fg (hrec _ _ _ h) (And.intro rfl (And.intro rfl (And.intro rfl trivial)))
def F_X1_part_136  : Nat → Int32 → Int32 → eMem → Option (Int32 × eMem)
  | 0, _, _, _ => none
  | n + 1, v5, v6, M =>
    if v6 < 4 then
      eG (eIn v6 4) <|
      eG (eIn v6 4) <|
      if (M.1 37 v6.toNatClampNeg) = (M.1 39 v6.toNatClampNeg) then
        F_X1_part_162 (fun v5 v6 M => F_X1_part_136 n v5 v6 M) v5 v6 M
      else
        F_X1_part_162 (fun v5 v6 M => F_X1_part_136 n v5 v6 M) (v5 + 1) v6 M
    else
      some (v5, M)
set_option maxRecDepth 100000 in
set_option maxHeartbeats 4000000 in
theorem ev_X1_part_136  (q : (Int32 × eMem))  : ∀ (fuel : Nat) (v5 : Int32) (v6 : Int32) (M : eMem), F_X1_part_136 fuel v5 v6 M = some q → Ev layC 1 m_X1_part 136 [some (.ref 29), none, none, none, none, some (.int v5), some (.int v6), none] [] M (some (.int q.1), q.2) := by
  intro fuel
  induction fuel with
  | zero => intro v5 v6 M h; rw [F_X1_part_136] at h; cases h
  | succ n ih =>
    intro v5 v6 M h
    rw [F_X1_part_136] at h
    refine Ev.iload (pc := 136) dX1_part_136 rfl ?_
    refine Ev.iconst (pc := 138) dX1_part_138 (v := 4) (by decide) ?_
    refine Ev.icmp_ge (pc := 139) (tgt := 182) dX1_part_139 (by decide) (fun c9 => ?_) (fun c9 => ?_)
    · have h := eF h c9
      refine Ev.iload (pc := 182) dX1_part_182 rfl ?_
      obtain rfl := Option.some.inj h
      exact Ev.iret (pc := 184) dX1_part_184 rfl rfl
    · have h := eT h c9
      refine Ev.aload_n (pc := 142) dX1_part_142 rfl ?_
      refine Ev.getR (pc := 143) dX1_part_143 fl_RX1_38 lC_29 rfl ?_
      refine Ev.iload (pc := 146) dX1_part_146 rfl ?_
      obtain ⟨g9, h⟩ := eGdB h
      refine Ev.ialdj (pc := 148) dX1_part_148 (j := v6.toNatClampNeg) lC_37 g9 rfl ?_
      refine Ev.aload_n (pc := 149) dX1_part_149 rfl ?_
      refine Ev.getR (pc := 150) dX1_part_150 fl_RX1_45 lC_29 rfl ?_
      refine Ev.iload (pc := 153) dX1_part_153 rfl ?_
      obtain ⟨g9, h⟩ := eGdB h
      refine Ev.ialdj (pc := 155) dX1_part_155 (j := v6.toNatClampNeg) lC_39 g9 rfl ?_
      refine Ev.icmp_eq (pc := 156) (tgt := 162) dX1_part_156 (by decide) (fun c9 => ?_) (fun c9 => ?_)
      · have h := eT h c9
        exact Ev.fg (ev_X1_part_162 _ _ ih _ _ _ h) (And.intro rfl (And.intro rfl (And.intro rfl trivial)))
      · have h := eF h c9
        refine Ev.iincv (pc := 159) dX1_part_159 (v := 1) (by decide) rfl (by decide) rfl rfl ?_
        exact Ev.fg (ev_X1_part_162 _ _ ih _ _ _ h) (And.intro rfl (And.intro rfl (And.intro rfl trivial)))
def F_X1_part  (M : eMem) : Option (Int32 × eMem) :=
  (F_X3_sum M).bind fun q1 =>
  F_X1_part_18
    (fun v4 M =>
      F_X1_part_83
        (fun M =>
          F_X1_part_136 eFuel 0 0 M)
        eFuel v4 0 M)
    eFuel (eMaxL 1 q1) (M.1 29 9) 0 M
set_option maxRecDepth 100000 in
set_option maxHeartbeats 4000000 in
theorem ev_X1_part  (M : eMem) (q : (Int32 × eMem)) (h : F_X1_part  M = some q) : Ev layC 1 m_X1_part 0 [some (.ref 29), some (.ref 55), none, none, none, none, none, none] [] M (some (.int q.1), q.2) := by
  rw [F_X1_part] at h
  refine Ev.lconst (pc := 0) dX1_part_0 (v := 1) (by decide) ?_
  refine Ev.aload_n (pc := 1) dX1_part_1 rfl ?_
  refine eBk h (fun q1 hq1 h => ?_)
  refine Ev.callV (pc := 2) (as := []) (st := [.long 1]) (z := 3) dX1_part_2 wc_X3_sum ml_RX1_64 im_X3_sum se_X3_sum lC_55 rfl rfl (ev_X3_sum  M _ hq1) rfl rfl (by decide) rfl rfl (Nat.le_of_ble_eq_true rfl) ?_
  refine Ev.mmaxL (pc := 5) dX1_part_5 mm_RX1_70 (by decide) (Nat.le_of_ble_eq_true rfl) ?_
  refine Ev.lstore_n (pc := 8) dX1_part_8 (by decide) rfl rfl ?_
  refine Ev.aload_n (pc := 9) dX1_part_9 rfl ?_
  refine Ev.getI (pc := 10) dX1_part_10 fl_RX1_76 lC_29 rfl ?_
  refine Ev.istore (pc := 13) dX1_part_13 (by decide) rfl rfl ?_
  refine Ev.iconst (pc := 15) dX1_part_15 (v := 0) (by decide) ?_
  refine Ev.istore (pc := 16) dX1_part_16 (by decide) rfl rfl ?_
  refine Ev.fg (ev_X1_part_18 _ _ ?_ _ _ _ _ _ h) (And.intro rfl (And.intro rfl (And.intro rfl (And.intro rfl (And.intro rfl trivial)))))
  · intro v4 M h
    refine Ev.iconst (pc := 80) dX1_part_80 (v := 0) (by decide) ?_
    refine Ev.istore (pc := 81) dX1_part_81 (by decide) rfl rfl ?_
    refine Ev.fg (ev_X1_part_83 _ _ ?_ _ _ _ _ h) (And.intro rfl (And.intro rfl (And.intro rfl trivial)))
    · intro M h
      refine Ev.iconst (pc := 130) dX1_part_130 (v := 0) (by decide) ?_
      refine Ev.istore (pc := 131) dX1_part_131 (by decide) rfl rfl ?_
      refine Ev.iconst (pc := 133) dX1_part_133 (v := 0) (by decide) ?_
      refine Ev.istore (pc := 134) dX1_part_134 (by decide) rfl rfl ?_
      exact Ev.fg (ev_X1_part_136 _ _ _ _ _ h) (And.intro rfl (And.intro rfl (And.intro rfl trivial)))
theorem dX9_shift_0 : decode cX9_shift 0 = .ok (.aload_n 0, 1) := by decide +kernel
theorem dX9_shift_1 : decode cX9_shift 1 = .ok (.getfield 12, 3) := by decide +kernel
theorem dX9_shift_4 : decode cX9_shift 4 = .ok (.getfield 212, 3) := by decide +kernel
theorem dX9_shift_7 : decode cX9_shift 7 = .ok (.aload_n 0, 1) := by decide +kernel
theorem dX9_shift_8 : decode cX9_shift 8 = .ok (.getfield 12, 3) := by decide +kernel
theorem dX9_shift_11 : decode cX9_shift 11 = .ok (.aload_n 0, 1) := by decide +kernel
theorem dX9_shift_12 : decode cX9_shift 12 = .ok (.getfield 12, 3) := by decide +kernel
theorem dX9_shift_15 : decode cX9_shift 15 = .ok (.getfield 46, 3) := by decide +kernel
theorem dX9_shift_18 : decode cX9_shift 18 = .ok (.getfield 99, 3) := by decide +kernel
theorem dX9_shift_21 : decode cX9_shift 21 = .ok (.invokevirtual 271, 3) := by decide +kernel
theorem dX9_shift_24 : decode cX9_shift 24 = .ok (.invokevirtual 292, 3) := by decide +kernel
theorem dX9_shift_27 : decode cX9_shift 27 = .ok (.ireturn, 1) := by decide +kernel
def F_X9_shift  (M : eMem) : Option (Int32 × eMem) :=
  (F_X8_scalesAt (M.1 2 11) M).bind fun q1 =>
  (F_X1_part q1).bind fun q2 =>
  some (q2.1, q2.2)
set_option maxRecDepth 100000 in
set_option maxHeartbeats 4000000 in
theorem ev_X9_shift  (M : eMem) (q : (Int32 × eMem)) (h : F_X9_shift  M = some q) : Ev layC 5 m_X9_shift 0 [some (.ref 0)] [] M (some (.int q.1), q.2) := by
  rw [F_X9_shift] at h
  refine Ev.aload_n (pc := 0) dX9_shift_0 rfl ?_
  refine Ev.getR (pc := 1) dX9_shift_1 fl_RX9_12 lC_0 rfl ?_
  refine Ev.getR (pc := 4) dX9_shift_4 fl_RX9_212 lC_1 rfl ?_
  refine Ev.aload_n (pc := 7) dX9_shift_7 rfl ?_
  refine Ev.getR (pc := 8) dX9_shift_8 fl_RX9_12 lC_0 rfl ?_
  refine Ev.aload_n (pc := 11) dX9_shift_11 rfl ?_
  refine Ev.getR (pc := 12) dX9_shift_12 fl_RX9_12 lC_0 rfl ?_
  refine Ev.getR (pc := 15) dX9_shift_15 fl_RX9_46 lC_1 rfl ?_
  refine Ev.getI (pc := 18) dX9_shift_18 fl_RX9_99 lC_2 rfl ?_
  refine eBk h (fun q1 hq1 h => ?_)
  refine Ev.callV (pc := 21) (as := [.int (M.1 2 11)]) (st := [.ref 29]) (z := 0) dX9_shift_21 wc_X8_scalesAt ml_RX9_271 im_X8_scalesAt se_X8_scalesAt lC_1 rfl rfl (ev_X8_scalesAt (M.1 2 11) M _ hq1) rfl rfl (by decide) rfl rfl (Nat.le_of_ble_eq_true rfl) ?_
  refine eBk h (fun q2 hq2 h => ?_)
  refine Ev.callV (pc := 24) (as := [.ref 55]) (st := []) (z := 6) dX9_shift_24 wc_X1_part ml_RX9_292 im_X1_part se_X1_part lC_29 rfl rfl (ev_X1_part  q1 _ hq2) rfl rfl (by decide) rfl rfl (Nat.le_of_ble_eq_true rfl) ?_
  obtain rfl := Option.some.inj h
  exact Ev.iret (pc := 27) dX9_shift_27 rfl rfl
