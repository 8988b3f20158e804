theorem dX10_shift_0 : decode cX10_shift 0 = .ok (.aload_n 0, 1) := by decide +kernel
theorem dX10_shift_1 : decode cX10_shift 1 = .ok (.aload_n 0, 1) := by decide +kernel
theorem dX10_shift_2 : decode cX10_shift 2 = .ok (.getfield 7, 3) := by decide +kernel
theorem dX10_shift_5 : decode cX10_shift 5 = .ok (.iconst 0, 1) := by decide +kernel
theorem dX10_shift_6 : decode cX10_shift 6 = .ok (.iaload, 1) := by decide +kernel
theorem dX10_shift_7 : decode cX10_shift 7 = .ok (.invokevirtual 154, 3) := by decide +kernel
theorem dX10_shift_10 : decode cX10_shift 10 = .ok (.aload_n 0, 1) := by decide +kernel
theorem dX10_shift_11 : decode cX10_shift 11 = .ok (.invokevirtual 158, 3) := by decide +kernel
theorem dX10_shift_14 : decode cX10_shift 14 = .ok (.aload_n 0, 1) := by decide +kernel
theorem dX10_shift_15 : decode cX10_shift 15 = .ok (.getfield 7, 3) := by decide +kernel
theorem dX10_shift_18 : decode cX10_shift 18 = .ok (.bipush 6, 2) := by decide +kernel
theorem dX10_shift_20 : decode cX10_shift 20 = .ok (.iaload, 1) := by decide +kernel
theorem dX10_shift_21 : decode cX10_shift 21 = .ok (.istore_n 1, 1) := by decide +kernel
theorem dX10_shift_22 : decode cX10_shift 22 = .ok (.iconst 0, 1) := by decide +kernel
theorem dX10_shift_23 : decode cX10_shift 23 = .ok (.istore_n 2, 1) := by decide +kernel
theorem dX10_shift_24 : decode cX10_shift 24 = .ok (.iload_n 2, 1) := by decide +kernel
theorem dX10_shift_25 : decode cX10_shift 25 = .ok (.iconst 4, 1) := by decide +kernel
theorem dX10_shift_26 : decode cX10_shift 26 = .ok (.if_icmp .ge 71, 3) := by decide +kernel
theorem dX10_shift_29 : decode cX10_shift 29 = .ok (.aload_n 0, 1) := by decide +kernel
theorem dX10_shift_30 : decode cX10_shift 30 = .ok (.getfield 48, 3) := by decide +kernel
theorem dX10_shift_33 : decode cX10_shift 33 = .ok (.iload_n 2, 1) := by decide +kernel
theorem dX10_shift_34 : decode cX10_shift 34 = .ok (.aload_n 0, 1) := by decide +kernel
theorem dX10_shift_35 : decode cX10_shift 35 = .ok (.getfield 7, 3) := by decide +kernel
theorem dX10_shift_38 : decode cX10_shift 38 = .ok (.bipush 6, 2) := by decide +kernel
theorem dX10_shift_40 : decode cX10_shift 40 = .ok (.iaload, 1) := by decide +kernel
theorem dX10_shift_41 : decode cX10_shift 41 = .ok (.i2l, 1) := by decide +kernel
theorem dX10_shift_42 : decode cX10_shift 42 = .ok (.aload_n 0, 1) := by decide +kernel
theorem dX10_shift_43 : decode cX10_shift 43 = .ok (.getfield 44, 3) := by decide +kernel
theorem dX10_shift_46 : decode cX10_shift 46 = .ok (.iload_n 2, 1) := by decide +kernel
theorem dX10_shift_47 : decode cX10_shift 47 = .ok (.laload, 1) := by decide +kernel
theorem dX10_shift_48 : decode cX10_shift 48 = .ok (.lmul, 1) := by decide +kernel
theorem dX10_shift_49 : decode cX10_shift 49 = .ok (.aload_n 0, 1) := by decide +kernel
theorem dX10_shift_50 : decode cX10_shift 50 = .ok (.invokevirtual 161, 3) := by decide +kernel
theorem dX10_shift_53 : decode cX10_shift 53 = .ok (.ldiv, 1) := by decide +kernel
theorem dX10_shift_54 : decode cX10_shift 54 = .ok (.l2i, 1) := by decide +kernel
theorem dX10_shift_55 : decode cX10_shift 55 = .ok (.iastore, 1) := by decide +kernel
theorem dX10_shift_56 : decode cX10_shift 56 = .ok (.aload_n 0, 1) := by decide +kernel
theorem dX10_shift_57 : decode cX10_shift 57 = .ok (.getfield 51, 3) := by decide +kernel
theorem dX10_shift_60 : decode cX10_shift 60 = .ok (.iload_n 2, 1) := by decide +kernel
theorem dX10_shift_61 : decode cX10_shift 61 = .ok (.aload_n 0, 1) := by decide +kernel
theorem dX10_shift_62 : decode cX10_shift 62 = .ok (.getfield 7, 3) := by decide +kernel
theorem dX10_shift_65 : decode cX10_shift 65 = .ok (.bipush 6, 2) := by decide +kernel
theorem dX10_shift_67 : decode cX10_shift 67 = .ok (.iaload, 1) := by decide +kernel
theorem dX10_shift_68 : decode cX10_shift 68 = .ok (.i2l, 1) := by decide +kernel
theorem dX10_shift_69 : decode cX10_shift 69 = .ok (.aload_n 0, 1) := by decide +kernel
theorem dX10_shift_70 : decode cX10_shift 70 = .ok (.getfield 44, 3) := by decide +kernel
theorem dX10_shift_73 : decode cX10_shift 73 = .ok (.iload_n 2, 1) := by decide +kernel
theorem dX10_shift_74 : decode cX10_shift 74 = .ok (.laload, 1) := by decide +kernel
theorem dX10_shift_75 : decode cX10_shift 75 = .ok (.lmul, 1) := by decide +kernel
theorem dX10_shift_76 : decode cX10_shift 76 = .ok (.aload_n 0, 1) := by decide +kernel
theorem dX10_shift_77 : decode cX10_shift 77 = .ok (.invokevirtual 161, 3) := by decide +kernel
theorem dX10_shift_80 : decode cX10_shift 80 = .ok (.lrem, 1) := by decide +kernel
theorem dX10_shift_81 : decode cX10_shift 81 = .ok (.lastore, 1) := by decide +kernel
theorem dX10_shift_82 : decode cX10_shift 82 = .ok (.iload_n 1, 1) := by decide +kernel
theorem dX10_shift_83 : decode cX10_shift 83 = .ok (.aload_n 0, 1) := by decide +kernel
theorem dX10_shift_84 : decode cX10_shift 84 = .ok (.getfield 48, 3) := by decide +kernel
theorem dX10_shift_87 : decode cX10_shift 87 = .ok (.iload_n 2, 1) := by decide +kernel
theorem dX10_shift_88 : decode cX10_shift 88 = .ok (.iaload, 1) := by decide +kernel
theorem dX10_shift_89 : decode cX10_shift 89 = .ok (.isub, 1) := by decide +kernel
theorem dX10_shift_90 : decode cX10_shift 90 = .ok (.istore_n 1, 1) := by decide +kernel
theorem dX10_shift_91 : decode cX10_shift 91 = .ok (.iinc 2 1, 3) := by decide +kernel
theorem dX10_shift_94 : decode cX10_shift 94 = .ok (.goto (-70), 3) := by decide +kernel
theorem dX10_shift_97 : decode cX10_shift 97 = .ok (.iload_n 1, 1) := by decide +kernel
theorem dX10_shift_98 : decode cX10_shift 98 = .ok (.ifCond .le 65, 3) := by decide +kernel
theorem dX10_shift_101 : decode cX10_shift 101 = .ok (.iconst 0, 1) := by decide +kernel
theorem dX10_shift_102 : decode cX10_shift 102 = .ok (.istore_n 2, 1) := by decide +kernel
theorem dX10_shift_103 : decode cX10_shift 103 = .ok (.iconst 1, 1) := by decide +kernel
theorem dX10_shift_104 : decode cX10_shift 104 = .ok (.istore_n 3, 1) := by decide +kernel
theorem dX10_shift_105 : decode cX10_shift 105 = .ok (.iload_n 3, 1) := by decide +kernel
theorem dX10_shift_106 : decode cX10_shift 106 = .ok (.iconst 4, 1) := by decide +kernel
theorem dX10_shift_107 : decode cX10_shift 107 = .ok (.if_icmp .ge 31, 3) := by decide +kernel
theorem dX10_shift_110 : decode cX10_shift 110 = .ok (.aload_n 0, 1) := by decide +kernel
theorem dX10_shift_111 : decode cX10_shift 111 = .ok (.getfield 51, 3) := by decide +kernel
theorem dX10_shift_114 : decode cX10_shift 114 = .ok (.iload_n 3, 1) := by decide +kernel
theorem dX10_shift_115 : decode cX10_shift 115 = .ok (.laload, 1) := by decide +kernel
theorem dX10_shift_116 : decode cX10_shift 116 = .ok (.aload_n 0, 1) := by decide +kernel
theorem dX10_shift_117 : decode cX10_shift 117 = .ok (.getfield 51, 3) := by decide +kernel
theorem dX10_shift_120 : decode cX10_shift 120 = .ok (.iload_n 2, 1) := by decide +kernel
theorem dX10_shift_121 : decode cX10_shift 121 = .ok (.laload, 1) := by decide +kernel
theorem dX10_shift_122 : decode cX10_shift 122 = .ok (.lcmp, 1) := by decide +kernel
theorem dX10_shift_123 : decode cX10_shift 123 = .ok (.ifCond .le 7, 3) := by decide +kernel
theorem dX10_shift_126 : decode cX10_shift 126 = .ok (.iload_n 3, 1) := by decide +kernel
theorem dX10_shift_127 : decode cX10_shift 127 = .ok (.goto 4, 3) := by decide +kernel
theorem dX10_shift_130 : decode cX10_shift 130 = .ok (.iload_n 2, 1) := by decide +kernel
theorem dX10_shift_131 : decode cX10_shift 131 = .ok (.istore_n 2, 1) := by decide +kernel
theorem dX10_shift_132 : decode cX10_shift 132 = .ok (.iinc 3 1, 3) := by decide +kernel
theorem dX10_shift_135 : decode cX10_shift 135 = .ok (.goto (-30), 3) := by decide +kernel
theorem dX10_shift_138 : decode cX10_shift 138 = .ok (.aload_n 0, 1) := by decide +kernel
theorem dX10_shift_139 : decode cX10_shift 139 = .ok (.getfield 48, 3) := by decide +kernel
theorem dX10_shift_142 : decode cX10_shift 142 = .ok (.iload_n 2, 1) := by decide +kernel
theorem dX10_shift_143 : decode cX10_shift 143 = .ok (.dup2, 1) := by decide +kernel
theorem dX10_shift_144 : decode cX10_shift 144 = .ok (.iaload, 1) := by decide +kernel
theorem dX10_shift_145 : decode cX10_shift 145 = .ok (.iconst 1, 1) := by decide +kernel
theorem dX10_shift_146 : decode cX10_shift 146 = .ok (.iadd, 1) := by decide +kernel
theorem dX10_shift_147 : decode cX10_shift 147 = .ok (.iastore, 1) := by decide +kernel
theorem dX10_shift_148 : decode cX10_shift 148 = .ok (.aload_n 0, 1) := by decide +kernel
theorem dX10_shift_149 : decode cX10_shift 149 = .ok (.getfield 51, 3) := by decide +kernel
theorem dX10_shift_152 : decode cX10_shift 152 = .ok (.iload_n 2, 1) := by decide +kernel
theorem dX10_shift_153 : decode cX10_shift 153 = .ok (.ldc2_w 177, 3) := by decide +kernel
theorem dX10_shift_156 : decode cX10_shift 156 = .ok (.lastore, 1) := by decide +kernel
theorem dX10_shift_157 : decode cX10_shift 157 = .ok (.iinc 1 (-1), 3) := by decide +kernel
theorem dX10_shift_160 : decode cX10_shift 160 = .ok (.goto (-63), 3) := by decide +kernel
theorem dX10_shift_163 : decode cX10_shift 163 = .ok (.iconst 0, 1) := by decide +kernel
theorem dX10_shift_164 : decode cX10_shift 164 = .ok (.istore_n 2, 1) := by decide +kernel
theorem dX10_shift_165 : decode cX10_shift 165 = .ok (.iconst 0, 1) := by decide +kernel
theorem dX10_shift_166 : decode cX10_shift 166 = .ok (.istore_n 3, 1) := by decide +kernel
theorem dX10_shift_167 : decode cX10_shift 167 = .ok (.iload_n 3, 1) := by decide +kernel
theorem dX10_shift_168 : decode cX10_shift 168 = .ok (.iconst 4, 1) := by decide +kernel
theorem dX10_shift_169 : decode cX10_shift 169 = .ok (.if_icmp .ge 52, 3) := by decide +kernel
theorem dX10_shift_172 : decode cX10_shift 172 = .ok (.iload_n 2, 1) := by decide +kernel
theorem dX10_shift_173 : decode cX10_shift 173 = .ok (.aload_n 0, 1) := by decide +kernel
theorem dX10_shift_174 : decode cX10_shift 174 = .ok (.getfield 7, 3) := by decide +kernel
theorem dX10_shift_177 : decode cX10_shift 177 = .ok (.sipush 294, 3) := by decide +kernel
theorem dX10_shift_180 : decode cX10_shift 180 = .ok (.iload_n 3, 1) := by decide +kernel
theorem dX10_shift_181 : decode cX10_shift 181 = .ok (.iadd, 1) := by decide +kernel
theorem dX10_shift_182 : decode cX10_shift 182 = .ok (.iaload, 1) := by decide +kernel
theorem dX10_shift_183 : decode cX10_shift 183 = .ok (.aload_n 0, 1) := by decide +kernel
theorem dX10_shift_184 : decode cX10_shift 184 = .ok (.getfield 48, 3) := by decide +kernel
theorem dX10_shift_187 : decode cX10_shift 187 = .ok (.iload_n 3, 1) := by decide +kernel
theorem dX10_shift_188 : decode cX10_shift 188 = .ok (.iaload, 1) := by decide +kernel
theorem dX10_shift_189 : decode cX10_shift 189 = .ok (.if_icmp .eq 7, 3) := by decide +kernel
theorem dX10_shift_192 : decode cX10_shift 192 = .ok (.iconst 1, 1) := by decide +kernel
theorem dX10_shift_193 : decode cX10_shift 193 = .ok (.goto 4, 3) := by decide +kernel
theorem dX10_shift_196 : decode cX10_shift 196 = .ok (.iconst 0, 1) := by decide +kernel
theorem dX10_shift_197 : decode cX10_shift 197 = .ok (.iadd, 1) := by decide +kernel
theorem dX10_shift_198 : decode cX10_shift 198 = .ok (.istore_n 2, 1) := by decide +kernel
theorem dX10_shift_199 : decode cX10_shift 199 = .ok (.aload_n 0, 1) := by decide +kernel
theorem dX10_shift_200 : decode cX10_shift 200 = .ok (.getfield 7, 3) := by decide +kernel
theorem dX10_shift_203 : decode cX10_shift 203 = .ok (.sipush 294, 3) := by decide +kernel
theorem dX10_shift_206 : decode cX10_shift 206 = .ok (.iload_n 3, 1) := by decide +kernel
theorem dX10_shift_207 : decode cX10_shift 207 = .ok (.iadd, 1) := by decide +kernel
theorem dX10_shift_208 : decode cX10_shift 208 = .ok (.aload_n 0, 1) := by decide +kernel
theorem dX10_shift_209 : decode cX10_shift 209 = .ok (.getfield 48, 3) := by decide +kernel
theorem dX10_shift_212 : decode cX10_shift 212 = .ok (.iload_n 3, 1) := by decide +kernel
theorem dX10_shift_213 : decode cX10_shift 213 = .ok (.iaload, 1) := by decide +kernel
theorem dX10_shift_214 : decode cX10_shift 214 = .ok (.iastore, 1) := by decide +kernel
theorem dX10_shift_215 : decode cX10_shift 215 = .ok (.iinc 3 1, 3) := by decide +kernel
theorem dX10_shift_218 : decode cX10_shift 218 = .ok (.goto (-51), 3) := by decide +kernel
theorem dX10_shift_221 : decode cX10_shift 221 = .ok (.iload_n 2, 1) := by decide +kernel
theorem dX10_shift_222 : decode cX10_shift 222 = .ok (.ireturn, 1) := by decide +kernel
def F_X10_shift_24 (K97 : Int32 → eMem → Option (Int32 × eMem)) : Nat → Int32 → Int32 → eMem → Option (Int32 × eMem)
  | 0, _, _, _ => none
  | n + 1, v1, v2, M =>
    if v2 < 4 then
      eG (eIn v2 4) <|
      (F_X10_all M).bind fun q3 =>
      if q3 = 0 then none else
      eG (eIn v2 4) <|
      eG (eIn v2 4) <|
      (F_X10_all (eI M 13 v2.toNatClampNeg (((M.1 1 6).toInt64 * (M.2 12 v2.toNatClampNeg)) / q3).toInt32)).bind fun q4 =>
      if q4 = 0 then none else
      eG (eIn v2 4) <|
      eG (eIn v2 4) <|
      F_X10_shift_24 K97 n (v1 - (((M.1 1 6).toInt64 * (M.2 12 v2.toNatClampNeg)) / q3).toInt32) (v2 + 1) (eJ (eI M 13 v2.toNatClampNeg (((M.1 1 6).toInt64 * (M.2 12 v2.toNatClampNeg)) / q3).toInt32) 14 v2.toNatClampNeg (((M.1 1 6).toInt64 * (M.2 12 v2.toNatClampNeg)) - ((M.1 1 6).toInt64 * (M.2 12 v2.toNatClampNeg)) / q4 * q4))
    else
      K97 v1 M
set_option maxRecDepth 100000 in
set_option maxHeartbeats 4000000 in
theorem ev_X10_shift_24 (K97 : Int32 → eMem → Option (Int32 × eMem)) (q : (Int32 × eMem)) (hK97 : ∀ (v1 : Int32) (M : eMem), K97 v1 M = some q → Ev layR 3 m_X10_shift 97 [some (.ref 0), some (.int v1), none, none] [] M (some (.int q.1), q.2)) : ∀ (fuel : Nat) (v1 : Int32) (v2 : Int32) (M : eMem), F_X10_shift_24 K97 fuel v1 v2 M = some q → Ev layR 3 m_X10_shift 24 [some (.ref 0), some (.int v1), some (.int v2), none] [] M (some (.int q.1), q.2) := by
  intro fuel
  induction fuel with
  | zero => intro v1 v2 M h; rw [F_X10_shift_24] at h; cases h
  | succ n ih =>
    intro v1 v2 M h
    rw [F_X10_shift_24] at h
    refine Ev.iload_n (pc := 24) dX10_shift_24 rfl ?_
    refine Ev.iconst (pc := 25) dX10_shift_25 (v := 4) (by decide) ?_
    refine Ev.icmp_ge (pc := 26) (tgt := 97) dX10_shift_26 (by decide) (fun c9 => ?_) (fun c9 => ?_)
    · have h := eF h c9
      exact Ev.fg (hK97 _ _ h) (And.intro rfl (And.intro rfl trivial))
    · have h := eT h c9
      refine Ev.aload_n (pc := 29) dX10_shift_29 rfl ?_
      refine Ev.getR (pc := 30) dX10_shift_30 fl_RX10_48 lR_0 rfl ?_
      refine Ev.iload_n (pc := 33) dX10_shift_33 rfl ?_
      refine Ev.aload_n (pc := 34) dX10_shift_34 rfl ?_
      refine Ev.getR (pc := 35) dX10_shift_35 fl_RX10_7 lR_0 rfl ?_
      refine Ev.bipush (pc := 38) dX10_shift_38 (v := 6) (by decide) ?_
      refine Ev.ialdj (pc := 40) dX10_shift_40 (j := 6) lR_1 (by decide) (by decide) ?_
      refine Ev.i2l (pc := 41) dX10_shift_41 ?_
      refine Ev.aload_n (pc := 42) dX10_shift_42 rfl ?_
      refine Ev.getR (pc := 43) dX10_shift_43 fl_RX10_44 lR_0 rfl ?_
      refine Ev.iload_n (pc := 46) dX10_shift_46 rfl ?_
      obtain ⟨g9, h⟩ := eGdB h
      refine Ev.laldj (pc := 47) dX10_shift_47 (j := v2.toNatClampNeg) lR_12 g9 rfl ?_
      refine Ev.lmul (pc := 48) dX10_shift_48 ?_
      refine Ev.aload_n (pc := 49) dX10_shift_49 rfl ?_
      refine eBk h (fun q3 hq3 h => ?_)
      refine Ev.callV (pc := 50) (as := []) (st := [.long ((M.1 1 6).toInt64 * (M.2 12 v2.toNatClampNeg)), .int v2, .ref 13]) (z := 0) dX10_shift_50 wc_X10_all ml_RX10_161 im_X10_all se_X10_all lR_0 rfl rfl (ev_X10_all  M _ hq3) rfl rfl (by decide) rfl rfl (Nat.le_of_ble_eq_true rfl) ?_
      obtain ⟨g9, h⟩ := eGn h
      refine Ev.ldiv (pc := 53) dX10_shift_53 g9 ?_
      refine Ev.l2i (pc := 54) dX10_shift_54 ?_
      obtain ⟨g9, h⟩ := eGdB h
      refine Ev.iastj (pc := 55) dX10_shift_55 (j := v2.toNatClampNeg) lR_13 g9 rfl ?_
      refine Ev.aload_n (pc := 56) dX10_shift_56 rfl ?_
      refine Ev.getR (pc := 57) dX10_shift_57 fl_RX10_51 lR_0 rfl ?_
      refine Ev.iload_n (pc := 60) dX10_shift_60 rfl ?_
      refine Ev.aload_n (pc := 61) dX10_shift_61 rfl ?_
      refine Ev.getR (pc := 62) dX10_shift_62 fl_RX10_7 lR_0 rfl ?_
      refine Ev.bipush (pc := 65) dX10_shift_65 (v := 6) (by decide) ?_
      refine Ev.ialdv (pc := 67) dX10_shift_67 (v := (M.1 1 6)) (j := 6) lR_1 (by decide) (by decide) (eI_n (by decide)) ?_
      refine Ev.i2l (pc := 68) dX10_shift_68 ?_
      refine Ev.aload_n (pc := 69) dX10_shift_69 rfl ?_
      refine Ev.getR (pc := 70) dX10_shift_70 fl_RX10_44 lR_0 rfl ?_
      refine Ev.iload_n (pc := 73) dX10_shift_73 rfl ?_
      obtain ⟨g9, h⟩ := eGdB h
      refine Ev.laldv (pc := 74) dX10_shift_74 (v := (M.2 12 v2.toNatClampNeg)) (j := v2.toNatClampNeg) lR_12 g9 rfl eI_o ?_
      refine Ev.lmul (pc := 75) dX10_shift_75 ?_
      refine Ev.aload_n (pc := 76) dX10_shift_76 rfl ?_
      refine eBk h (fun q4 hq4 h => ?_)
      refine Ev.callV (pc := 77) (as := []) (st := [.long ((M.1 1 6).toInt64 * (M.2 12 v2.toNatClampNeg)), .int v2, .ref 14]) (z := 0) dX10_shift_77 wc_X10_all ml_RX10_161 im_X10_all se_X10_all lR_0 rfl rfl (ev_X10_all  (eI M 13 v2.toNatClampNeg (((M.1 1 6).toInt64 * (M.2 12 v2.toNatClampNeg)) / q3).toInt32) _ hq4) rfl rfl (by decide) rfl rfl (Nat.le_of_ble_eq_true rfl) ?_
      obtain ⟨g9, h⟩ := eGn h
      refine Ev.lrem (pc := 80) dX10_shift_80 g9 ?_
      obtain ⟨g9, h⟩ := eGdB h
      refine Ev.lastj (pc := 81) dX10_shift_81 (j := v2.toNatClampNeg) lR_14 g9 rfl ?_
      refine Ev.iload_n (pc := 82) dX10_shift_82 rfl ?_
      refine Ev.aload_n (pc := 83) dX10_shift_83 rfl ?_
      refine Ev.getR (pc := 84) dX10_shift_84 fl_RX10_48 lR_0 rfl ?_
      refine Ev.iload_n (pc := 87) dX10_shift_87 rfl ?_
      obtain ⟨g9, h⟩ := eGdB h
      refine Ev.ialdv (pc := 88) dX10_shift_88 (v := (((M.1 1 6).toInt64 * (M.2 12 v2.toNatClampNeg)) / q3).toInt32) (j := v2.toNatClampNeg) lR_13 g9 rfl (eJ_o.trans eI_e) ?_
      refine Ev.isub (pc := 89) dX10_shift_89 ?_
      refine Ev.istore_n (pc := 90) dX10_shift_90 (by decide) rfl rfl ?_
      refine Ev.iincv (pc := 91) dX10_shift_91 (v := 1) (by decide) rfl (by decide) rfl rfl ?_
      refine Ev.goto (pc := 94) (tgt := 24) dX10_shift_94 (by decide) ?_
      exact Ev.fg (ih _ _ _ h) (And.intro rfl (And.intro rfl (And.intro rfl trivial)))
def F_X10_shift_105 (K138 : Int32 → Int32 → eMem → Option (Int32 × eMem)) : Nat → Int32 → Int32 → Int32 → eMem → Option (Int32 × eMem)
  | 0, _, _, _, _ => none
  | n + 1, v1, v2, v3, M =>
    if v3 < 4 then
      eG (eIn v3 4) <|
      eG (eIn v2 4) <|
      if 0 < (lg_cmp (M.2 14 v3.toNatClampNeg) (M.2 14 v2.toNatClampNeg)) then
        F_X10_shift_105 K138 n v1 v3 (v3 + 1) M
      else
        F_X10_shift_105 K138 n v1 v2 (v3 + 1) M
    else
      K138 v1 v2 M
set_option maxRecDepth 100000 in
set_option maxHeartbeats 4000000 in
theorem ev_X10_shift_105 (K138 : Int32 → Int32 → eMem → Option (Int32 × eMem)) (q : (Int32 × eMem)) (hK138 : ∀ (v1 : Int32) (v2 : Int32) (M : eMem), K138 v1 v2 M = some q → Ev layR 3 m_X10_shift 138 [some (.ref 0), some (.int v1), some (.int v2), none] [] M (some (.int q.1), q.2)) : ∀ (fuel : Nat) (v1 : Int32) (v2 : Int32) (v3 : Int32) (M : eMem), F_X10_shift_105 K138 fuel v1 v2 v3 M = some q → Ev layR 3 m_X10_shift 105 [some (.ref 0), some (.int v1), some (.int v2), some (.int v3)] [] M (some (.int q.1), q.2) := by
  intro fuel
  induction fuel with
  | zero => intro v1 v2 v3 M h; rw [F_X10_shift_105] at h; cases h
  | succ n ih =>
    intro v1 v2 v3 M h
    rw [F_X10_shift_105] at h
    refine Ev.iload_n (pc := 105) dX10_shift_105 rfl ?_
    refine Ev.iconst (pc := 106) dX10_shift_106 (v := 4) (by decide) ?_
    refine Ev.icmp_ge (pc := 107) (tgt := 138) dX10_shift_107 (by decide) (fun c9 => ?_) (fun c9 => ?_)
    · have h := eF h c9
      exact Ev.fg (hK138 _ _ _ h) (And.intro rfl (And.intro rfl (And.intro rfl trivial)))
    · have h := eT h c9
      refine Ev.aload_n (pc := 110) dX10_shift_110 rfl ?_
      refine Ev.getR (pc := 111) dX10_shift_111 fl_RX10_51 lR_0 rfl ?_
      refine Ev.iload_n (pc := 114) dX10_shift_114 rfl ?_
      obtain ⟨g9, h⟩ := eGdB h
      refine Ev.laldj (pc := 115) dX10_shift_115 (j := v3.toNatClampNeg) lR_14 g9 rfl ?_
      refine Ev.aload_n (pc := 116) dX10_shift_116 rfl ?_
      refine Ev.getR (pc := 117) dX10_shift_117 fl_RX10_51 lR_0 rfl ?_
      refine Ev.iload_n (pc := 120) dX10_shift_120 rfl ?_
      obtain ⟨g9, h⟩ := eGdB h
      refine Ev.laldj (pc := 121) dX10_shift_121 (j := v2.toNatClampNeg) lR_14 g9 rfl ?_
      refine Ev.lcmp (pc := 122) dX10_shift_122 ?_
      refine Ev.if_le (pc := 123) (tgt := 130) dX10_shift_123 (by decide) (fun c9 => ?_) (fun c9 => ?_)
      · have h := eF h c9
        refine Ev.iload_n (pc := 130) dX10_shift_130 rfl ?_
        refine Ev.istore_n (pc := 131) dX10_shift_131 (by decide) rfl rfl ?_
        refine Ev.iincv (pc := 132) dX10_shift_132 (v := 1) (by decide) rfl (by decide) rfl rfl ?_
        refine Ev.goto (pc := 135) (tgt := 105) dX10_shift_135 (by decide) ?_
        exact Ev.fg (ih _ _ _ _ h) (And.intro rfl (And.intro rfl (And.intro rfl (And.intro rfl trivial))))
      · have h := eT h c9
        refine Ev.iload_n (pc := 126) dX10_shift_126 rfl ?_
        refine Ev.goto (pc := 127) (tgt := 131) dX10_shift_127 (by decide) ?_
        refine Ev.istore_n (pc := 131) dX10_shift_131 (by decide) rfl rfl ?_
        refine Ev.iincv (pc := 132) dX10_shift_132 (v := 1) (by decide) rfl (by decide) rfl rfl ?_
        refine Ev.goto (pc := 135) (tgt := 105) dX10_shift_135 (by decide) ?_
        exact Ev.fg (ih _ _ _ _ h) (And.intro rfl (And.intro rfl (And.intro rfl (And.intro rfl trivial))))
def F_X10_shift_97 (K163 : eMem → Option (Int32 × eMem)) : Nat → Int32 → eMem → Option (Int32 × eMem)
  | 0, _, _ => none
  | n + 1, v1, M =>
    if 0 < v1 then
      F_X10_shift_105
        (fun v1 v2 M =>
          eG (eIn v2 4) <|
          eG (eIn v2 4) <|
          eG (eIn v2 4) <|
          F_X10_shift_97 K163 n (v1 + (-1)) (eJ (eI M 13 v2.toNatClampNeg ((M.1 13 v2.toNatClampNeg) + 1)) 14 v2.toNatClampNeg (-1)))
        eFuel v1 0 1 M
    else
      K163 M
set_option maxRecDepth 100000 in
set_option maxHeartbeats 4000000 in
theorem ev_X10_shift_97 (K163 : eMem → Option (Int32 × eMem)) (q : (Int32 × eMem)) (hK163 : ∀  (M : eMem), K163 M = some q → Ev layR 3 m_X10_shift 163 [some (.ref 0), none, none, none] [] M (some (.int q.1), q.2)) : ∀ (fuel : Nat) (v1 : Int32) (M : eMem), F_X10_shift_97 K163 fuel v1 M = some q → Ev layR 3 m_X10_shift 97 [some (.ref 0), some (.int v1), none, none] [] M (some (.int q.1), q.2) := by
  intro fuel
  induction fuel with
  | zero => intro v1 M h; rw [F_X10_shift_97] at h; cases h
  | succ n ih =>
    intro v1 M h
    rw [F_X10_shift_97] at h
    refine Ev.iload_n (pc := 97) dX10_shift_97 rfl ?_
    refine Ev.if_le (pc := 98) (tgt := 163) dX10_shift_98 (by decide) (fun c9 => ?_) (fun c9 => ?_)
    · have h := eF h c9
      exact Ev.fg (hK163 _ h) (And.intro rfl trivial)
    · have h := eT h c9
      refine Ev.iconst (pc := 101) dX10_shift_101 (v := 0) (by decide) ?_
      refine Ev.istore_n (pc := 102) dX10_shift_102 (by decide) rfl rfl ?_
      refine Ev.iconst (pc := 103) dX10_shift_103 (v := 1) (by decide) ?_
      refine Ev.istore_n (pc := 104) dX10_shift_104 (by decide) rfl rfl ?_
      refine Ev.fg (ev_X10_shift_105 _ _ ?_ _ _ _ _ _ h) (And.intro rfl (And.intro rfl (And.intro rfl (And.intro rfl trivial))))
      · intro v1 v2 M h
        refine Ev.aload_n (pc := 138) dX10_shift_138 rfl ?_
        refine Ev.getR (pc := 139) dX10_shift_139 fl_RX10_48 lR_0 rfl ?_
        refine Ev.iload_n (pc := 142) dX10_shift_142 rfl ?_
        refine Ev.dup2 (pc := 143) dX10_shift_143 rfl rfl ?_
        obtain ⟨g9, h⟩ := eGdB h
        refine Ev.ialdj (pc := 144) dX10_shift_144 (j := v2.toNatClampNeg) lR_13 g9 rfl ?_
        refine Ev.iconst (pc := 145) dX10_shift_145 (v := 1) (by decide) ?_
        refine Ev.iadd (pc := 146) dX10_shift_146 ?_
        obtain ⟨g9, h⟩ := eGdB h
        refine Ev.iastj (pc := 147) dX10_shift_147 (j := v2.toNatClampNeg) lR_13 g9 rfl ?_
        refine Ev.aload_n (pc := 148) dX10_shift_148 rfl ?_
        refine Ev.getR (pc := 149) dX10_shift_149 fl_RX10_51 lR_0 rfl ?_
        refine Ev.iload_n (pc := 152) dX10_shift_152 rfl ?_
        refine Ev.ldc2 (pc := 153) dX10_shift_153 ll_RX10_177 ?_
        obtain ⟨g9, h⟩ := eGdB h
        refine Ev.lastj (pc := 156) dX10_shift_156 (j := v2.toNatClampNeg) lR_14 g9 rfl ?_
        refine Ev.iincv (pc := 157) dX10_shift_157 (v := (-1)) (by decide) rfl (by decide) rfl rfl ?_
        refine Ev.goto (pc := 160) (tgt := 97) dX10_shift_160 (by decide) ?_
        exact Ev.fg (ih _ _ h) (And.intro rfl (And.intro rfl trivial))
def F_X10_shift_197 (rec : Int32 → Int32 → eMem → Option (Int32 × eMem)) (v3 : Int32) (s0 : Int32) (s1 : Int32) (M : eMem) : Option (Int32 × eMem) :=
  eG (eIn v3 4) <|
  eG (eIn (294 + v3) 2900) <|
  rec (s1 + s0) (v3 + 1) (eI M 1 (294 + v3).toNatClampNeg (M.1 13 v3.toNatClampNeg))
set_option maxRecDepth 100000 in
set_option maxHeartbeats 4000000 in
theorem ev_X10_shift_197 (rec : Int32 → Int32 → eMem → Option (Int32 × eMem)) (q : (Int32 × eMem)) (hrec : ∀ (v2 : Int32) (v3 : Int32) (M : eMem), rec v2 v3 M = some q → Ev layR 3 m_X10_shift 167 [some (.ref 0), none, some (.int v2), some (.int v3)] [] M (some (.int q.1), q.2)) (v3 : Int32) (s0 : Int32) (s1 : Int32) (M : eMem) (h : F_X10_shift_197 rec v3 s0 s1 M = some q) : Ev layR 3 m_X10_shift 197 [some (.ref 0), none, none, some (.int v3)] [.int s0, .int s1] M (some (.int q.1), q.2) := by
  rw [F_X10_shift_197] at h
  refine Ev.iadd (pc := 197) dX10_shift_197 ?_
  refine Ev.istore_n (pc := 198) dX10_shift_198 (by decide) rfl rfl ?_
  refine Ev.aload_n (pc := 199) dX10_shift_199 rfl ?_
  refine Ev.getR (pc := 200) dX10_shift_200 fl_RX10_7 lR_0 rfl ?_
  refine Ev.sipush (pc := 203) dX10_shift_203 (v := 294) (by decide) ?_
  refine Ev.iload_n (pc := 206) dX10_shift_206 rfl ?_
  refine Ev.iadd (pc := 207) dX10_shift_207 ?_
  refine Ev.aload_n (pc := 208) dX10_shift_208 rfl ?_
  refine Ev.getR (pc := 209) dX10_shift_209 fl_RX10_48 lR_0 rfl ?_
  refine Ev.iload_n (pc := 212) dX10_shift_212 rfl ?_
  obtain ⟨g9, h⟩ := eGdB h
  refine Ev.ialdj (pc := 213) dX10_shift_213 (j := v3.toNatClampNeg) lR_13 g9 rfl ?_
  obtain ⟨g9, h⟩ := eGdB h
  refine Ev.iastj (pc := 214) dX10_shift_214 (j := (294 + v3).toNatClampNeg) lR_1 g9 rfl ?_
  refine Ev.iincv (pc := 215) dX10_shift_215 (v := 1) (by decide) rfl (by decide) rfl rfl ?_
  refine Ev.goto (pc := 218) (tgt := 167) dX10_shift_218 (by decide) ?_
  exact Ev.fg (hrec _ _ _ h) (And.intro rfl (And.intro rfl (And.intro rfl trivial)))
def F_X10_shift_167  : Nat → Int32 → Int32 → eMem → Option (Int32 × eMem)
  | 0, _, _, _ => none
  | n + 1, v2, v3, M =>
    if v3 < 4 then
      eG (eIn (294 + v3) 2900) <|
      eG (eIn v3 4) <|
      if (M.1 1 (294 + v3).toNatClampNeg) = (M.1 13 v3.toNatClampNeg) then
        F_X10_shift_197 (fun v2 v3 M => F_X10_shift_167 n v2 v3 M) v3 0 v2 M
      else
        F_X10_shift_197 (fun v2 v3 M => F_X10_shift_167 n v2 v3 M) v3 1 v2 M
    else
      some (v2, M)
set_option maxRecDepth 100000 in
set_option maxHeartbeats 4000000 in
theorem ev_X10_shift_167  (q : (Int32 × eMem))  : ∀ (fuel : Nat) (v2 : Int32) (v3 : Int32) (M : eMem), F_X10_shift_167 fuel v2 v3 M = some q → Ev layR 3 m_X10_shift 167 [some (.ref 0), none, some (.int v2), some (.int v3)] [] M (some (.int q.1), q.2) := by
  intro fuel
  induction fuel with
  | zero => intro v2 v3 M h; rw [F_X10_shift_167] at h; cases h
  | succ n ih =>
    intro v2 v3 M h
    rw [F_X10_shift_167] at h
    refine Ev.iload_n (pc := 167) dX10_shift_167 rfl ?_
    refine Ev.iconst (pc := 168) dX10_shift_168 (v := 4) (by decide) ?_
    refine Ev.icmp_ge (pc := 169) (tgt := 221) dX10_shift_169 (by decide) (fun c9 => ?_) (fun c9 => ?_)
    · have h := eF h c9
      refine Ev.iload_n (pc := 221) dX10_shift_221 rfl ?_
      obtain rfl := Option.some.inj h
      exact Ev.iret (pc := 222) dX10_shift_222 rfl rfl
    · have h := eT h c9
      refine Ev.iload_n (pc := 172) dX10_shift_172 rfl ?_
      refine Ev.aload_n (pc := 173) dX10_shift_173 rfl ?_
      refine Ev.getR (pc := 174) dX10_shift_174 fl_RX10_7 lR_0 rfl ?_
      refine Ev.sipush (pc := 177) dX10_shift_177 (v := 294) (by decide) ?_
      refine Ev.iload_n (pc := 180) dX10_shift_180 rfl ?_
      refine Ev.iadd (pc := 181) dX10_shift_181 ?_
      obtain ⟨g9, h⟩ := eGdB h
      refine Ev.ialdj (pc := 182) dX10_shift_182 (j := (294 + v3).toNatClampNeg) lR_1 g9 rfl ?_
      refine Ev.aload_n (pc := 183) dX10_shift_183 rfl ?_
      refine Ev.getR (pc := 184) dX10_shift_184 fl_RX10_48 lR_0 rfl ?_
      refine Ev.iload_n (pc := 187) dX10_shift_187 rfl ?_
      obtain ⟨g9, h⟩ := eGdB h
      refine Ev.ialdj (pc := 188) dX10_shift_188 (j := v3.toNatClampNeg) lR_13 g9 rfl ?_
      refine Ev.icmp_eq (pc := 189) (tgt := 196) dX10_shift_189 (by decide) (fun c9 => ?_) (fun c9 => ?_)
      · have h := eT h c9
        refine Ev.iconst (pc := 196) dX10_shift_196 (v := 0) (by decide) ?_
        exact Ev.fg (ev_X10_shift_197 _ _ ih _ _ _ _ h) (And.intro rfl (And.intro rfl trivial))
      · have h := eF h c9
        refine Ev.iconst (pc := 192) dX10_shift_192 (v := 1) (by decide) ?_
        refine Ev.goto (pc := 193) (tgt := 197) dX10_shift_193 (by decide) ?_
        exact Ev.fg (ev_X10_shift_197 _ _ ih _ _ _ _ h) (And.intro rfl (And.intro rfl trivial))
def F_X10_shift  (M : eMem) : Option (Int32 × eMem) :=
  (F_X10_gather (M.1 1 0) M).bind fun q1 =>
  (F_X10_weigh q1).bind fun q2 =>
  F_X10_shift_24
    (fun v1 M =>
      F_X10_shift_97
        (fun M =>
          F_X10_shift_167 eFuel 0 0 M)
        eFuel v1 M)
    eFuel (q2.1 1 6) 0 q2
set_option maxRecDepth 100000 in
set_option maxHeartbeats 4000000 in
theorem ev_X10_shift  (M : eMem) (q : (Int32 × eMem)) (h : F_X10_shift  M = some q) : Ev layR 3 m_X10_shift 0 [some (.ref 0), none, none, none] [] M (some (.int q.1), q.2) := by
  rw [F_X10_shift] at h
  refine Ev.aload_n (pc := 0) dX10_shift_0 rfl ?_
  refine Ev.aload_n (pc := 1) dX10_shift_1 rfl ?_
  refine Ev.getR (pc := 2) dX10_shift_2 fl_RX10_7 lR_0 rfl ?_
  refine Ev.iconst (pc := 5) dX10_shift_5 (v := 0) (by decide) ?_
  refine Ev.ialdj (pc := 6) dX10_shift_6 (j := 0) lR_1 (by decide) (by decide) ?_
  refine eBk h (fun q1 hq1 h => ?_)
  refine Ev.callV (pc := 7) (as := [.int (M.1 1 0)]) (st := []) (z := 1) dX10_shift_7 wc_X10_gather ml_RX10_154 im_X10_gather se_X10_gather lR_0 rfl rfl (ev_X10_gather (M.1 1 0) M _ hq1) rfl rfl (by decide) rfl rfl (Nat.le_of_ble_eq_true rfl) ?_
  refine Ev.aload_n (pc := 10) dX10_shift_10 rfl ?_
  refine eBk h (fun q2 hq2 h => ?_)
  refine Ev.callV (pc := 11) (as := []) (st := []) (z := 4) dX10_shift_11 wc_X10_weigh ml_RX10_158 im_X10_weigh se_X10_weigh lR_0 rfl rfl (ev_X10_weigh  q1 _ hq2) rfl rfl (by decide) rfl rfl (Nat.le_of_ble_eq_true rfl) ?_
  refine Ev.aload_n (pc := 14) dX10_shift_14 rfl ?_
  refine Ev.getR (pc := 15) dX10_shift_15 fl_RX10_7 lR_0 rfl ?_
  refine Ev.bipush (pc := 18) dX10_shift_18 (v := 6) (by decide) ?_
  refine Ev.ialdj (pc := 20) dX10_shift_20 (j := 6) lR_1 (by decide) (by decide) ?_
  refine Ev.istore_n (pc := 21) dX10_shift_21 (by decide) rfl rfl ?_
  refine Ev.iconst (pc := 22) dX10_shift_22 (v := 0) (by decide) ?_
  refine Ev.istore_n (pc := 23) dX10_shift_23 (by decide) rfl rfl ?_
  refine Ev.fg (ev_X10_shift_24 _ _ ?_ _ _ _ _ h) (And.intro rfl (And.intro rfl (And.intro rfl trivial)))
  · intro v1 M h
    refine Ev.fg (ev_X10_shift_97 _ _ ?_ _ _ _ h) (And.intro rfl (And.intro rfl trivial))
    · intro M h
      refine Ev.iconst (pc := 163) dX10_shift_163 (v := 0) (by decide) ?_
      refine Ev.istore_n (pc := 164) dX10_shift_164 (by decide) rfl rfl ?_
      refine Ev.iconst (pc := 165) dX10_shift_165 (v := 0) (by decide) ?_
      refine Ev.istore_n (pc := 166) dX10_shift_166 (by decide) rfl rfl ?_
      exact Ev.fg (ev_X10_shift_167 _ _ _ _ _ h) (And.intro rfl (And.intro rfl (And.intro rfl trivial)))
theorem dX9_held_0 : decode cX9_held 0 = .ok (.iload_n 1, 1) := by decide +kernel
theorem dX9_held_1 : decode cX9_held 1 = .ok (.iconst 4, 1) := by decide +kernel
theorem dX9_held_2 : decode cX9_held 2 = .ok (.invokestatic 37, 3) := by decide +kernel
theorem dX9_held_5 : decode cX9_held 5 = .ok (.ifCond .ne 10, 3) := by decide +kernel
theorem dX9_held_8 : decode cX9_held 8 = .ok (.aload_n 0, 1) := by decide +kernel
theorem dX9_held_9 : decode cX9_held 9 = .ok (.ldc 41, 2) := by decide +kernel
theorem dX9_held_11 : decode cX9_held 11 = .ok (.invokevirtual 42, 3) := by decide +kernel
theorem dX9_held_14 : decode cX9_held 14 = .ok (.ireturn, 1) := by decide +kernel
theorem dX9_held_15 : decode cX9_held 15 = .ok (.aload_n 0, 1) := by decide +kernel
theorem dX9_held_16 : decode cX9_held 16 = .ok (.getfield 12, 3) := by decide +kernel
theorem dX9_held_19 : decode cX9_held 19 = .ok (.getfield 212, 3) := by decide +kernel
theorem dX9_held_22 : decode cX9_held 22 = .ok (.getfield 296, 3) := by decide +kernel
theorem dX9_held_25 : decode cX9_held 25 = .ok (.iload_n 1, 1) := by decide +kernel
theorem dX9_held_26 : decode cX9_held 26 = .ok (.iaload, 1) := by decide +kernel
theorem dX9_held_27 : decode cX9_held 27 = .ok (.ireturn, 1) := by decide +kernel
def F_X9_held (x1 : Int32) (M : eMem) : Option (Int32 × eMem) :=
  (F_X9_isIn x1 4).bind fun q1 =>
  if q1 = 0 then
    (F_X9_found (-1000001) M).bind fun q2 =>
    some (q2.1, q2.2)
  else
    eG (eIn x1 4) <|
    some ((M.1 37 x1.toNatClampNeg), M)
set_option maxRecDepth 100000 in
set_option maxHeartbeats 4000000 in
theorem ev_X9_held (x1 : Int32) (M : eMem) (q : (Int32 × eMem)) (h : F_X9_held x1 M = some q) : Ev layC 2 m_X9_held 0 [some (.ref 0), some (.int x1)] [] M (some (.int q.1), q.2) := by
  rw [F_X9_held] at h
  refine Ev.iload_n (pc := 0) dX9_held_0 rfl ?_
  refine Ev.iconst (pc := 1) dX9_held_1 (v := 4) (by decide) ?_
  refine eBk h (fun q1 hq1 h => ?_)
  refine Ev.callS (pc := 2) (as := [.int x1, .int 4]) (st := []) (z := 0) dX9_held_2 wc_X9_isIn ml_RX9_37 sm_X9_isIn (ev_X9_isIn x1 4 M _ hq1) rfl rfl (by decide) rfl rfl (Nat.le_of_ble_eq_true rfl) ?_
  refine Ev.if_ne (pc := 5) (tgt := 15) dX9_held_5 (by decide) (fun c9 => ?_) (fun c9 => ?_)
  · have h := eF h c9
    refine Ev.aload_n (pc := 15) dX9_held_15 rfl ?_
    refine Ev.getR (pc := 16) dX9_held_16 fl_RX9_12 lC_0 rfl ?_
    refine Ev.getR (pc := 19) dX9_held_19 fl_RX9_212 lC_1 rfl ?_
    refine Ev.getR (pc := 22) dX9_held_22 fl_RX9_296 lC_29 rfl ?_
    refine Ev.iload_n (pc := 25) dX9_held_25 rfl ?_
    obtain ⟨g9, h⟩ := eGdB h
    refine Ev.ialdj (pc := 26) dX9_held_26 (j := x1.toNatClampNeg) lC_37 g9 rfl ?_
    obtain rfl := Option.some.inj h
    exact Ev.iret (pc := 27) dX9_held_27 rfl rfl
  · have h := eT h c9
    refine Ev.aload_n (pc := 8) dX9_held_8 rfl ?_
    refine Ev.ldc (pc := 9) dX9_held_9 ld_RX9_41 ?_
    refine eBk h (fun q2 hq2 h => ?_)
    refine Ev.callV (pc := 11) (as := [.int (-1000001)]) (st := []) (z := 1) dX9_held_11 wc_X9_found ml_RX9_42 im_X9_found se_X9_found lC_0 rfl rfl (ev_X9_found (-1000001) M _ hq2) rfl rfl (by decide) rfl rfl (Nat.le_of_ble_eq_true rfl) ?_
    obtain rfl := Option.some.inj h
    exact Ev.iret (pc := 14) dX9_held_14 rfl rfl
theorem dX10_held_0 : decode cX10_held 0 = .ok (.iload_n 1, 1) := by decide +kernel
theorem dX10_held_1 : decode cX10_held 1 = .ok (.invokestatic 99, 3) := by decide +kernel
theorem dX10_held_4 : decode cX10_held 4 = .ok (.ifCond .eq 16, 3) := by decide +kernel
theorem dX10_held_7 : decode cX10_held 7 = .ok (.aload_n 0, 1) := by decide +kernel
theorem dX10_held_8 : decode cX10_held 8 = .ok (.getfield 7, 3) := by decide +kernel
theorem dX10_held_11 : decode cX10_held 11 = .ok (.sipush 294, 3) := by decide +kernel
theorem dX10_held_14 : decode cX10_held 14 = .ok (.iload_n 1, 1) := by decide +kernel
theorem dX10_held_15 : decode cX10_held 15 = .ok (.iadd, 1) := by decide +kernel
theorem dX10_held_16 : decode cX10_held 16 = .ok (.iaload, 1) := by decide +kernel
theorem dX10_held_17 : decode cX10_held 17 = .ok (.goto 8, 3) := by decide +kernel
theorem dX10_held_20 : decode cX10_held 20 = .ok (.aload_n 0, 1) := by decide +kernel
theorem dX10_held_21 : decode cX10_held 21 = .ok (.iconst 1, 1) := by decide +kernel
theorem dX10_held_22 : decode cX10_held 22 = .ok (.invokevirtual 66, 3) := by decide +kernel
theorem dX10_held_25 : decode cX10_held 25 = .ok (.ireturn, 1) := by decide +kernel
def F_X10_held (x1 : Int32) (M : eMem) : Option (Int32 × eMem) :=
  (F_X10_isStory x1).bind fun q1 =>
  if q1 = 0 then
    (F_X10_finding 1 M).bind fun q2 =>
    some (q2.1, q2.2)
  else
    eG (eIn (294 + x1) 2900) <|
    some ((M.1 1 (294 + x1).toNatClampNeg), M)
set_option maxRecDepth 100000 in
set_option maxHeartbeats 4000000 in
theorem ev_X10_held (x1 : Int32) (M : eMem) (q : (Int32 × eMem)) (h : F_X10_held x1 M = some q) : Ev layR 2 m_X10_held 0 [some (.ref 0), some (.int x1)] [] M (some (.int q.1), q.2) := by
  rw [F_X10_held] at h
  refine Ev.iload_n (pc := 0) dX10_held_0 rfl ?_
  refine eBk h (fun q1 hq1 h => ?_)
  refine Ev.callS (pc := 1) (as := [.int x1]) (st := []) (z := 0) dX10_held_1 wc_X10_isStory ml_RX10_99 sm_X10_isStory (ev_X10_isStory x1 M _ hq1) rfl rfl (by decide) rfl rfl (Nat.le_of_ble_eq_true rfl) ?_
  refine Ev.if_eq (pc := 4) (tgt := 20) dX10_held_4 (by decide) (fun c9 => ?_) (fun c9 => ?_)
  · have h := eT h c9
    refine Ev.aload_n (pc := 20) dX10_held_20 rfl ?_
    refine Ev.iconst (pc := 21) dX10_held_21 (v := 1) (by decide) ?_
    refine eBk h (fun q2 hq2 h => ?_)
    refine Ev.callV (pc := 22) (as := [.int 1]) (st := []) (z := 0) dX10_held_22 wc_X10_finding ml_RX10_66 im_X10_finding se_X10_finding lR_0 rfl rfl (ev_X10_finding 1 M _ hq2) rfl rfl (by decide) rfl rfl (Nat.le_of_ble_eq_true rfl) ?_
    obtain rfl := Option.some.inj h
    exact Ev.iret (pc := 25) dX10_held_25 rfl rfl
  · have h := eF h c9
    refine Ev.aload_n (pc := 7) dX10_held_7 rfl ?_
    refine Ev.getR (pc := 8) dX10_held_8 fl_RX10_7 lR_0 rfl ?_
    refine Ev.sipush (pc := 11) dX10_held_11 (v := 294) (by decide) ?_
    refine Ev.iload_n (pc := 14) dX10_held_14 rfl ?_
    refine Ev.iadd (pc := 15) dX10_held_15 ?_
    obtain ⟨g9, h⟩ := eGdB h
    refine Ev.ialdj (pc := 16) dX10_held_16 (j := (294 + x1).toNatClampNeg) lR_1 g9 rfl ?_
    refine Ev.goto (pc := 17) (tgt := 25) dX10_held_17 (by decide) ?_
    obtain rfl := Option.some.inj h
    exact Ev.iret (pc := 25) dX10_held_25 rfl rfl
theorem dX6_add_0 : decode cX6_add 0 = .ok (.aload_n 0, 1) := by decide +kernel
theorem dX6_add_1 : decode cX6_add 1 = .ok (.getfield 15, 3) := by decide +kernel
theorem dX6_add_4 : decode cX6_add 4 = .ok (.bipush 120, 2) := by decide +kernel
theorem dX6_add_6 : decode cX6_add 6 = .ok (.invokestatic 19, 3) := by decide +kernel
theorem dX6_add_9 : decode cX6_add 9 = .ok (.ifCond .eq 20, 3) := by decide +kernel
theorem dX6_add_12 : decode cX6_add 12 = .ok (.aload_n 0, 1) := by decide +kernel
theorem dX6_add_13 : decode cX6_add 13 = .ok (.getfield 9, 3) := by decide +kernel
theorem dX6_add_16 : decode cX6_add 16 = .ok (.aload_n 0, 1) := by decide +kernel
theorem dX6_add_17 : decode cX6_add 17 = .ok (.dup, 1) := by decide +kernel
theorem dX6_add_18 : decode cX6_add 18 = .ok (.getfield 15, 3) := by decide +kernel
theorem dX6_add_21 : decode cX6_add 21 = .ok (.dup_x1, 1) := by decide +kernel
theorem dX6_add_22 : decode cX6_add 22 = .ok (.iconst 1, 1) := by decide +kernel
theorem dX6_add_23 : decode cX6_add 23 = .ok (.iadd, 1) := by decide +kernel
theorem dX6_add_24 : decode cX6_add 24 = .ok (.putfield 15, 3) := by decide +kernel
theorem dX6_add_27 : decode cX6_add 27 = .ok (.iload_n 1, 1) := by decide +kernel
theorem dX6_add_28 : decode cX6_add 28 = .ok (.iastore, 1) := by decide +kernel
theorem dX6_add_29 : decode cX6_add 29 = .ok (.return_, 1) := by decide +kernel
def F_X6_add (x1 : Int32) (M : eMem) : Option eMem :=
  (F_X9_isIn (M.1 145 1) 120).bind fun q1 =>
  if q1 = 0 then
    some M
  else
    eG (eIn (M.1 145 1) 120) <|
    some (eI (eI M 145 1 ((M.1 145 1) + 1)) 146 (M.1 145 1).toNatClampNeg x1)
set_option maxRecDepth 100000 in
set_option maxHeartbeats 4000000 in
theorem ev_X6_add (x1 : Int32) (M : eMem) (q : eMem) (h : F_X6_add x1 M = some q) : Ev layC 1 m_X6_add 0 [some (.ref 145), some (.int x1)] [] M (none, q) := by
  rw [F_X6_add] at h
  refine Ev.aload_n (pc := 0) dX6_add_0 rfl ?_
  refine Ev.getI (pc := 1) dX6_add_1 fl_RX6_15 lC_145 rfl ?_
  refine Ev.bipush (pc := 4) dX6_add_4 (v := 120) (by decide) ?_
  refine eBk h (fun q1 hq1 h => ?_)
  refine Ev.callSN (host := "GhostCoast") (pc := 6) (as := [.int (M.1 145 1), .int 120]) (st := []) (z := 0) dX6_add_6 wc_X9_isIn mn_RX6_19 sm_X9_isIn (ev_X9_isIn (M.1 145 1) 120 M _ hq1) rfl rfl (by decide) rfl rfl (Nat.le_of_ble_eq_true rfl) ?_
  refine Ev.if_eq (pc := 9) (tgt := 29) dX6_add_9 (by decide) (fun c9 => ?_) (fun c9 => ?_)
  · have h := eT h c9
    obtain rfl := Option.some.inj h
    exact Ev.vret (pc := 29) dX6_add_29 rfl
  · have h := eF h c9
    refine Ev.aload_n (pc := 12) dX6_add_12 rfl ?_
    refine Ev.getR (pc := 13) dX6_add_13 fl_RX6_9 lC_145 rfl ?_
    refine Ev.aload_n (pc := 16) dX6_add_16 rfl ?_
    refine Ev.dup (pc := 17) dX6_add_17 rfl ?_
    refine Ev.getI (pc := 18) dX6_add_18 fl_RX6_15 lC_145 rfl ?_
    refine Ev.dup_x1 (pc := 21) dX6_add_21 rfl rfl ?_
    refine Ev.iconst (pc := 22) dX6_add_22 (v := 1) (by decide) ?_
    refine Ev.iadd (pc := 23) dX6_add_23 ?_
    refine Ev.putI (pc := 24) dX6_add_24 fp_RX6_15 lC_145 rfl rfl rfl ?_
    refine Ev.iload_n (pc := 27) dX6_add_27 rfl ?_
    obtain ⟨g9, h⟩ := eGdB h
    refine Ev.iastj (pc := 28) dX6_add_28 (j := (M.1 145 1).toNatClampNeg) lC_146 g9 rfl ?_
    obtain rfl := Option.some.inj h
    exact Ev.vret (pc := 29) dX6_add_29 rfl
theorem dX9_feed_0 : decode cX9_feed 0 = .ok (.iload_n 2, 1) := by decide +kernel
theorem dX9_feed_1 : decode cX9_feed 1 = .ok (.iconst 1, 1) := by decide +kernel
theorem dX9_feed_2 : decode cX9_feed 2 = .ok (.iconst 4, 1) := by decide +kernel
theorem dX9_feed_3 : decode cX9_feed 3 = .ok (.invokestatic 55, 3) := by decide +kernel
theorem dX9_feed_6 : decode cX9_feed 6 = .ok (.ifCond .ne 10, 3) := by decide +kernel
theorem dX9_feed_9 : decode cX9_feed 9 = .ok (.aload_n 0, 1) := by decide +kernel
theorem dX9_feed_10 : decode cX9_feed 10 = .ok (.ldc 41, 2) := by decide +kernel
theorem dX9_feed_12 : decode cX9_feed 12 = .ok (.invokevirtual 42, 3) := by decide +kernel
theorem dX9_feed_15 : decode cX9_feed 15 = .ok (.ireturn, 1) := by decide +kernel
theorem dX9_feed_16 : decode cX9_feed 16 = .ok (.aload_n 0, 1) := by decide +kernel
theorem dX9_feed_17 : decode cX9_feed 17 = .ok (.getfield 22, 3) := by decide +kernel
theorem dX9_feed_20 : decode cX9_feed 20 = .ok (.getfield 299, 3) := by decide +kernel
theorem dX9_feed_23 : decode cX9_feed 23 = .ok (.iload_n 2, 1) := by decide +kernel
theorem dX9_feed_24 : decode cX9_feed 24 = .ok (.iadd, 1) := by decide +kernel
theorem dX9_feed_25 : decode cX9_feed 25 = .ok (.bipush 120, 2) := by decide +kernel
theorem dX9_feed_27 : decode cX9_feed 27 = .ok (.if_icmp .le 10, 3) := by decide +kernel
theorem dX9_feed_30 : decode cX9_feed 30 = .ok (.aload_n 0, 1) := by decide +kernel
theorem dX9_feed_31 : decode cX9_feed 31 = .ok (.ldc 63, 2) := by decide +kernel
theorem dX9_feed_33 : decode cX9_feed 33 = .ok (.invokevirtual 42, 3) := by decide +kernel
theorem dX9_feed_36 : decode cX9_feed 36 = .ok (.ireturn, 1) := by decide +kernel
theorem dX9_feed_37 : decode cX9_feed 37 = .ok (.iload_n 2, 1) := by decide +kernel
theorem dX9_feed_38 : decode cX9_feed 38 = .ok (.iconst 1, 1) := by decide +kernel
theorem dX9_feed_39 : decode cX9_feed 39 = .ok (.isub, 1) := by decide +kernel
theorem dX9_feed_40 : decode cX9_feed 40 = .ok (.istore_n 3, 1) := by decide +kernel
theorem dX9_feed_41 : decode cX9_feed 41 = .ok (.iload_n 3, 1) := by decide +kernel
theorem dX9_feed_42 : decode cX9_feed 42 = .ok (.ifCond .lt 26, 3) := by decide +kernel
theorem dX9_feed_45 : decode cX9_feed 45 = .ok (.aload_n 0, 1) := by decide +kernel
theorem dX9_feed_46 : decode cX9_feed 46 = .ok (.getfield 22, 3) := by decide +kernel
theorem dX9_feed_49 : decode cX9_feed 49 = .ok (.iload_n 1, 1) := by decide +kernel
theorem dX9_feed_50 : decode cX9_feed 50 = .ok (.bipush 8, 2) := by decide +kernel
theorem dX9_feed_52 : decode cX9_feed 52 = .ok (.iload_n 3, 1) := by decide +kernel
theorem dX9_feed_53 : decode cX9_feed 53 = .ok (.imul, 1) := by decide +kernel
theorem dX9_feed_54 : decode cX9_feed 54 = .ok (.ishr, 1) := by decide +kernel
theorem dX9_feed_55 : decode cX9_feed 55 = .ok (.sipush 255, 3) := by decide +kernel
theorem dX9_feed_58 : decode cX9_feed 58 = .ok (.iand, 1) := by decide +kernel
theorem dX9_feed_59 : decode cX9_feed 59 = .ok (.invokevirtual 301, 3) := by decide +kernel
theorem dX9_feed_62 : decode cX9_feed 62 = .ok (.iinc 3 (-1), 3) := by decide +kernel
theorem dX9_feed_65 : decode cX9_feed 65 = .ok (.goto (-24), 3) := by decide +kernel
theorem dX9_feed_68 : decode cX9_feed 68 = .ok (.aload_n 0, 1) := by decide +kernel
theorem dX9_feed_69 : decode cX9_feed 69 = .ok (.getfield 22, 3) := by decide +kernel
theorem dX9_feed_72 : decode cX9_feed 72 = .ok (.getfield 299, 3) := by decide +kernel
theorem dX9_feed_75 : decode cX9_feed 75 = .ok (.ireturn, 1) := by decide +kernel
def F_X9_feed_41  : Nat → Int32 → Int32 → eMem → Option (Int32 × eMem)
  | 0, _, _, _ => none
  | n + 1, v1, v3, M =>
    if v3 < 0 then
      some ((M.1 145 1), M)
    else
      (F_X6_add ((v1 >>> ((8 * v3) &&& 31)) &&& 255) M).bind fun q2 =>
      F_X9_feed_41 n v1 (v3 + (-1)) q2
set_option maxRecDepth 100000 in
set_option maxHeartbeats 4000000 in
theorem ev_X9_feed_41  (q : (Int32 × eMem))  : ∀ (fuel : Nat) (v1 : Int32) (v3 : Int32) (M : eMem), F_X9_feed_41 fuel v1 v3 M = some q → Ev layC 2 m_X9_feed 41 [some (.ref 0), some (.int v1), none, some (.int v3)] [] M (some (.int q.1), q.2) := by
  intro fuel
  induction fuel with
  | zero => intro v1 v3 M h; rw [F_X9_feed_41] at h; cases h
  | succ n ih =>
    intro v1 v3 M h
    rw [F_X9_feed_41] at h
    refine Ev.iload_n (pc := 41) dX9_feed_41 rfl ?_
    refine Ev.if_lt (pc := 42) (tgt := 68) dX9_feed_42 (by decide) (fun c9 => ?_) (fun c9 => ?_)
    · have h := eT h c9
      refine Ev.aload_n (pc := 68) dX9_feed_68 rfl ?_
      refine Ev.getR (pc := 69) dX9_feed_69 fl_RX9_22 lC_0 rfl ?_
      refine Ev.getI (pc := 72) dX9_feed_72 fl_RX9_299 lC_145 rfl ?_
      obtain rfl := Option.some.inj h
      exact Ev.iret (pc := 75) dX9_feed_75 rfl rfl
    · have h := eF h c9
      refine Ev.aload_n (pc := 45) dX9_feed_45 rfl ?_
      refine Ev.getR (pc := 46) dX9_feed_46 fl_RX9_22 lC_0 rfl ?_
      refine Ev.iload_n (pc := 49) dX9_feed_49 rfl ?_
      refine Ev.bipush (pc := 50) dX9_feed_50 (v := 8) (by decide) ?_
      refine Ev.iload_n (pc := 52) dX9_feed_52 rfl ?_
      refine Ev.imul (pc := 53) dX9_feed_53 ?_
      refine Ev.ishr (pc := 54) dX9_feed_54 ?_
      refine Ev.sipush (pc := 55) dX9_feed_55 (v := 255) (by decide) ?_
      refine Ev.iand (pc := 58) dX9_feed_58 ?_
      refine eBk h (fun q2 hq2 h => ?_)
      refine Ev.callV (pc := 59) (as := [.int ((v1 >>> ((8 * v3) &&& 31)) &&& 255)]) (st := []) (z := 0) dX9_feed_59 wc_X6_add ml_RX9_301 im_X6_add se_X6_add lC_145 rfl rfl (ev_X6_add ((v1 >>> ((8 * v3) &&& 31)) &&& 255) M _ hq2) rfl rfl (by decide) rfl rfl (Nat.le_of_ble_eq_true rfl) ?_
      refine Ev.iincv (pc := 62) dX9_feed_62 (v := (-1)) (by decide) rfl (by decide) rfl rfl ?_
      refine Ev.goto (pc := 65) (tgt := 41) dX9_feed_65 (by decide) ?_
      exact Ev.fg (ih _ _ _ h) (And.intro rfl (And.intro rfl (And.intro rfl trivial)))
def F_X9_feed (x1 : Int32) (x2 : Int32) (M : eMem) : Option (Int32 × eMem) :=
  (F_X9_isBetween x2 1 4).bind fun q1 =>
  if q1 = 0 then
    (F_X9_found (-1000001) M).bind fun q4 =>
    some (q4.1, q4.2)
  else
    if 120 < ((M.1 145 1) + x2) then
      (F_X9_found (-1000002) M).bind fun q3 =>
      some (q3.1, q3.2)
    else
      F_X9_feed_41 eFuel x1 (x2 - 1) M
set_option maxRecDepth 100000 in
set_option maxHeartbeats 4000000 in
theorem ev_X9_feed (x1 : Int32) (x2 : Int32) (M : eMem) (q : (Int32 × eMem)) (h : F_X9_feed x1 x2 M = some q) : Ev layC 2 m_X9_feed 0 [some (.ref 0), some (.int x1), some (.int x2), none] [] M (some (.int q.1), q.2) := by
  rw [F_X9_feed] at h
  refine Ev.iload_n (pc := 0) dX9_feed_0 rfl ?_
  refine Ev.iconst (pc := 1) dX9_feed_1 (v := 1) (by decide) ?_
  refine Ev.iconst (pc := 2) dX9_feed_2 (v := 4) (by decide) ?_
  refine eBk h (fun q1 hq1 h => ?_)
  refine Ev.callS (pc := 3) (as := [.int x2, .int 1, .int 4]) (st := []) (z := 0) dX9_feed_3 wc_X9_isBetween ml_RX9_55 sm_X9_isBetween (ev_X9_isBetween x2 1 4 M _ hq1) rfl rfl (by decide) rfl rfl (Nat.le_of_ble_eq_true rfl) ?_
  refine Ev.if_ne (pc := 6) (tgt := 16) dX9_feed_6 (by decide) (fun c9 => ?_) (fun c9 => ?_)
  · have h := eF h c9
    refine Ev.aload_n (pc := 16) dX9_feed_16 rfl ?_
    refine Ev.getR (pc := 17) dX9_feed_17 fl_RX9_22 lC_0 rfl ?_
    refine Ev.getI (pc := 20) dX9_feed_20 fl_RX9_299 lC_145 rfl ?_
    refine Ev.iload_n (pc := 23) dX9_feed_23 rfl ?_
    refine Ev.iadd (pc := 24) dX9_feed_24 ?_
    refine Ev.bipush (pc := 25) dX9_feed_25 (v := 120) (by decide) ?_
    refine Ev.icmp_le (pc := 27) (tgt := 37) dX9_feed_27 (by decide) (fun c9 => ?_) (fun c9 => ?_)
    · have h := eF h c9
      refine Ev.iload_n (pc := 37) dX9_feed_37 rfl ?_
      refine Ev.iconst (pc := 38) dX9_feed_38 (v := 1) (by decide) ?_
      refine Ev.isub (pc := 39) dX9_feed_39 ?_
      refine Ev.istore_n (pc := 40) dX9_feed_40 (by decide) rfl rfl ?_
      exact Ev.fg (ev_X9_feed_41 _ _ _ _ _ h) (And.intro rfl (And.intro rfl (And.intro rfl trivial)))
    · have h := eT h c9
      refine Ev.aload_n (pc := 30) dX9_feed_30 rfl ?_
      refine Ev.ldc (pc := 31) dX9_feed_31 ld_RX9_63 ?_
      refine eBk h (fun q3 hq3 h => ?_)
      refine Ev.callV (pc := 33) (as := [.int (-1000002)]) (st := []) (z := 1) dX9_feed_33 wc_X9_found ml_RX9_42 im_X9_found se_X9_found lC_0 rfl rfl (ev_X9_found (-1000002) M _ hq3) rfl rfl (by decide) rfl rfl (Nat.le_of_ble_eq_true rfl) ?_
      obtain rfl := Option.some.inj h
      exact Ev.iret (pc := 36) dX9_feed_36 rfl rfl
  · have h := eT h c9
    refine Ev.aload_n (pc := 9) dX9_feed_9 rfl ?_
    refine Ev.ldc (pc := 10) dX9_feed_10 ld_RX9_41 ?_
    refine eBk h (fun q4 hq4 h => ?_)
    refine Ev.callV (pc := 12) (as := [.int (-1000001)]) (st := []) (z := 1) dX9_feed_12 wc_X9_found ml_RX9_42 im_X9_found se_X9_found lC_0 rfl rfl (ev_X9_found (-1000001) M _ hq4) rfl rfl (by decide) rfl rfl (Nat.le_of_ble_eq_true rfl) ?_
    obtain rfl := Option.some.inj h
    exact Ev.iret (pc := 15) dX9_feed_15 rfl rfl
theorem dX10_feed_0 : decode cX10_feed 0 = .ok (.iload_n 2, 1) := by decide +kernel
theorem dX10_feed_1 : decode cX10_feed 1 = .ok (.iconst 1, 1) := by decide +kernel
theorem dX10_feed_2 : decode cX10_feed 2 = .ok (.iconst 4, 1) := by decide +kernel
theorem dX10_feed_3 : decode cX10_feed 3 = .ok (.invokestatic 58, 3) := by decide +kernel
theorem dX10_feed_6 : decode cX10_feed 6 = .ok (.ifCond .ne 9, 3) := by decide +kernel
theorem dX10_feed_9 : decode cX10_feed 9 = .ok (.aload_n 0, 1) := by decide +kernel
theorem dX10_feed_10 : decode cX10_feed 10 = .ok (.iconst 1, 1) := by decide +kernel
theorem dX10_feed_11 : decode cX10_feed 11 = .ok (.invokevirtual 66, 3) := by decide +kernel
theorem dX10_feed_14 : decode cX10_feed 14 = .ok (.ireturn, 1) := by decide +kernel
theorem dX10_feed_15 : decode cX10_feed 15 = .ok (.aload_n 0, 1) := by decide +kernel
theorem dX10_feed_16 : decode cX10_feed 16 = .ok (.getfield 179, 3) := by decide +kernel
theorem dX10_feed_19 : decode cX10_feed 19 = .ok (.iload_n 2, 1) := by decide +kernel
theorem dX10_feed_20 : decode cX10_feed 20 = .ok (.iadd, 1) := by decide +kernel
theorem dX10_feed_21 : decode cX10_feed 21 = .ok (.bipush 120, 2) := by decide +kernel
theorem dX10_feed_23 : decode cX10_feed 23 = .ok (.if_icmp .le 9, 3) := by decide +kernel
theorem dX10_feed_26 : decode cX10_feed 26 = .ok (.aload_n 0, 1) := by decide +kernel
theorem dX10_feed_27 : decode cX10_feed 27 = .ok (.iconst 2, 1) := by decide +kernel
theorem dX10_feed_28 : decode cX10_feed 28 = .ok (.invokevirtual 66, 3) := by decide +kernel
theorem dX10_feed_31 : decode cX10_feed 31 = .ok (.ireturn, 1) := by decide +kernel
theorem dX10_feed_32 : decode cX10_feed 32 = .ok (.iload_n 2, 1) := by decide +kernel
theorem dX10_feed_33 : decode cX10_feed 33 = .ok (.iconst 1, 1) := by decide +kernel
theorem dX10_feed_34 : decode cX10_feed 34 = .ok (.isub, 1) := by decide +kernel
theorem dX10_feed_35 : decode cX10_feed 35 = .ok (.istore_n 3, 1) := by decide +kernel
theorem dX10_feed_36 : decode cX10_feed 36 = .ok (.iload_n 3, 1) := by decide +kernel
theorem dX10_feed_37 : decode cX10_feed 37 = .ok (.ifCond .lt 35, 3) := by decide +kernel
theorem dX10_feed_40 : decode cX10_feed 40 = .ok (.aload_n 0, 1) := by decide +kernel
theorem dX10_feed_41 : decode cX10_feed 41 = .ok (.getfield 16, 3) := by decide +kernel
theorem dX10_feed_44 : decode cX10_feed 44 = .ok (.aload_n 0, 1) := by decide +kernel
theorem dX10_feed_45 : decode cX10_feed 45 = .ok (.getfield 179, 3) := by decide +kernel
theorem dX10_feed_48 : decode cX10_feed 48 = .ok (.iload_n 1, 1) := by decide +kernel
theorem dX10_feed_49 : decode cX10_feed 49 = .ok (.bipush 8, 2) := by decide +kernel
theorem dX10_feed_51 : decode cX10_feed 51 = .ok (.iload_n 3, 1) := by decide +kernel
theorem dX10_feed_52 : decode cX10_feed 52 = .ok (.imul, 1) := by decide +kernel
theorem dX10_feed_53 : decode cX10_feed 53 = .ok (.ishr, 1) := by decide +kernel
theorem dX10_feed_54 : decode cX10_feed 54 = .ok (.i2b, 1) := by decide +kernel
theorem dX10_feed_55 : decode cX10_feed 55 = .ok (.bastore, 1) := by decide +kernel
theorem dX10_feed_56 : decode cX10_feed 56 = .ok (.aload_n 0, 1) := by decide +kernel
theorem dX10_feed_57 : decode cX10_feed 57 = .ok (.dup, 1) := by decide +kernel
theorem dX10_feed_58 : decode cX10_feed 58 = .ok (.getfield 179, 3) := by decide +kernel
theorem dX10_feed_61 : decode cX10_feed 61 = .ok (.iconst 1, 1) := by decide +kernel
theorem dX10_feed_62 : decode cX10_feed 62 = .ok (.iadd, 1) := by decide +kernel
theorem dX10_feed_63 : decode cX10_feed 63 = .ok (.putfield 179, 3) := by decide +kernel
theorem dX10_feed_66 : decode cX10_feed 66 = .ok (.iinc 3 (-1), 3) := by decide +kernel
theorem dX10_feed_69 : decode cX10_feed 69 = .ok (.goto (-33), 3) := by decide +kernel
theorem dX10_feed_72 : decode cX10_feed 72 = .ok (.aload_n 0, 1) := by decide +kernel
theorem dX10_feed_73 : decode cX10_feed 73 = .ok (.getfield 179, 3) := by decide +kernel
theorem dX10_feed_76 : decode cX10_feed 76 = .ok (.ireturn, 1) := by decide +kernel
def F_X10_feed_36  : Nat → Int32 → Int32 → eMem → Option (Int32 × eMem)
  | 0, _, _, _ => none
  | n + 1, v1, v3, M =>
    if v3 < 0 then
      some ((M.1 0 3), M)
    else
      eG (eIn (M.1 0 3) 120) <|
      F_X10_feed_36 n v1 (v3 + (-1)) (eI (eI M 3 (M.1 0 3).toNatClampNeg (vp_nar .byte (v1 >>> ((8 * v3) &&& 31)).toInt8.toInt32)) 0 3 ((M.1 0 3) + 1))
set_option maxRecDepth 100000 in
set_option maxHeartbeats 4000000 in
theorem ev_X10_feed_36  (q : (Int32 × eMem))  : ∀ (fuel : Nat) (v1 : Int32) (v3 : Int32) (M : eMem), F_X10_feed_36 fuel v1 v3 M = some q → Ev layR 1 m_X10_feed 36 [some (.ref 0), some (.int v1), none, some (.int v3)] [] M (some (.int q.1), q.2) := by
  intro fuel
  induction fuel with
  | zero => intro v1 v3 M h; rw [F_X10_feed_36] at h; cases h
  | succ n ih =>
    intro v1 v3 M h
    rw [F_X10_feed_36] at h
    refine Ev.iload_n (pc := 36) dX10_feed_36 rfl ?_
    refine Ev.if_lt (pc := 37) (tgt := 72) dX10_feed_37 (by decide) (fun c9 => ?_) (fun c9 => ?_)
    · have h := eT h c9
      refine Ev.aload_n (pc := 72) dX10_feed_72 rfl ?_
      refine Ev.getI (pc := 73) dX10_feed_73 fl_RX10_179 lR_0 rfl ?_
      obtain rfl := Option.some.inj h
      exact Ev.iret (pc := 76) dX10_feed_76 rfl rfl
    · have h := eF h c9
      refine Ev.aload_n (pc := 40) dX10_feed_40 rfl ?_
      refine Ev.getR (pc := 41) dX10_feed_41 fl_RX10_16 lR_0 rfl ?_
      refine Ev.aload_n (pc := 44) dX10_feed_44 rfl ?_
      refine Ev.getI (pc := 45) dX10_feed_45 fl_RX10_179 lR_0 rfl ?_
      refine Ev.iload_n (pc := 48) dX10_feed_48 rfl ?_
      refine Ev.bipush (pc := 49) dX10_feed_49 (v := 8) (by decide) ?_
      refine Ev.iload_n (pc := 51) dX10_feed_51 rfl ?_
      refine Ev.imul (pc := 52) dX10_feed_52 ?_
      refine Ev.ishr (pc := 53) dX10_feed_53 ?_
      refine Ev.i2b (pc := 54) dX10_feed_54 ?_
      obtain ⟨g9, h⟩ := eGdB h
      refine Ev.bastj (pc := 55) dX10_feed_55 (j := (M.1 0 3).toNatClampNeg) lR_3 g9 rfl ?_
      refine Ev.aload_n (pc := 56) dX10_feed_56 rfl ?_
      refine Ev.dup (pc := 57) dX10_feed_57 rfl ?_
      refine Ev.getIv (pc := 58) dX10_feed_58 (v := (M.1 0 3)) fl_RX10_179 lR_0 rfl (eI_n (by decide)) ?_
      refine Ev.iconst (pc := 61) dX10_feed_61 (v := 1) (by decide) ?_
      refine Ev.iadd (pc := 62) dX10_feed_62 ?_
      refine Ev.putI (pc := 63) dX10_feed_63 fp_RX10_179 lR_0 rfl rfl rfl ?_
      refine Ev.iincv (pc := 66) dX10_feed_66 (v := (-1)) (by decide) rfl (by decide) rfl rfl ?_
      refine Ev.goto (pc := 69) (tgt := 36) dX10_feed_69 (by decide) ?_
      exact Ev.fg (ih _ _ _ h) (And.intro rfl (And.intro rfl (And.intro rfl trivial)))
def F_X10_feed (x1 : Int32) (x2 : Int32) (M : eMem) : Option (Int32 × eMem) :=
  (F_X10_in x2 1 4).bind fun q1 =>
  if q1 = 0 then
    (F_X10_finding 1 M).bind fun q3 =>
    some (q3.1, q3.2)
  else
    if 120 < ((M.1 0 3) + x2) then
      (F_X10_finding 2 M).bind fun q2 =>
      some (q2.1, q2.2)
    else
      F_X10_feed_36 eFuel x1 (x2 - 1) M
set_option maxRecDepth 100000 in
set_option maxHeartbeats 4000000 in
theorem ev_X10_feed (x1 : Int32) (x2 : Int32) (M : eMem) (q : (Int32 × eMem)) (h : F_X10_feed x1 x2 M = some q) : Ev layR 1 m_X10_feed 0 [some (.ref 0), some (.int x1), some (.int x2), none] [] M (some (.int q.1), q.2) := by
  rw [F_X10_feed] at h
  refine Ev.iload_n (pc := 0) dX10_feed_0 rfl ?_
  refine Ev.iconst (pc := 1) dX10_feed_1 (v := 1) (by decide) ?_
  refine Ev.iconst (pc := 2) dX10_feed_2 (v := 4) (by decide) ?_
  refine eBk h (fun q1 hq1 h => ?_)
  refine Ev.callS (pc := 3) (as := [.int x2, .int 1, .int 4]) (st := []) (z := 0) dX10_feed_3 wc_X10_in ml_RX10_58 sm_X10_in (ev_X10_in x2 1 4 M _ hq1) rfl rfl (by decide) rfl rfl (Nat.le_of_ble_eq_true rfl) ?_
  refine Ev.if_ne (pc := 6) (tgt := 15) dX10_feed_6 (by decide) (fun c9 => ?_) (fun c9 => ?_)
  · have h := eF h c9
    refine Ev.aload_n (pc := 15) dX10_feed_15 rfl ?_
    refine Ev.getI (pc := 16) dX10_feed_16 fl_RX10_179 lR_0 rfl ?_
    refine Ev.iload_n (pc := 19) dX10_feed_19 rfl ?_
    refine Ev.iadd (pc := 20) dX10_feed_20 ?_
    refine Ev.bipush (pc := 21) dX10_feed_21 (v := 120) (by decide) ?_
    refine Ev.icmp_le (pc := 23) (tgt := 32) dX10_feed_23 (by decide) (fun c9 => ?_) (fun c9 => ?_)
    · have h := eF h c9
      refine Ev.iload_n (pc := 32) dX10_feed_32 rfl ?_
      refine Ev.iconst (pc := 33) dX10_feed_33 (v := 1) (by decide) ?_
      refine Ev.isub (pc := 34) dX10_feed_34 ?_
      refine Ev.istore_n (pc := 35) dX10_feed_35 (by decide) rfl rfl ?_
      exact Ev.fg (ev_X10_feed_36 _ _ _ _ _ h) (And.intro rfl (And.intro rfl (And.intro rfl trivial)))
    · have h := eT h c9
      refine Ev.aload_n (pc := 26) dX10_feed_26 rfl ?_
      refine Ev.iconst (pc := 27) dX10_feed_27 (v := 2) (by decide) ?_
      refine eBk h (fun q2 hq2 h => ?_)
      refine Ev.callV (pc := 28) (as := [.int 2]) (st := []) (z := 0) dX10_feed_28 wc_X10_finding ml_RX10_66 im_X10_finding se_X10_finding lR_0 rfl rfl (ev_X10_finding 2 M _ hq2) rfl rfl (by decide) rfl rfl (Nat.le_of_ble_eq_true rfl) ?_
      obtain rfl := Option.some.inj h
      exact Ev.iret (pc := 31) dX10_feed_31 rfl rfl
  · have h := eT h c9
    refine Ev.aload_n (pc := 9) dX10_feed_9 rfl ?_
    refine Ev.iconst (pc := 10) dX10_feed_10 (v := 1) (by decide) ?_
    refine eBk h (fun q3 hq3 h => ?_)
    refine Ev.callV (pc := 11) (as := [.int 1]) (st := []) (z := 0) dX10_feed_11 wc_X10_finding ml_RX10_66 im_X10_finding se_X10_finding lR_0 rfl rfl (ev_X10_finding 1 M _ hq3) rfl rfl (by decide) rfl rfl (Nat.le_of_ble_eq_true rfl) ?_
    obtain rfl := Option.some.inj h
    exact Ev.iret (pc := 14) dX10_feed_14 rfl rfl
theorem dJ0_coder_7d493_0 : decode cJ0_coder_7d493 0 = .ok (.getstatic 38, 3) := by decide +kernel
theorem dJ0_coder_7d493_3 : decode cJ0_coder_7d493 3 = .ok (.ifCond .eq 10, 3) := by decide +kernel
theorem dJ0_coder_7d493_6 : decode cJ0_coder_7d493 6 = .ok (.aload_n 0, 1) := by decide +kernel
theorem dJ0_coder_7d493_7 : decode cJ0_coder_7d493 7 = .ok (.getfield 15, 3) := by decide +kernel
theorem dJ0_coder_7d493_10 : decode cJ0_coder_7d493 10 = .ok (.goto 4, 3) := by decide +kernel
theorem dJ0_coder_7d493_13 : decode cJ0_coder_7d493 13 = .ok (.iconst 1, 1) := by decide +kernel
theorem dJ0_coder_7d493_14 : decode cJ0_coder_7d493 14 = .ok (.ireturn, 1) := by decide +kernel
def F_J0_coder_7d493  : Option Int32 :=
  some 0
set_option maxRecDepth 100000 in
set_option maxHeartbeats 4000000 in
theorem ev_J0_coder_7d493 {lay : List eLC}  (M : eMem) (q : Int32) (h : F_J0_coder_7d493  = some q) : Ev lay 0 m_J0_coder_7d493 0 [some (.ref 2000)] [] M (some (.int q), M) := by
  rw [F_J0_coder_7d493] at h
  refine Ev.getCS (pc := 0) dJ0_coder_7d493_0 fx_RJ0_38 ?_
  refine Ev.if_eq (pc := 3) (tgt := 13) dJ0_coder_7d493_3 (by decide) (fun c9 => ?_) (fun c9 => ?_)
  · exact absurd c9 (by decide)
  · refine Ev.aload_n (pc := 6) dJ0_coder_7d493_6 rfl ?_
    refine Ev.strCod (pc := 7) dJ0_coder_7d493_7 (j := 0) (by decide) fx_RJ0_15 ?_
    refine Ev.goto (pc := 10) (tgt := 14) dJ0_coder_7d493_10 (by decide) ?_
    obtain rfl := Option.some.inj h
    exact Ev.iret (pc := 14) dJ0_coder_7d493_14 rfl rfl
theorem dJ0_length_8abf5_0 : decode cJ0_length_8abf5 0 = .ok (.aload_n 0, 1) := by decide +kernel
theorem dJ0_length_8abf5_1 : decode cJ0_length_8abf5 1 = .ok (.getfield 9, 3) := by decide +kernel
theorem dJ0_length_8abf5_4 : decode cJ0_length_8abf5 4 = .ok (.arraylength, 1) := by decide +kernel
theorem dJ0_length_8abf5_5 : decode cJ0_length_8abf5 5 = .ok (.aload_n 0, 1) := by decide +kernel
theorem dJ0_length_8abf5_6 : decode cJ0_length_8abf5 6 = .ok (.invokevirtual 335, 3) := by decide +kernel
theorem dJ0_length_8abf5_9 : decode cJ0_length_8abf5 9 = .ok (.ishr, 1) := by decide +kernel
theorem dJ0_length_8abf5_10 : decode cJ0_length_8abf5 10 = .ok (.ireturn, 1) := by decide +kernel
def F_J0_length_8abf5  : Option Int32 :=
  (F_J0_coder_7d493 ).bind fun q1 =>
  some (13 >>> (q1 &&& 31))
set_option maxRecDepth 100000 in
set_option maxHeartbeats 4000000 in
theorem ev_J0_length_8abf5 {lay : List eLC}  (M : eMem) (q : Int32) (h : F_J0_length_8abf5  = some q) : Ev lay 1 m_J0_length_8abf5 0 [some (.ref 2000)] [] M (some (.int q), M) := by
  rw [F_J0_length_8abf5] at h
  refine Ev.aload_n (pc := 0) dJ0_length_8abf5_0 rfl ?_
  refine Ev.strVal (pc := 1) dJ0_length_8abf5_1 (j := 0) (by decide) fx_RJ0_9 ?_
  refine Ev.strLenj (pc := 4) dJ0_length_8abf5_4 (j := 0) (v := 13) (by decide) (by decide) ?_
  refine Ev.aload_n (pc := 5) dJ0_length_8abf5_5 rfl ?_
  refine eBk h (fun q1 hq1 h => ?_)
  refine Ev.callVS (pc := 6) (j := 0) (as := []) (st := [.int 13]) (z := 0) dJ0_length_8abf5_6 wc_J0_coder_7d493 ml_RJ0_335 im_J0_coder_7d493 se_J0_coder_7d493 (by decide) rfl (ev_J0_coder_7d493  M _ hq1) rfl rfl (by decide) rfl rfl (Nat.le_of_ble_eq_true rfl) ?_
  refine Ev.ishr (pc := 9) dJ0_length_8abf5_9 ?_
  obtain rfl := Option.some.inj h
  exact Ev.iret (pc := 10) dJ0_length_8abf5_10 rfl rfl
theorem dJ0_isLatin1_aae02_0 : decode cJ0_isLatin1_aae02 0 = .ok (.getstatic 38, 3) := by decide +kernel
theorem dJ0_isLatin1_aae02_3 : decode cJ0_isLatin1_aae02 3 = .ok (.ifCond .eq 14, 3) := by decide +kernel
theorem dJ0_isLatin1_aae02_6 : decode cJ0_isLatin1_aae02 6 = .ok (.aload_n 0, 1) := by decide +kernel
theorem dJ0_isLatin1_aae02_7 : decode cJ0_isLatin1_aae02 7 = .ok (.getfield 15, 3) := by decide +kernel
theorem dJ0_isLatin1_aae02_10 : decode cJ0_isLatin1_aae02 10 = .ok (.ifCond .ne 7, 3) := by decide +kernel
theorem dJ0_isLatin1_aae02_13 : decode cJ0_isLatin1_aae02 13 = .ok (.iconst 1, 1) := by decide +kernel
theorem dJ0_isLatin1_aae02_14 : decode cJ0_isLatin1_aae02 14 = .ok (.goto 4, 3) := by decide +kernel
theorem dJ0_isLatin1_aae02_17 : decode cJ0_isLatin1_aae02 17 = .ok (.iconst 0, 1) := by decide +kernel
theorem dJ0_isLatin1_aae02_18 : decode cJ0_isLatin1_aae02 18 = .ok (.ireturn, 1) := by decide +kernel
def F_J0_isLatin1_aae02  : Option Int32 :=
  some 1
set_option maxRecDepth 100000 in
set_option maxHeartbeats 4000000 in
theorem ev_J0_isLatin1_aae02 {lay : List eLC}  (M : eMem) (q : Int32) (h : F_J0_isLatin1_aae02  = some q) : Ev lay 0 m_J0_isLatin1_aae02 0 [some (.ref 2000)] [] M (some (.int q), M) := by
  rw [F_J0_isLatin1_aae02] at h
  refine Ev.getCS (pc := 0) dJ0_isLatin1_aae02_0 fx_RJ0_38 ?_
  refine Ev.if_eq (pc := 3) (tgt := 17) dJ0_isLatin1_aae02_3 (by decide) (fun c9 => ?_) (fun c9 => ?_)
  · exact absurd c9 (by decide)
  · refine Ev.aload_n (pc := 6) dJ0_isLatin1_aae02_6 rfl ?_
    refine Ev.strCod (pc := 7) dJ0_isLatin1_aae02_7 (j := 0) (by decide) fx_RJ0_15 ?_
    refine Ev.if_ne (pc := 10) (tgt := 17) dJ0_isLatin1_aae02_10 (by decide) (fun c9 => ?_) (fun c9 => ?_)
    · exact absurd c9 (by decide)
    · refine Ev.iconst (pc := 13) dJ0_isLatin1_aae02_13 (v := 1) (by decide) ?_
      refine Ev.goto (pc := 14) (tgt := 18) dJ0_isLatin1_aae02_14 (by decide) ?_
      obtain rfl := Option.some.inj h
      exact Ev.iret (pc := 18) dJ0_isLatin1_aae02_18 rfl rfl
theorem dJ1_charAt_3b067_0 : decode cJ1_charAt_3b067 0 = .ok (.iload_n 1, 1) := by decide +kernel
theorem dJ1_charAt_3b067_1 : decode cJ1_charAt_3b067 1 = .ok (.aload_n 0, 1) := by decide +kernel
theorem dJ1_charAt_3b067_2 : decode cJ1_charAt_3b067 2 = .ok (.arraylength, 1) := by decide +kernel
theorem dJ1_charAt_3b067_3 : decode cJ1_charAt_3b067 3 = .ok (.invokestatic 9, 3) := by decide +kernel
theorem dJ1_charAt_3b067_6 : decode cJ1_charAt_3b067 6 = .ok (.aload_n 0, 1) := by decide +kernel
theorem dJ1_charAt_3b067_7 : decode cJ1_charAt_3b067 7 = .ok (.iload_n 1, 1) := by decide +kernel
theorem dJ1_charAt_3b067_8 : decode cJ1_charAt_3b067 8 = .ok (.baload, 1) := by decide +kernel
theorem dJ1_charAt_3b067_9 : decode cJ1_charAt_3b067 9 = .ok (.sipush 255, 3) := by decide +kernel
theorem dJ1_charAt_3b067_12 : decode cJ1_charAt_3b067 12 = .ok (.iand, 1) := by decide +kernel
theorem dJ1_charAt_3b067_13 : decode cJ1_charAt_3b067 13 = .ok (.i2c, 1) := by decide +kernel
theorem dJ1_charAt_3b067_14 : decode cJ1_charAt_3b067 14 = .ok (.ireturn, 1) := by decide +kernel
def F_J1_charAt_3b067 (x1 : Int32) (M : eMem) : Option Int32 :=
  (F_J0_checkIndex_df160 x1 13).bind fun q1 =>
  eG (eIn x1 13) <|
  eG (decide (vp_nar .char ((((eSB.getD 0 []).getD x1.toNatClampNeg 0) &&& 255).toUInt32 % 65536).toInt32 = ((((eSB.getD 0 []).getD x1.toNatClampNeg 0) &&& 255).toUInt32 % 65536).toInt32)) <|
  some ((((eSB.getD 0 []).getD x1.toNatClampNeg 0) &&& 255).toUInt32 % 65536).toInt32
set_option maxRecDepth 100000 in
set_option maxHeartbeats 4000000 in
theorem ev_J1_charAt_3b067 {lay : List eLC} (x1 : Int32) (M : eMem) (q : Int32) (h : F_J1_charAt_3b067 x1 M = some q) : Ev lay 2 m_J1_charAt_3b067 0 [some (.ref 3000), some (.int x1)] [] M (some (.int q), M) := by
  rw [F_J1_charAt_3b067] at h
  refine Ev.iload_n (pc := 0) dJ1_charAt_3b067_0 rfl ?_
  refine Ev.aload_n (pc := 1) dJ1_charAt_3b067_1 rfl ?_
  refine Ev.strLenj (pc := 2) dJ1_charAt_3b067_2 (j := 0) (v := 13) (by decide) (by decide) ?_
  refine eBk h (fun q1 hq1 h => ?_)
  refine Ev.callS (pc := 3) (as := [.int x1, .int 13]) (st := []) (z := 0) dJ1_charAt_3b067_3 wc_J0_checkIndex_df160 ml_RJ1_9 sm_J0_checkIndex_df160 (ev_J0_checkIndex_df160 x1 13 M _ hq1) rfl rfl (by decide) rfl rfl (Nat.le_of_ble_eq_true rfl) ?_
  refine Ev.aload_n (pc := 6) dJ1_charAt_3b067_6 rfl ?_
  refine Ev.iload_n (pc := 7) dJ1_charAt_3b067_7 rfl ?_
  obtain ⟨g9, h⟩ := eGdB h
  refine Ev.strBj (pc := 8) dJ1_charAt_3b067_8 (j := 0) (n := x1.toNatClampNeg) (by decide) g9 rfl rfl ?_
  refine Ev.sipush (pc := 9) dJ1_charAt_3b067_9 (v := 255) (by decide) ?_
  refine Ev.iand (pc := 12) dJ1_charAt_3b067_12 ?_
  refine Ev.i2c (pc := 13) dJ1_charAt_3b067_13 ?_
  obtain ⟨g9, h⟩ := eGdB h
  have g9 := of_decide_eq_true g9
  obtain rfl := Option.some.inj h
  exact Ev.iret (pc := 14) dJ1_charAt_3b067_14 rfl (eNar_char g9)
theorem dJ0_charAt_5068e_0 : decode cJ0_charAt_5068e 0 = .ok (.aload_n 0, 1) := by decide +kernel
theorem dJ0_charAt_5068e_1 : decode cJ0_charAt_5068e 1 = .ok (.invokevirtual 492, 3) := by decide +kernel
theorem dJ0_charAt_5068e_4 : decode cJ0_charAt_5068e 4 = .ok (.ifCond .eq 12, 3) := by decide +kernel
theorem dJ0_charAt_5068e_7 : decode cJ0_charAt_5068e 7 = .ok (.aload_n 0, 1) := by decide +kernel
theorem dJ0_charAt_5068e_8 : decode cJ0_charAt_5068e 8 = .ok (.getfield 9, 3) := by decide +kernel
theorem dJ0_charAt_5068e_11 : decode cJ0_charAt_5068e 11 = .ok (.iload_n 1, 1) := by decide +kernel
theorem dJ0_charAt_5068e_12 : decode cJ0_charAt_5068e 12 = .ok (.invokestatic 495, 3) := by decide +kernel
theorem dJ0_charAt_5068e_15 : decode cJ0_charAt_5068e 15 = .ok (.ireturn, 1) := by decide +kernel
theorem dJ0_charAt_5068e_16 : decode cJ0_charAt_5068e 16 = .ok (.aload_n 0, 1) := by decide +kernel
theorem dJ0_charAt_5068e_17 : decode cJ0_charAt_5068e 17 = .ok (.getfield 9, 3) := by decide +kernel
theorem dJ0_charAt_5068e_20 : decode cJ0_charAt_5068e 20 = .ok (.iload_n 1, 1) := by decide +kernel
theorem dJ0_charAt_5068e_21 : decode cJ0_charAt_5068e 21 = .ok (.invokestatic 498, 3) := by decide +kernel
theorem dJ0_charAt_5068e_24 : decode cJ0_charAt_5068e 24 = .ok (.ireturn, 1) := by decide +kernel
def F_J0_charAt_5068e (x1 : Int32) (M : eMem) : Option Int32 :=
  (F_J0_isLatin1_aae02 ).bind fun q1 =>
  if q1 = 0 then
    none
  else
    (F_J1_charAt_3b067 x1 M).bind fun q2 =>
    eG (decide (vp_nar .char q2 = q2)) <|
    some q2
set_option maxRecDepth 100000 in
set_option maxHeartbeats 4000000 in
theorem ev_J0_charAt_5068e {lay : List eLC} (x1 : Int32) (M : eMem) (q : Int32) (h : F_J0_charAt_5068e x1 M = some q) : Ev lay 4 m_J0_charAt_5068e 0 [some (.ref 2000), some (.int x1)] [] M (some (.int q), M) := by
  rw [F_J0_charAt_5068e] at h
  refine Ev.aload_n (pc := 0) dJ0_charAt_5068e_0 rfl ?_
  refine eBk h (fun q1 hq1 h => ?_)
  refine Ev.callVS (pc := 1) (j := 0) (as := []) (st := []) (z := 0) dJ0_charAt_5068e_1 wc_J0_isLatin1_aae02 ml_RJ0_492 im_J0_isLatin1_aae02 se_J0_isLatin1_aae02 (by decide) rfl (ev_J0_isLatin1_aae02  M _ hq1) rfl rfl (by decide) rfl rfl (Nat.le_of_ble_eq_true rfl) ?_
  refine Ev.if_eq (pc := 4) (tgt := 16) dJ0_charAt_5068e_4 (by decide) (fun c9 => ?_) (fun c9 => ?_)
  · have h := eT h c9
    refine Ev.aload_n (pc := 16) dJ0_charAt_5068e_16 rfl ?_
    refine Ev.strVal (pc := 17) dJ0_charAt_5068e_17 (j := 0) (by decide) fx_RJ0_9 ?_
    refine Ev.iload_n (pc := 20) dJ0_charAt_5068e_20 rfl ?_
    cases h
  · have h := eF h c9
    refine Ev.aload_n (pc := 7) dJ0_charAt_5068e_7 rfl ?_
    refine Ev.strVal (pc := 8) dJ0_charAt_5068e_8 (j := 0) (by decide) fx_RJ0_9 ?_
    refine Ev.iload_n (pc := 11) dJ0_charAt_5068e_11 rfl ?_
    refine eBk h (fun q2 hq2 h => ?_)
    refine Ev.callS (pc := 12) (as := [.ref 3000, .int x1]) (st := []) (z := 0) dJ0_charAt_5068e_12 wc_J1_charAt_3b067 ml_RJ0_495 sm_J1_charAt_3b067 (ev_J1_charAt_3b067 x1 M _ hq2) rfl rfl (by decide) rfl rfl (Nat.le_of_ble_eq_true rfl) ?_
    obtain ⟨g9, h⟩ := eGdB h
    have g9 := of_decide_eq_true g9
    obtain rfl := Option.some.inj h
    exact Ev.iret (pc := 15) dJ0_charAt_5068e_15 rfl (eNar_char g9)
theorem dX6_fitOf_0 : decode cX6_fitOf 0 = .ok (.iconst 0, 1) := by decide +kernel
theorem dX6_fitOf_1 : decode cX6_fitOf 1 = .ok (.istore 4, 2) := by decide +kernel
theorem dX6_fitOf_3 : decode cX6_fitOf 3 = .ok (.iload_n 2, 1) := by decide +kernel
theorem dX6_fitOf_4 : decode cX6_fitOf 4 = .ok (.iload 4, 2) := by decide +kernel
theorem dX6_fitOf_6 : decode cX6_fitOf 6 = .ok (.iadd, 1) := by decide +kernel
theorem dX6_fitOf_7 : decode cX6_fitOf 7 = .ok (.iload_n 3, 1) := by decide +kernel
theorem dX6_fitOf_8 : decode cX6_fitOf 8 = .ok (.if_icmp .ge 46, 3) := by decide +kernel
theorem dX6_fitOf_11 : decode cX6_fitOf 11 = .ok (.aload_n 0, 1) := by decide +kernel
theorem dX6_fitOf_12 : decode cX6_fitOf 12 = .ok (.getfield 23, 3) := by decide +kernel
theorem dX6_fitOf_15 : decode cX6_fitOf 15 = .ok (.iload 4, 2) := by decide +kernel
theorem dX6_fitOf_17 : decode cX6_fitOf 17 = .ok (.iadd, 1) := by decide +kernel
theorem dX6_fitOf_18 : decode cX6_fitOf 18 = .ok (.aload_n 0, 1) := by decide +kernel
theorem dX6_fitOf_19 : decode cX6_fitOf 19 = .ok (.getfield 15, 3) := by decide +kernel
theorem dX6_fitOf_22 : decode cX6_fitOf 22 = .ok (.if_icmp .ge 32, 3) := by decide +kernel
theorem dX6_fitOf_25 : decode cX6_fitOf 25 = .ok (.aload_n 0, 1) := by decide +kernel
theorem dX6_fitOf_26 : decode cX6_fitOf 26 = .ok (.getfield 9, 3) := by decide +kernel
theorem dX6_fitOf_29 : decode cX6_fitOf 29 = .ok (.aload_n 0, 1) := by decide +kernel
theorem dX6_fitOf_30 : decode cX6_fitOf 30 = .ok (.getfield 23, 3) := by decide +kernel
theorem dX6_fitOf_33 : decode cX6_fitOf 33 = .ok (.iload 4, 2) := by decide +kernel
theorem dX6_fitOf_35 : decode cX6_fitOf 35 = .ok (.iadd, 1) := by decide +kernel
theorem dX6_fitOf_36 : decode cX6_fitOf 36 = .ok (.iaload, 1) := by decide +kernel
theorem dX6_fitOf_37 : decode cX6_fitOf 37 = .ok (.aload_n 1, 1) := by decide +kernel
theorem dX6_fitOf_38 : decode cX6_fitOf 38 = .ok (.iload_n 2, 1) := by decide +kernel
theorem dX6_fitOf_39 : decode cX6_fitOf 39 = .ok (.iload 4, 2) := by decide +kernel
theorem dX6_fitOf_41 : decode cX6_fitOf 41 = .ok (.iadd, 1) := by decide +kernel
theorem dX6_fitOf_42 : decode cX6_fitOf 42 = .ok (.invokevirtual 96, 3) := by decide +kernel
theorem dX6_fitOf_45 : decode cX6_fitOf 45 = .ok (.if_icmp .ne 9, 3) := by decide +kernel
theorem dX6_fitOf_48 : decode cX6_fitOf 48 = .ok (.iinc 4 1, 3) := by decide +kernel
theorem dX6_fitOf_51 : decode cX6_fitOf 51 = .ok (.goto (-48), 3) := by decide +kernel
theorem dX6_fitOf_54 : decode cX6_fitOf 54 = .ok (.iload 4, 2) := by decide +kernel
theorem dX6_fitOf_56 : decode cX6_fitOf 56 = .ok (.ireturn, 1) := by decide +kernel
def F_X6_fitOf_3  : Nat → eMem → Int32 → Int32 → Int32 → Option Int32
  | 0, _, _, _, _ => none
  | n + 1, M, v2, v3, v4 =>
    if (v2 + v4) < v3 then
      if ((M.1 145 2) + v4) < (M.1 145 1) then
        eG (eIn ((M.1 145 2) + v4) 120) <|
        (F_J0_charAt_5068e (v2 + v4) M).bind fun q1 =>
        if (M.1 146 ((M.1 145 2) + v4).toNatClampNeg) = q1 then
          F_X6_fitOf_3 n M v2 v3 (v4 + 1)
        else
          some v4
      else
        some v4
    else
      some v4
set_option maxRecDepth 100000 in
set_option maxHeartbeats 4000000 in
theorem ev_X6_fitOf_3  (q : Int32) (M : eMem)  : ∀ (fuel : Nat) (v2 : Int32) (v3 : Int32) (v4 : Int32), F_X6_fitOf_3 fuel M v2 v3 v4 = some q → Ev layC 5 m_X6_fitOf 3 [some (.ref 145), some (.ref 2000), some (.int v2), some (.int v3), some (.int v4)] [] M (some (.int q), M) := by
  intro fuel
  induction fuel with
  | zero => intro v2 v3 v4 h; rw [F_X6_fitOf_3] at h; cases h
  | succ n ih =>
    intro v2 v3 v4 h
    rw [F_X6_fitOf_3] at h
    refine Ev.iload_n (pc := 3) dX6_fitOf_3 rfl ?_
    refine Ev.iload (pc := 4) dX6_fitOf_4 rfl ?_
    refine Ev.iadd (pc := 6) dX6_fitOf_6 ?_
    refine Ev.iload_n (pc := 7) dX6_fitOf_7 rfl ?_
    refine Ev.icmp_ge (pc := 8) (tgt := 54) dX6_fitOf_8 (by decide) (fun c9 => ?_) (fun c9 => ?_)
    · have h := eF h c9
      refine Ev.iload (pc := 54) dX6_fitOf_54 rfl ?_
      obtain rfl := Option.some.inj h
      exact Ev.iret (pc := 56) dX6_fitOf_56 rfl rfl
    · have h := eT h c9
      refine Ev.aload_n (pc := 11) dX6_fitOf_11 rfl ?_
      refine Ev.getI (pc := 12) dX6_fitOf_12 fl_RX6_23 lC_145 rfl ?_
      refine Ev.iload (pc := 15) dX6_fitOf_15 rfl ?_
      refine Ev.iadd (pc := 17) dX6_fitOf_17 ?_
      refine Ev.aload_n (pc := 18) dX6_fitOf_18 rfl ?_
      refine Ev.getI (pc := 19) dX6_fitOf_19 fl_RX6_15 lC_145 rfl ?_
      refine Ev.icmp_ge (pc := 22) (tgt := 54) dX6_fitOf_22 (by decide) (fun c9 => ?_) (fun c9 => ?_)
      · have h := eF h c9
        refine Ev.iload (pc := 54) dX6_fitOf_54 rfl ?_
        obtain rfl := Option.some.inj h
        exact Ev.iret (pc := 56) dX6_fitOf_56 rfl rfl
      · have h := eT h c9
        refine Ev.aload_n (pc := 25) dX6_fitOf_25 rfl ?_
        refine Ev.getR (pc := 26) dX6_fitOf_26 fl_RX6_9 lC_145 rfl ?_
        refine Ev.aload_n (pc := 29) dX6_fitOf_29 rfl ?_
        refine Ev.getI (pc := 30) dX6_fitOf_30 fl_RX6_23 lC_145 rfl ?_
        refine Ev.iload (pc := 33) dX6_fitOf_33 rfl ?_
        refine Ev.iadd (pc := 35) dX6_fitOf_35 ?_
        obtain ⟨g9, h⟩ := eGdB h
        refine Ev.ialdj (pc := 36) dX6_fitOf_36 (j := ((M.1 145 2) + v4).toNatClampNeg) lC_146 g9 rfl ?_
        refine Ev.aload_n (pc := 37) dX6_fitOf_37 rfl ?_
        refine Ev.iload_n (pc := 38) dX6_fitOf_38 rfl ?_
        refine Ev.iload (pc := 39) dX6_fitOf_39 rfl ?_
        refine Ev.iadd (pc := 41) dX6_fitOf_41 ?_
        refine eBk h (fun q1 hq1 h => ?_)
        refine Ev.callVS (pc := 42) (j := 0) (as := [.int (v2 + v4)]) (st := [.int (M.1 146 ((M.1 145 2) + v4).toNatClampNeg)]) (z := 0) dX6_fitOf_42 wc_J0_charAt_5068e ml_RX6_96 im_J0_charAt_5068e se_J0_charAt_5068e (by decide) rfl (ev_J0_charAt_5068e (v2 + v4) M _ hq1) rfl rfl (by decide) rfl rfl (Nat.le_of_ble_eq_true rfl) ?_
        refine Ev.icmp_ne (pc := 45) (tgt := 54) dX6_fitOf_45 (by decide) (fun c9 => ?_) (fun c9 => ?_)
        · have h := eF h c9
          refine Ev.iload (pc := 54) dX6_fitOf_54 rfl ?_
          obtain rfl := Option.some.inj h
          exact Ev.iret (pc := 56) dX6_fitOf_56 rfl rfl
        · have h := eT h c9
          refine Ev.iincv (pc := 48) dX6_fitOf_48 (v := 1) (by decide) rfl (by decide) rfl rfl ?_
          refine Ev.goto (pc := 51) (tgt := 3) dX6_fitOf_51 (by decide) ?_
          exact Ev.fg (ih _ _ _ h) (And.intro rfl (And.intro rfl (And.intro rfl (And.intro rfl (And.intro rfl trivial)))))
def F_X6_fitOf (x2 : Int32) (x3 : Int32) (M : eMem) : Option Int32 :=
  F_X6_fitOf_3 eFuel M x2 x3 0
set_option maxRecDepth 100000 in
set_option maxHeartbeats 4000000 in
theorem ev_X6_fitOf (x2 : Int32) (x3 : Int32) (M : eMem) (q : Int32) (h : F_X6_fitOf x2 x3 M = some q) : Ev layC 5 m_X6_fitOf 0 [some (.ref 145), some (.ref 2000), some (.int x2), some (.int x3), none] [] M (some (.int q), M) := by
  rw [F_X6_fitOf] at h
  refine Ev.iconst (pc := 0) dX6_fitOf_0 (v := 0) (by decide) ?_
  refine Ev.istore (pc := 1) dX6_fitOf_1 (by decide) rfl rfl ?_
  exact Ev.fg (ev_X6_fitOf_3 _ _ _ _ _ _ h) (And.intro rfl (And.intro rfl (And.intro rfl (And.intro rfl (And.intro rfl trivial)))))
theorem dX6_choose_0 : decode cX6_choose 0 = .ok (.iconst 0, 1) := by decide +kernel
theorem dX6_choose_1 : decode cX6_choose 1 = .ok (.istore_n 2, 1) := by decide +kernel
theorem dX6_choose_2 : decode cX6_choose 2 = .ok (.iconst 0, 1) := by decide +kernel
theorem dX6_choose_3 : decode cX6_choose 3 = .ok (.istore_n 3, 1) := by decide +kernel
theorem dX6_choose_4 : decode cX6_choose 4 = .ok (.iconst 0, 1) := by decide +kernel
theorem dX6_choose_5 : decode cX6_choose 5 = .ok (.istore 4, 2) := by decide +kernel
theorem dX6_choose_7 : decode cX6_choose 7 = .ok (.iconst 0, 1) := by decide +kernel
theorem dX6_choose_8 : decode cX6_choose 8 = .ok (.istore 5, 2) := by decide +kernel
theorem dX6_choose_10 : decode cX6_choose 10 = .ok (.iload 5, 2) := by decide +kernel
theorem dX6_choose_12 : decode cX6_choose 12 = .ok (.aload_n 1, 1) := by decide +kernel
theorem dX6_choose_13 : decode cX6_choose 13 = .ok (.invokevirtual 91, 3) := by decide +kernel
theorem dX6_choose_16 : decode cX6_choose 16 = .ok (.if_icmp .ge 73, 3) := by decide +kernel
theorem dX6_choose_19 : decode cX6_choose 19 = .ok (.aload_n 1, 1) := by decide +kernel
theorem dX6_choose_20 : decode cX6_choose 20 = .ok (.iload 5, 2) := by decide +kernel
theorem dX6_choose_22 : decode cX6_choose 22 = .ok (.invokevirtual 96, 3) := by decide +kernel
theorem dX6_choose_25 : decode cX6_choose 25 = .ok (.bipush 32, 2) := by decide +kernel
theorem dX6_choose_27 : decode cX6_choose 27 = .ok (.if_icmp .eq 6, 3) := by decide +kernel
theorem dX6_choose_30 : decode cX6_choose 30 = .ok (.goto 53, 3) := by decide +kernel
theorem dX6_choose_33 : decode cX6_choose 33 = .ok (.aload_n 0, 1) := by decide +kernel
theorem dX6_choose_34 : decode cX6_choose 34 = .ok (.aload_n 1, 1) := by decide +kernel
theorem dX6_choose_35 : decode cX6_choose 35 = .ok (.iload 4, 2) := by decide +kernel
theorem dX6_choose_37 : decode cX6_choose 37 = .ok (.iload 5, 2) := by decide +kernel
theorem dX6_choose_39 : decode cX6_choose 39 = .ok (.invokevirtual 100, 3) := by decide +kernel
theorem dX6_choose_42 : decode cX6_choose 42 = .ok (.istore 6, 2) := by decide +kernel
theorem dX6_choose_44 : decode cX6_choose 44 = .ok (.iload 6, 2) := by decide +kernel
theorem dX6_choose_46 : decode cX6_choose 46 = .ok (.iload 5, 2) := by decide +kernel
theorem dX6_choose_48 : decode cX6_choose 48 = .ok (.iload 4, 2) := by decide +kernel
theorem dX6_choose_50 : decode cX6_choose 50 = .ok (.isub, 1) := by decide +kernel
theorem dX6_choose_51 : decode cX6_choose 51 = .ok (.if_icmp .ne 16, 3) := by decide +kernel
theorem dX6_choose_54 : decode cX6_choose 54 = .ok (.aload_n 0, 1) := by decide +kernel
theorem dX6_choose_55 : decode cX6_choose 55 = .ok (.dup, 1) := by decide +kernel
theorem dX6_choose_56 : decode cX6_choose 56 = .ok (.getfield 23, 3) := by decide +kernel
theorem dX6_choose_59 : decode cX6_choose 59 = .ok (.iload 6, 2) := by decide +kernel
theorem dX6_choose_61 : decode cX6_choose 61 = .ok (.iadd, 1) := by decide +kernel
theorem dX6_choose_62 : decode cX6_choose 62 = .ok (.putfield 23, 3) := by decide +kernel
theorem dX6_choose_65 : decode cX6_choose 65 = .ok (.iload_n 3, 1) := by decide +kernel
theorem dX6_choose_66 : decode cX6_choose 66 = .ok (.ireturn, 1) := by decide +kernel
theorem dX6_choose_67 : decode cX6_choose 67 = .ok (.iload_n 2, 1) := by decide +kernel
theorem dX6_choose_68 : decode cX6_choose 68 = .ok (.iload 6, 2) := by decide +kernel
theorem dX6_choose_70 : decode cX6_choose 70 = .ok (.invokestatic 104, 3) := by decide +kernel
theorem dX6_choose_73 : decode cX6_choose 73 = .ok (.istore_n 2, 1) := by decide +kernel
theorem dX6_choose_74 : decode cX6_choose 74 = .ok (.iload 5, 2) := by decide +kernel
theorem dX6_choose_76 : decode cX6_choose 76 = .ok (.iconst 1, 1) := by decide +kernel
theorem dX6_choose_77 : decode cX6_choose 77 = .ok (.iadd, 1) := by decide +kernel
theorem dX6_choose_78 : decode cX6_choose 78 = .ok (.istore 4, 2) := by decide +kernel
theorem dX6_choose_80 : decode cX6_choose 80 = .ok (.iinc 3 1, 3) := by decide +kernel
theorem dX6_choose_83 : decode cX6_choose 83 = .ok (.iinc 5 1, 3) := by decide +kernel
theorem dX6_choose_86 : decode cX6_choose 86 = .ok (.goto (-76), 3) := by decide +kernel
theorem dX6_choose_89 : decode cX6_choose 89 = .ok (.aload_n 0, 1) := by decide +kernel
theorem dX6_choose_90 : decode cX6_choose 90 = .ok (.dup, 1) := by decide +kernel
theorem dX6_choose_91 : decode cX6_choose 91 = .ok (.getfield 23, 3) := by decide +kernel
theorem dX6_choose_94 : decode cX6_choose 94 = .ok (.iload_n 2, 1) := by decide +kernel
theorem dX6_choose_95 : decode cX6_choose 95 = .ok (.iadd, 1) := by decide +kernel
theorem dX6_choose_96 : decode cX6_choose 96 = .ok (.putfield 23, 3) := by decide +kernel
theorem dX6_choose_99 : decode cX6_choose 99 = .ok (.iconst (-1), 1) := by decide +kernel
theorem dX6_choose_100 : decode cX6_choose 100 = .ok (.ireturn, 1) := by decide +kernel
def F_X6_choose_10  : Nat → Int32 → Int32 → Int32 → Int32 → eMem → Option (Int32 × eMem)
  | 0, _, _, _, _, _ => none
  | n + 1, v2, v3, v4, v5, M =>
    (F_J0_length_8abf5 ).bind fun q1 =>
    if v5 < q1 then
      (F_J0_charAt_5068e v5 M).bind fun q2 =>
      if q2 = 32 then
        (F_X6_fitOf v4 v5 M).bind fun q3 =>
        if q3 = (v5 - v4) then
          some (v3, (eI M 145 2 ((M.1 145 2) + q3)))
        else
          F_X6_choose_10 n (eMax v2 q3) (v3 + 1) (v5 + 1) (v5 + 1) M
      else
        F_X6_choose_10 n v2 v3 v4 (v5 + 1) M
    else
      some ((-1), (eI M 145 2 ((M.1 145 2) + v2)))
set_option maxRecDepth 100000 in
set_option maxHeartbeats 4000000 in
theorem ev_X6_choose_10  (q : (Int32 × eMem))  : ∀ (fuel : Nat) (v2 : Int32) (v3 : Int32) (v4 : Int32) (v5 : Int32) (M : eMem), F_X6_choose_10 fuel v2 v3 v4 v5 M = some q → Ev layC 6 m_X6_choose 10 [some (.ref 145), some (.ref 2000), some (.int v2), some (.int v3), some (.int v4), some (.int v5), none] [] M (some (.int q.1), q.2) := by
  intro fuel
  induction fuel with
  | zero => intro v2 v3 v4 v5 M h; rw [F_X6_choose_10] at h; cases h
  | succ n ih =>
    intro v2 v3 v4 v5 M h
    rw [F_X6_choose_10] at h
    refine Ev.iload (pc := 10) dX6_choose_10 rfl ?_
    refine Ev.aload_n (pc := 12) dX6_choose_12 rfl ?_
    refine eBk h (fun q1 hq1 h => ?_)
    refine Ev.callVS (pc := 13) (j := 0) (as := []) (st := [.int v5]) (z := 0) dX6_choose_13 wc_J0_length_8abf5 ml_RX6_91 im_J0_length_8abf5 se_J0_length_8abf5 (by decide) rfl (ev_J0_length_8abf5  M _ hq1) rfl rfl (by decide) rfl rfl (Nat.le_of_ble_eq_true rfl) ?_
    refine Ev.icmp_ge (pc := 16) (tgt := 89) dX6_choose_16 (by decide) (fun c9 => ?_) (fun c9 => ?_)
    · have h := eF h c9
      refine Ev.aload_n (pc := 89) dX6_choose_89 rfl ?_
      refine Ev.dup (pc := 90) dX6_choose_90 rfl ?_
      refine Ev.getI (pc := 91) dX6_choose_91 fl_RX6_23 lC_145 rfl ?_
      refine Ev.iload_n (pc := 94) dX6_choose_94 rfl ?_
      refine Ev.iadd (pc := 95) dX6_choose_95 ?_
      refine Ev.putI (pc := 96) dX6_choose_96 fp_RX6_23 lC_145 rfl rfl rfl ?_
      refine Ev.iconst (pc := 99) dX6_choose_99 (v := (-1)) (by decide) ?_
      obtain rfl := Option.some.inj h
      exact Ev.iret (pc := 100) dX6_choose_100 rfl rfl
    · have h := eT h c9
      refine Ev.aload_n (pc := 19) dX6_choose_19 rfl ?_
      refine Ev.iload (pc := 20) dX6_choose_20 rfl ?_
      refine eBk h (fun q2 hq2 h => ?_)
      refine Ev.callVS (pc := 22) (j := 0) (as := [.int v5]) (st := []) (z := 0) dX6_choose_22 wc_J0_charAt_5068e ml_RX6_96 im_J0_charAt_5068e se_J0_charAt_5068e (by decide) rfl (ev_J0_charAt_5068e v5 M _ hq2) rfl rfl (by decide) rfl rfl (Nat.le_of_ble_eq_true rfl) ?_
      refine Ev.bipush (pc := 25) dX6_choose_25 (v := 32) (by decide) ?_
      refine Ev.icmp_eq (pc := 27) (tgt := 33) dX6_choose_27 (by decide) (fun c9 => ?_) (fun c9 => ?_)
      · have h := eT h c9
        refine Ev.aload_n (pc := 33) dX6_choose_33 rfl ?_
        refine Ev.aload_n (pc := 34) dX6_choose_34 rfl ?_
        refine Ev.iload (pc := 35) dX6_choose_35 rfl ?_
        refine Ev.iload (pc := 37) dX6_choose_37 rfl ?_
        refine eBk h (fun q3 hq3 h => ?_)
        refine Ev.callV (pc := 39) (as := [.ref 2000, .int v4, .int v5]) (st := []) (z := 1) dX6_choose_39 wc_X6_fitOf ml_RX6_100 im_X6_fitOf se_X6_fitOf lC_145 rfl rfl (ev_X6_fitOf v4 v5 M _ hq3) rfl rfl (by decide) rfl rfl (Nat.le_of_ble_eq_true rfl) ?_
        refine Ev.istore (pc := 42) dX6_choose_42 (by decide) rfl rfl ?_
        refine Ev.iload (pc := 44) dX6_choose_44 rfl ?_
        refine Ev.iload (pc := 46) dX6_choose_46 rfl ?_
        refine Ev.iload (pc := 48) dX6_choose_48 rfl ?_
        refine Ev.isub (pc := 50) dX6_choose_50 ?_
        refine Ev.icmp_ne (pc := 51) (tgt := 67) dX6_choose_51 (by decide) (fun c9 => ?_) (fun c9 => ?_)
        · have h := eF h c9
          refine Ev.iload_n (pc := 67) dX6_choose_67 rfl ?_
          refine Ev.iload (pc := 68) dX6_choose_68 rfl ?_
          refine Ev.mmax (pc := 70) dX6_choose_70 mm_RX6_104 (by decide) (Nat.le_of_ble_eq_true rfl) ?_
          refine Ev.istore_n (pc := 73) dX6_choose_73 (by decide) rfl rfl ?_
          refine Ev.iload (pc := 74) dX6_choose_74 rfl ?_
          refine Ev.iconst (pc := 76) dX6_choose_76 (v := 1) (by decide) ?_
          refine Ev.iadd (pc := 77) dX6_choose_77 ?_
          refine Ev.istore (pc := 78) dX6_choose_78 (by decide) rfl rfl ?_
          refine Ev.iincv (pc := 80) dX6_choose_80 (v := 1) (by decide) rfl (by decide) rfl rfl ?_
          refine Ev.iincv (pc := 83) dX6_choose_83 (v := 1) (by decide) rfl (by decide) rfl rfl ?_
          refine Ev.goto (pc := 86) (tgt := 10) dX6_choose_86 (by decide) ?_
          exact Ev.fg (ih _ _ _ _ _ h) (And.intro rfl (And.intro rfl (And.intro rfl (And.intro rfl (And.intro rfl (And.intro rfl trivial))))))
        · have h := eT h c9
          refine Ev.aload_n (pc := 54) dX6_choose_54 rfl ?_
          refine Ev.dup (pc := 55) dX6_choose_55 rfl ?_
          refine Ev.getI (pc := 56) dX6_choose_56 fl_RX6_23 lC_145 rfl ?_
          refine Ev.iload (pc := 59) dX6_choose_59 rfl ?_
          refine Ev.iadd (pc := 61) dX6_choose_61 ?_
          refine Ev.putI (pc := 62) dX6_choose_62 fp_RX6_23 lC_145 rfl rfl rfl ?_
          refine Ev.iload_n (pc := 65) dX6_choose_65 rfl ?_
          obtain rfl := Option.some.inj h
          exact Ev.iret (pc := 66) dX6_choose_66 rfl rfl
      · have h := eF h c9
        refine Ev.goto (pc := 30) (tgt := 83) dX6_choose_30 (by decide) ?_
        refine Ev.iincv (pc := 83) dX6_choose_83 (v := 1) (by decide) rfl (by decide) rfl rfl ?_
        refine Ev.goto (pc := 86) (tgt := 10) dX6_choose_86 (by decide) ?_
        exact Ev.fg (ih _ _ _ _ _ h) (And.intro rfl (And.intro rfl (And.intro rfl (And.intro rfl (And.intro rfl (And.intro rfl trivial))))))
def F_X6_choose  (M : eMem) : Option (Int32 × eMem) :=
  F_X6_choose_10 eFuel 0 0 0 0 M
set_option maxRecDepth 100000 in
set_option maxHeartbeats 4000000 in
theorem ev_X6_choose  (M : eMem) (q : (Int32 × eMem)) (h : F_X6_choose  M = some q) : Ev layC 6 m_X6_choose 0 [some (.ref 145), some (.ref 2000), none, none, none, none, none] [] M (some (.int q.1), q.2) := by
  rw [F_X6_choose] at h
  refine Ev.iconst (pc := 0) dX6_choose_0 (v := 0) (by decide) ?_
  refine Ev.istore_n (pc := 1) dX6_choose_1 (by decide) rfl rfl ?_
  refine Ev.iconst (pc := 2) dX6_choose_2 (v := 0) (by decide) ?_
  refine Ev.istore_n (pc := 3) dX6_choose_3 (by decide) rfl rfl ?_
  refine Ev.iconst (pc := 4) dX6_choose_4 (v := 0) (by decide) ?_
  refine Ev.istore (pc := 5) dX6_choose_5 (by decide) rfl rfl ?_
  refine Ev.iconst (pc := 7) dX6_choose_7 (v := 0) (by decide) ?_
  refine Ev.istore (pc := 8) dX6_choose_8 (by decide) rfl rfl ?_
  exact Ev.fg (ev_X6_choose_10 _ _ _ _ _ _ _ h) (And.intro rfl (And.intro rfl (And.intro rfl (And.intro rfl (And.intro rfl (And.intro rfl trivial))))))
theorem dX6_take_0 : decode cX6_take 0 = .ok (.aload_n 0, 1) := by decide +kernel
theorem dX6_take_1 : decode cX6_take 1 = .ok (.getfield 23, 3) := by decide +kernel
theorem dX6_take_4 : decode cX6_take 4 = .ok (.aload_n 0, 1) := by decide +kernel
theorem dX6_take_5 : decode cX6_take 5 = .ok (.getfield 15, 3) := by decide +kernel
theorem dX6_take_8 : decode cX6_take 8 = .ok (.if_icmp .ge 16, 3) := by decide +kernel
theorem dX6_take_11 : decode cX6_take 11 = .ok (.aload_n 0, 1) := by decide +kernel
theorem dX6_take_12 : decode cX6_take 12 = .ok (.getfield 9, 3) := by decide +kernel
theorem dX6_take_15 : decode cX6_take 15 = .ok (.aload_n 0, 1) := by decide +kernel
theorem dX6_take_16 : decode cX6_take 16 = .ok (.getfield 23, 3) := by decide +kernel
theorem dX6_take_19 : decode cX6_take 19 = .ok (.iaload, 1) := by decide +kernel
theorem dX6_take_20 : decode cX6_take 20 = .ok (.iload_n 1, 1) := by decide +kernel
theorem dX6_take_21 : decode cX6_take 21 = .ok (.if_icmp .eq 5, 3) := by decide +kernel
theorem dX6_take_24 : decode cX6_take 24 = .ok (.iconst 0, 1) := by decide +kernel
theorem dX6_take_25 : decode cX6_take 25 = .ok (.ireturn, 1) := by decide +kernel
theorem dX6_take_26 : decode cX6_take 26 = .ok (.aload_n 0, 1) := by decide +kernel
theorem dX6_take_27 : decode cX6_take 27 = .ok (.dup, 1) := by decide +kernel
theorem dX6_take_28 : decode cX6_take 28 = .ok (.getfield 23, 3) := by decide +kernel
theorem dX6_take_31 : decode cX6_take 31 = .ok (.iconst 1, 1) := by decide +kernel
theorem dX6_take_32 : decode cX6_take 32 = .ok (.iadd, 1) := by decide +kernel
theorem dX6_take_33 : decode cX6_take 33 = .ok (.putfield 23, 3) := by decide +kernel
theorem dX6_take_36 : decode cX6_take 36 = .ok (.iconst 1, 1) := by decide +kernel
theorem dX6_take_37 : decode cX6_take 37 = .ok (.ireturn, 1) := by decide +kernel
def F_X6_take (x1 : Int32) (M : eMem) : Option (Int32 × eMem) :=
  if (M.1 145 2) < (M.1 145 1) then
    eG (eIn (M.1 145 2) 120) <|
    if (M.1 146 (M.1 145 2).toNatClampNeg) = x1 then
      some (1, (eI M 145 2 ((M.1 145 2) + 1)))
    else
      some (0, M)
  else
    some (0, M)
set_option maxRecDepth 100000 in
set_option maxHeartbeats 4000000 in
theorem ev_X6_take (x1 : Int32) (M : eMem) (q : (Int32 × eMem)) (h : F_X6_take x1 M = some q) : Ev layC 0 m_X6_take 0 [some (.ref 145), some (.int x1)] [] M (some (.int q.1), q.2) := by
  rw [F_X6_take] at h
  refine Ev.aload_n (pc := 0) dX6_take_0 rfl ?_
  refine Ev.getI (pc := 1) dX6_take_1 fl_RX6_23 lC_145 rfl ?_
  refine Ev.aload_n (pc := 4) dX6_take_4 rfl ?_
  refine Ev.getI (pc := 5) dX6_take_5 fl_RX6_15 lC_145 rfl ?_
  refine Ev.icmp_ge (pc := 8) (tgt := 24) dX6_take_8 (by decide) (fun c9 => ?_) (fun c9 => ?_)
  · have h := eF h c9
    refine Ev.iconst (pc := 24) dX6_take_24 (v := 0) (by decide) ?_
    obtain rfl := Option.some.inj h
    exact Ev.iret (pc := 25) dX6_take_25 rfl rfl
  · have h := eT h c9
    refine Ev.aload_n (pc := 11) dX6_take_11 rfl ?_
    refine Ev.getR (pc := 12) dX6_take_12 fl_RX6_9 lC_145 rfl ?_
    refine Ev.aload_n (pc := 15) dX6_take_15 rfl ?_
    refine Ev.getI (pc := 16) dX6_take_16 fl_RX6_23 lC_145 rfl ?_
    obtain ⟨g9, h⟩ := eGdB h
    refine Ev.ialdj (pc := 19) dX6_take_19 (j := (M.1 145 2).toNatClampNeg) lC_146 g9 rfl ?_
    refine Ev.iload_n (pc := 20) dX6_take_20 rfl ?_
    refine Ev.icmp_eq (pc := 21) (tgt := 26) dX6_take_21 (by decide) (fun c9 => ?_) (fun c9 => ?_)
    · have h := eT h c9
      refine Ev.aload_n (pc := 26) dX6_take_26 rfl ?_
      refine Ev.dup (pc := 27) dX6_take_27 rfl ?_
      refine Ev.getI (pc := 28) dX6_take_28 fl_RX6_23 lC_145 rfl ?_
      refine Ev.iconst (pc := 31) dX6_take_31 (v := 1) (by decide) ?_
      refine Ev.iadd (pc := 32) dX6_take_32 ?_
      refine Ev.putI (pc := 33) dX6_take_33 fp_RX6_23 lC_145 rfl rfl rfl ?_
      refine Ev.iconst (pc := 36) dX6_take_36 (v := 1) (by decide) ?_
      obtain rfl := Option.some.inj h
      exact Ev.iret (pc := 37) dX6_take_37 rfl rfl
    · have h := eF h c9
      refine Ev.iconst (pc := 24) dX6_take_24 (v := 0) (by decide) ?_
      obtain rfl := Option.some.inj h
      exact Ev.iret (pc := 25) dX6_take_25 rfl rfl
def F_J0_coder_7d493_v2  : Option Int32 :=
  some 0
set_option maxRecDepth 100000 in
set_option maxHeartbeats 4000000 in
theorem ev_J0_coder_7d493_v2 {lay : List eLC}  (M : eMem) (q : Int32) (h : F_J0_coder_7d493_v2  = some q) : Ev lay 0 m_J0_coder_7d493 0 [some (.ref 2001)] [] M (some (.int q), M) := by
  rw [F_J0_coder_7d493_v2] at h
  refine Ev.getCS (pc := 0) dJ0_coder_7d493_0 fx_RJ0_38 ?_
  refine Ev.if_eq (pc := 3) (tgt := 13) dJ0_coder_7d493_3 (by decide) (fun c9 => ?_) (fun c9 => ?_)
  · exact absurd c9 (by decide)
  · refine Ev.aload_n (pc := 6) dJ0_coder_7d493_6 rfl ?_
    refine Ev.strCod (pc := 7) dJ0_coder_7d493_7 (j := 1) (by decide) fx_RJ0_15 ?_
    refine Ev.goto (pc := 10) (tgt := 14) dJ0_coder_7d493_10 (by decide) ?_
    obtain rfl := Option.some.inj h
    exact Ev.iret (pc := 14) dJ0_coder_7d493_14 rfl rfl
def F_J0_length_8abf5_v2  : Option Int32 :=
  (F_J0_coder_7d493_v2 ).bind fun q1 =>
  some (38 >>> (q1 &&& 31))
set_option maxRecDepth 100000 in
set_option maxHeartbeats 4000000 in
theorem ev_J0_length_8abf5_v2 {lay : List eLC}  (M : eMem) (q : Int32) (h : F_J0_length_8abf5_v2  = some q) : Ev lay 1 m_J0_length_8abf5 0 [some (.ref 2001)] [] M (some (.int q), M) := by
  rw [F_J0_length_8abf5_v2] at h
  refine Ev.aload_n (pc := 0) dJ0_length_8abf5_0 rfl ?_
  refine Ev.strVal (pc := 1) dJ0_length_8abf5_1 (j := 1) (by decide) fx_RJ0_9 ?_
  refine Ev.strLenj (pc := 4) dJ0_length_8abf5_4 (j := 1) (v := 38) (by decide) (by decide) ?_
  refine Ev.aload_n (pc := 5) dJ0_length_8abf5_5 rfl ?_
  refine eBk h (fun q1 hq1 h => ?_)
  refine Ev.callVS (pc := 6) (j := 1) (as := []) (st := [.int 38]) (z := 0) dJ0_length_8abf5_6 wc_J0_coder_7d493 ml_RJ0_335 im_J0_coder_7d493 se_J0_coder_7d493 (by decide) rfl (ev_J0_coder_7d493_v2  M _ hq1) rfl rfl (by decide) rfl rfl (Nat.le_of_ble_eq_true rfl) ?_
  refine Ev.ishr (pc := 9) dJ0_length_8abf5_9 ?_
  obtain rfl := Option.some.inj h
  exact Ev.iret (pc := 10) dJ0_length_8abf5_10 rfl rfl
def F_J0_isLatin1_aae02_v2  : Option Int32 :=
  some 1
set_option maxRecDepth 100000 in
set_option maxHeartbeats 4000000 in
theorem ev_J0_isLatin1_aae02_v2 {lay : List eLC}  (M : eMem) (q : Int32) (h : F_J0_isLatin1_aae02_v2  = some q) : Ev lay 0 m_J0_isLatin1_aae02 0 [some (.ref 2001)] [] M (some (.int q), M) := by
  rw [F_J0_isLatin1_aae02_v2] at h
  refine Ev.getCS (pc := 0) dJ0_isLatin1_aae02_0 fx_RJ0_38 ?_
  refine Ev.if_eq (pc := 3) (tgt := 17) dJ0_isLatin1_aae02_3 (by decide) (fun c9 => ?_) (fun c9 => ?_)
  · exact absurd c9 (by decide)
  · refine Ev.aload_n (pc := 6) dJ0_isLatin1_aae02_6 rfl ?_
    refine Ev.strCod (pc := 7) dJ0_isLatin1_aae02_7 (j := 1) (by decide) fx_RJ0_15 ?_
    refine Ev.if_ne (pc := 10) (tgt := 17) dJ0_isLatin1_aae02_10 (by decide) (fun c9 => ?_) (fun c9 => ?_)
    · exact absurd c9 (by decide)
    · refine Ev.iconst (pc := 13) dJ0_isLatin1_aae02_13 (v := 1) (by decide) ?_
      refine Ev.goto (pc := 14) (tgt := 18) dJ0_isLatin1_aae02_14 (by decide) ?_
      obtain rfl := Option.some.inj h
      exact Ev.iret (pc := 18) dJ0_isLatin1_aae02_18 rfl rfl
def F_J1_charAt_3b067_v2 (x1 : Int32) (M : eMem) : Option Int32 :=
  (F_J0_checkIndex_df160 x1 38).bind fun q1 =>
  eG (eIn x1 38) <|
  eG (decide (vp_nar .char ((((eSB.getD 1 []).getD x1.toNatClampNeg 0) &&& 255).toUInt32 % 65536).toInt32 = ((((eSB.getD 1 []).getD x1.toNatClampNeg 0) &&& 255).toUInt32 % 65536).toInt32)) <|
  some ((((eSB.getD 1 []).getD x1.toNatClampNeg 0) &&& 255).toUInt32 % 65536).toInt32
set_option maxRecDepth 100000 in
set_option maxHeartbeats 4000000 in
theorem ev_J1_charAt_3b067_v2 {lay : List eLC} (x1 : Int32) (M : eMem) (q : Int32) (h : F_J1_charAt_3b067_v2 x1 M = some q) : Ev lay 2 m_J1_charAt_3b067 0 [some (.ref 3001), some (.int x1)] [] M (some (.int q), M) := by
  rw [F_J1_charAt_3b067_v2] at h
  refine Ev.iload_n (pc := 0) dJ1_charAt_3b067_0 rfl ?_
  refine Ev.aload_n (pc := 1) dJ1_charAt_3b067_1 rfl ?_
  refine Ev.strLenj (pc := 2) dJ1_charAt_3b067_2 (j := 1) (v := 38) (by decide) (by decide) ?_
  refine eBk h (fun q1 hq1 h => ?_)
  refine Ev.callS (pc := 3) (as := [.int x1, .int 38]) (st := []) (z := 0) dJ1_charAt_3b067_3 wc_J0_checkIndex_df160 ml_RJ1_9 sm_J0_checkIndex_df160 (ev_J0_checkIndex_df160 x1 38 M _ hq1) rfl rfl (by decide) rfl rfl (Nat.le_of_ble_eq_true rfl) ?_
  refine Ev.aload_n (pc := 6) dJ1_charAt_3b067_6 rfl ?_
  refine Ev.iload_n (pc := 7) dJ1_charAt_3b067_7 rfl ?_
  obtain ⟨g9, h⟩ := eGdB h
  refine Ev.strBj (pc := 8) dJ1_charAt_3b067_8 (j := 1) (n := x1.toNatClampNeg) (by decide) g9 rfl rfl ?_
  refine Ev.sipush (pc := 9) dJ1_charAt_3b067_9 (v := 255) (by decide) ?_
  refine Ev.iand (pc := 12) dJ1_charAt_3b067_12 ?_
  refine Ev.i2c (pc := 13) dJ1_charAt_3b067_13 ?_
  obtain ⟨g9, h⟩ := eGdB h
  have g9 := of_decide_eq_true g9
  obtain rfl := Option.some.inj h
  exact Ev.iret (pc := 14) dJ1_charAt_3b067_14 rfl (eNar_char g9)
def F_J0_charAt_5068e_v2 (x1 : Int32) (M : eMem) : Option Int32 :=
  (F_J0_isLatin1_aae02_v2 ).bind fun q1 =>
  if q1 = 0 then
    none
  else
    (F_J1_charAt_3b067_v2 x1 M).bind fun q2 =>
    eG (decide (vp_nar .char q2 = q2)) <|
    some q2
set_option maxRecDepth 100000 in
set_option maxHeartbeats 4000000 in
theorem ev_J0_charAt_5068e_v2 {lay : List eLC} (x1 : Int32) (M : eMem) (q : Int32) (h : F_J0_charAt_5068e_v2 x1 M = some q) : Ev lay 4 m_J0_charAt_5068e 0 [some (.ref 2001), some (.int x1)] [] M (some (.int q), M) := by
  rw [F_J0_charAt_5068e_v2] at h
  refine Ev.aload_n (pc := 0) dJ0_charAt_5068e_0 rfl ?_
  refine eBk h (fun q1 hq1 h => ?_)
  refine Ev.callVS (pc := 1) (j := 1) (as := []) (st := []) (z := 0) dJ0_charAt_5068e_1 wc_J0_isLatin1_aae02 ml_RJ0_492 im_J0_isLatin1_aae02 se_J0_isLatin1_aae02 (by decide) rfl (ev_J0_isLatin1_aae02_v2  M _ hq1) rfl rfl (by decide) rfl rfl (Nat.le_of_ble_eq_true rfl) ?_
  refine Ev.if_eq (pc := 4) (tgt := 16) dJ0_charAt_5068e_4 (by decide) (fun c9 => ?_) (fun c9 => ?_)
  · have h := eT h c9
    refine Ev.aload_n (pc := 16) dJ0_charAt_5068e_16 rfl ?_
    refine Ev.strVal (pc := 17) dJ0_charAt_5068e_17 (j := 1) (by decide) fx_RJ0_9 ?_
    refine Ev.iload_n (pc := 20) dJ0_charAt_5068e_20 rfl ?_
    cases h
  · have h := eF h c9
    refine Ev.aload_n (pc := 7) dJ0_charAt_5068e_7 rfl ?_
    refine Ev.strVal (pc := 8) dJ0_charAt_5068e_8 (j := 1) (by decide) fx_RJ0_9 ?_
    refine Ev.iload_n (pc := 11) dJ0_charAt_5068e_11 rfl ?_
    refine eBk h (fun q2 hq2 h => ?_)
    refine Ev.callS (pc := 12) (as := [.ref 3001, .int x1]) (st := []) (z := 0) dJ0_charAt_5068e_12 wc_J1_charAt_3b067 ml_RJ0_495 sm_J1_charAt_3b067 (ev_J1_charAt_3b067_v2 x1 M _ hq2) rfl rfl (by decide) rfl rfl (Nat.le_of_ble_eq_true rfl) ?_
    obtain ⟨g9, h⟩ := eGdB h
    have g9 := of_decide_eq_true g9
    obtain rfl := Option.some.inj h
    exact Ev.iret (pc := 15) dJ0_charAt_5068e_15 rfl (eNar_char g9)
def F_X6_fitOf_v2_3  : Nat → eMem → Int32 → Int32 → Int32 → Option Int32
  | 0, _, _, _, _ => none
  | n + 1, M, v2, v3, v4 =>
    if (v2 + v4) < v3 then
      if ((M.1 145 2) + v4) < (M.1 145 1) then
        eG (eIn ((M.1 145 2) + v4) 120) <|
        (F_J0_charAt_5068e_v2 (v2 + v4) M).bind fun q1 =>
        if (M.1 146 ((M.1 145 2) + v4).toNatClampNeg) = q1 then
          F_X6_fitOf_v2_3 n M v2 v3 (v4 + 1)
        else
          some v4
      else
        some v4
    else
      some v4
set_option maxRecDepth 100000 in
set_option maxHeartbeats 4000000 in
theorem ev_X6_fitOf_v2_3  (q : Int32) (M : eMem)  : ∀ (fuel : Nat) (v2 : Int32) (v3 : Int32) (v4 : Int32), F_X6_fitOf_v2_3 fuel M v2 v3 v4 = some q → Ev layC 5 m_X6_fitOf 3 [some (.ref 145), some (.ref 2001), some (.int v2), some (.int v3), some (.int v4)] [] M (some (.int q), M) := by
  intro fuel
  induction fuel with
  | zero => intro v2 v3 v4 h; rw [F_X6_fitOf_v2_3] at h; cases h
  | succ n ih =>
    intro v2 v3 v4 h
    rw [F_X6_fitOf_v2_3] at h
    refine Ev.iload_n (pc := 3) dX6_fitOf_3 rfl ?_
    refine Ev.iload (pc := 4) dX6_fitOf_4 rfl ?_
    refine Ev.iadd (pc := 6) dX6_fitOf_6 ?_
    refine Ev.iload_n (pc := 7) dX6_fitOf_7 rfl ?_
    refine Ev.icmp_ge (pc := 8) (tgt := 54) dX6_fitOf_8 (by decide) (fun c9 => ?_) (fun c9 => ?_)
    · have h := eF h c9
      refine Ev.iload (pc := 54) dX6_fitOf_54 rfl ?_
      obtain rfl := Option.some.inj h
      exact Ev.iret (pc := 56) dX6_fitOf_56 rfl rfl
    · have h := eT h c9
      refine Ev.aload_n (pc := 11) dX6_fitOf_11 rfl ?_
      refine Ev.getI (pc := 12) dX6_fitOf_12 fl_RX6_23 lC_145 rfl ?_
      refine Ev.iload (pc := 15) dX6_fitOf_15 rfl ?_
      refine Ev.iadd (pc := 17) dX6_fitOf_17 ?_
      refine Ev.aload_n (pc := 18) dX6_fitOf_18 rfl ?_
      refine Ev.getI (pc := 19) dX6_fitOf_19 fl_RX6_15 lC_145 rfl ?_
      refine Ev.icmp_ge (pc := 22) (tgt := 54) dX6_fitOf_22 (by decide) (fun c9 => ?_) (fun c9 => ?_)
      · have h := eF h c9
        refine Ev.iload (pc := 54) dX6_fitOf_54 rfl ?_
        obtain rfl := Option.some.inj h
        exact Ev.iret (pc := 56) dX6_fitOf_56 rfl rfl
      · have h := eT h c9
        refine Ev.aload_n (pc := 25) dX6_fitOf_25 rfl ?_
        refine Ev.getR (pc := 26) dX6_fitOf_26 fl_RX6_9 lC_145 rfl ?_
        refine Ev.aload_n (pc := 29) dX6_fitOf_29 rfl ?_
        refine Ev.getI (pc := 30) dX6_fitOf_30 fl_RX6_23 lC_145 rfl ?_
        refine Ev.iload (pc := 33) dX6_fitOf_33 rfl ?_
        refine Ev.iadd (pc := 35) dX6_fitOf_35 ?_
        obtain ⟨g9, h⟩ := eGdB h
        refine Ev.ialdj (pc := 36) dX6_fitOf_36 (j := ((M.1 145 2) + v4).toNatClampNeg) lC_146 g9 rfl ?_
        refine Ev.aload_n (pc := 37) dX6_fitOf_37 rfl ?_
        refine Ev.iload_n (pc := 38) dX6_fitOf_38 rfl ?_
        refine Ev.iload (pc := 39) dX6_fitOf_39 rfl ?_
        refine Ev.iadd (pc := 41) dX6_fitOf_41 ?_
        refine eBk h (fun q1 hq1 h => ?_)
        refine Ev.callVS (pc := 42) (j := 1) (as := [.int (v2 + v4)]) (st := [.int (M.1 146 ((M.1 145 2) + v4).toNatClampNeg)]) (z := 0) dX6_fitOf_42 wc_J0_charAt_5068e ml_RX6_96 im_J0_charAt_5068e se_J0_charAt_5068e (by decide) rfl (ev_J0_charAt_5068e_v2 (v2 + v4) M _ hq1) rfl rfl (by decide) rfl rfl (Nat.le_of_ble_eq_true rfl) ?_
        refine Ev.icmp_ne (pc := 45) (tgt := 54) dX6_fitOf_45 (by decide) (fun c9 => ?_) (fun c9 => ?_)
        · have h := eF h c9
          refine Ev.iload (pc := 54) dX6_fitOf_54 rfl ?_
          obtain rfl := Option.some.inj h
          exact Ev.iret (pc := 56) dX6_fitOf_56 rfl rfl
        · have h := eT h c9
          refine Ev.iincv (pc := 48) dX6_fitOf_48 (v := 1) (by decide) rfl (by decide) rfl rfl ?_
          refine Ev.goto (pc := 51) (tgt := 3) dX6_fitOf_51 (by decide) ?_
          exact Ev.fg (ih _ _ _ h) (And.intro rfl (And.intro rfl (And.intro rfl (And.intro rfl (And.intro rfl trivial)))))
def F_X6_fitOf_v2 (x2 : Int32) (x3 : Int32) (M : eMem) : Option Int32 :=
  F_X6_fitOf_v2_3 eFuel M x2 x3 0
set_option maxRecDepth 100000 in
set_option maxHeartbeats 4000000 in
theorem ev_X6_fitOf_v2 (x2 : Int32) (x3 : Int32) (M : eMem) (q : Int32) (h : F_X6_fitOf_v2 x2 x3 M = some q) : Ev layC 5 m_X6_fitOf 0 [some (.ref 145), some (.ref 2001), some (.int x2), some (.int x3), none] [] M (some (.int q), M) := by
  rw [F_X6_fitOf_v2] at h
  refine Ev.iconst (pc := 0) dX6_fitOf_0 (v := 0) (by decide) ?_
  refine Ev.istore (pc := 1) dX6_fitOf_1 (by decide) rfl rfl ?_
  exact Ev.fg (ev_X6_fitOf_v2_3 _ _ _ _ _ _ h) (And.intro rfl (And.intro rfl (And.intro rfl (And.intro rfl (And.intro rfl trivial)))))
def F_X6_choose_v2_10  : Nat → Int32 → Int32 → Int32 → Int32 → eMem → Option (Int32 × eMem)
  | 0, _, _, _, _, _ => none
  | n + 1, v2, v3, v4, v5, M =>
    (F_J0_length_8abf5_v2 ).bind fun q1 =>
    if v5 < q1 then
      (F_J0_charAt_5068e_v2 v5 M).bind fun q2 =>
      if q2 = 32 then
        (F_X6_fitOf_v2 v4 v5 M).bind fun q3 =>
        if q3 = (v5 - v4) then
          some (v3, (eI M 145 2 ((M.1 145 2) + q3)))
        else
          F_X6_choose_v2_10 n (eMax v2 q3) (v3 + 1) (v5 + 1) (v5 + 1) M
      else
        F_X6_choose_v2_10 n v2 v3 v4 (v5 + 1) M
    else
      some ((-1), (eI M 145 2 ((M.1 145 2) + v2)))
set_option maxRecDepth 100000 in
set_option maxHeartbeats 4000000 in
theorem ev_X6_choose_v2_10  (q : (Int32 × eMem))  : ∀ (fuel : Nat) (v2 : Int32) (v3 : Int32) (v4 : Int32) (v5 : Int32) (M : eMem), F_X6_choose_v2_10 fuel v2 v3 v4 v5 M = some q → Ev layC 6 m_X6_choose 10 [some (.ref 145), some (.ref 2001), some (.int v2), some (.int v3), some (.int v4), some (.int v5), none] [] M (some (.int q.1), q.2) := by
  intro fuel
  induction fuel with
  | zero => intro v2 v3 v4 v5 M h; rw [F_X6_choose_v2_10] at h; cases h
  | succ n ih =>
    intro v2 v3 v4 v5 M h
    rw [F_X6_choose_v2_10] at h
    refine Ev.iload (pc := 10) dX6_choose_10 rfl ?_
    refine Ev.aload_n (pc := 12) dX6_choose_12 rfl ?_
    refine eBk h (fun q1 hq1 h => ?_)
    refine Ev.callVS (pc := 13) (j := 1) (as := []) (st := [.int v5]) (z := 0) dX6_choose_13 wc_J0_length_8abf5 ml_RX6_91 im_J0_length_8abf5 se_J0_length_8abf5 (by decide) rfl (ev_J0_length_8abf5_v2  M _ hq1) rfl rfl (by decide) rfl rfl (Nat.le_of_ble_eq_true rfl) ?_
    refine Ev.icmp_ge (pc := 16) (tgt := 89) dX6_choose_16 (by decide) (fun c9 => ?_) (fun c9 => ?_)
    · have h := eF h c9
      refine Ev.aload_n (pc := 89) dX6_choose_89 rfl ?_
      refine Ev.dup (pc := 90) dX6_choose_90 rfl ?_
      refine Ev.getI (pc := 91) dX6_choose_91 fl_RX6_23 lC_145 rfl ?_
      refine Ev.iload_n (pc := 94) dX6_choose_94 rfl ?_
      refine Ev.iadd (pc := 95) dX6_choose_95 ?_
      refine Ev.putI (pc := 96) dX6_choose_96 fp_RX6_23 lC_145 rfl rfl rfl ?_
      refine Ev.iconst (pc := 99) dX6_choose_99 (v := (-1)) (by decide) ?_
      obtain rfl := Option.some.inj h
      exact Ev.iret (pc := 100) dX6_choose_100 rfl rfl
    · have h := eT h c9
      refine Ev.aload_n (pc := 19) dX6_choose_19 rfl ?_
      refine Ev.iload (pc := 20) dX6_choose_20 rfl ?_
      refine eBk h (fun q2 hq2 h => ?_)
      refine Ev.callVS (pc := 22) (j := 1) (as := [.int v5]) (st := []) (z := 0) dX6_choose_22 wc_J0_charAt_5068e ml_RX6_96 im_J0_charAt_5068e se_J0_charAt_5068e (by decide) rfl (ev_J0_charAt_5068e_v2 v5 M _ hq2) rfl rfl (by decide) rfl rfl (Nat.le_of_ble_eq_true rfl) ?_
      refine Ev.bipush (pc := 25) dX6_choose_25 (v := 32) (by decide) ?_
      refine Ev.icmp_eq (pc := 27) (tgt := 33) dX6_choose_27 (by decide) (fun c9 => ?_) (fun c9 => ?_)
      · have h := eT h c9
        refine Ev.aload_n (pc := 33) dX6_choose_33 rfl ?_
        refine Ev.aload_n (pc := 34) dX6_choose_34 rfl ?_
        refine Ev.iload (pc := 35) dX6_choose_35 rfl ?_
        refine Ev.iload (pc := 37) dX6_choose_37 rfl ?_
        refine eBk h (fun q3 hq3 h => ?_)
        refine Ev.callV (pc := 39) (as := [.ref 2001, .int v4, .int v5]) (st := []) (z := 1) dX6_choose_39 wc_X6_fitOf ml_RX6_100 im_X6_fitOf se_X6_fitOf lC_145 rfl rfl (ev_X6_fitOf_v2 v4 v5 M _ hq3) rfl rfl (by decide) rfl rfl (Nat.le_of_ble_eq_true rfl) ?_
        refine Ev.istore (pc := 42) dX6_choose_42 (by decide) rfl rfl ?_
        refine Ev.iload (pc := 44) dX6_choose_44 rfl ?_
        refine Ev.iload (pc := 46) dX6_choose_46 rfl ?_
        refine Ev.iload (pc := 48) dX6_choose_48 rfl ?_
        refine Ev.isub (pc := 50) dX6_choose_50 ?_
        refine Ev.icmp_ne (pc := 51) (tgt := 67) dX6_choose_51 (by decide) (fun c9 => ?_) (fun c9 => ?_)
        · have h := eF h c9
          refine Ev.iload_n (pc := 67) dX6_choose_67 rfl ?_
          refine Ev.iload (pc := 68) dX6_choose_68 rfl ?_
          refine Ev.mmax (pc := 70) dX6_choose_70 mm_RX6_104 (by decide) (Nat.le_of_ble_eq_true rfl) ?_
          refine Ev.istore_n (pc := 73) dX6_choose_73 (by decide) rfl rfl ?_
          refine Ev.iload (pc := 74) dX6_choose_74 rfl ?_
          refine Ev.iconst (pc := 76) dX6_choose_76 (v := 1) (by decide) ?_
          refine Ev.iadd (pc := 77) dX6_choose_77 ?_
          refine Ev.istore (pc := 78) dX6_choose_78 (by decide) rfl rfl ?_
          refine Ev.iincv (pc := 80) dX6_choose_80 (v := 1) (by decide) rfl (by decide) rfl rfl ?_
          refine Ev.iincv (pc := 83) dX6_choose_83 (v := 1) (by decide) rfl (by decide) rfl rfl ?_
          refine Ev.goto (pc := 86) (tgt := 10) dX6_choose_86 (by decide) ?_
          exact Ev.fg (ih _ _ _ _ _ h) (And.intro rfl (And.intro rfl (And.intro rfl (And.intro rfl (And.intro rfl (And.intro rfl trivial))))))
        · have h := eT h c9
          refine Ev.aload_n (pc := 54) dX6_choose_54 rfl ?_
          refine Ev.dup (pc := 55) dX6_choose_55 rfl ?_
          refine Ev.getI (pc := 56) dX6_choose_56 fl_RX6_23 lC_145 rfl ?_
          refine Ev.iload (pc := 59) dX6_choose_59 rfl ?_
          refine Ev.iadd (pc := 61) dX6_choose_61 ?_
          refine Ev.putI (pc := 62) dX6_choose_62 fp_RX6_23 lC_145 rfl rfl rfl ?_
          refine Ev.iload_n (pc := 65) dX6_choose_65 rfl ?_
          obtain rfl := Option.some.inj h
          exact Ev.iret (pc := 66) dX6_choose_66 rfl rfl
      · have h := eF h c9
        refine Ev.goto (pc := 30) (tgt := 83) dX6_choose_30 (by decide) ?_
        refine Ev.iincv (pc := 83) dX6_choose_83 (v := 1) (by decide) rfl (by decide) rfl rfl ?_
        refine Ev.goto (pc := 86) (tgt := 10) dX6_choose_86 (by decide) ?_
        exact Ev.fg (ih _ _ _ _ _ h) (And.intro rfl (And.intro rfl (And.intro rfl (And.intro rfl (And.intro rfl (And.intro rfl trivial))))))
def F_X6_choose_v2  (M : eMem) : Option (Int32 × eMem) :=
  F_X6_choose_v2_10 eFuel 0 0 0 0 M
set_option maxRecDepth 100000 in
set_option maxHeartbeats 4000000 in
theorem ev_X6_choose_v2  (M : eMem) (q : (Int32 × eMem)) (h : F_X6_choose_v2  M = some q) : Ev layC 6 m_X6_choose 0 [some (.ref 145), some (.ref 2001), none, none, none, none, none] [] M (some (.int q.1), q.2) := by
  rw [F_X6_choose_v2] at h
  refine Ev.iconst (pc := 0) dX6_choose_0 (v := 0) (by decide) ?_
  refine Ev.istore_n (pc := 1) dX6_choose_1 (by decide) rfl rfl ?_
  refine Ev.iconst (pc := 2) dX6_choose_2 (v := 0) (by decide) ?_
  refine Ev.istore_n (pc := 3) dX6_choose_3 (by decide) rfl rfl ?_
  refine Ev.iconst (pc := 4) dX6_choose_4 (v := 0) (by decide) ?_
  refine Ev.istore (pc := 5) dX6_choose_5 (by decide) rfl rfl ?_
  refine Ev.iconst (pc := 7) dX6_choose_7 (v := 0) (by decide) ?_
  refine Ev.istore (pc := 8) dX6_choose_8 (by decide) rfl rfl ?_
  exact Ev.fg (ev_X6_choose_v2_10 _ _ _ _ _ _ _ h) (And.intro rfl (And.intro rfl (And.intro rfl (And.intro rfl (And.intro rfl (And.intro rfl trivial))))))
def F_J0_coder_7d493_v3  : Option Int32 :=
  some 0
set_option maxRecDepth 100000 in
set_option maxHeartbeats 4000000 in
theorem ev_J0_coder_7d493_v3 {lay : List eLC}  (M : eMem) (q : Int32) (h : F_J0_coder_7d493_v3  = some q) : Ev lay 0 m_J0_coder_7d493 0 [some (.ref 2002)] [] M (some (.int q), M) := by
  rw [F_J0_coder_7d493_v3] at h
  refine Ev.getCS (pc := 0) dJ0_coder_7d493_0 fx_RJ0_38 ?_
  refine Ev.if_eq (pc := 3) (tgt := 13) dJ0_coder_7d493_3 (by decide) (fun c9 => ?_) (fun c9 => ?_)
  · exact absurd c9 (by decide)
  · refine Ev.aload_n (pc := 6) dJ0_coder_7d493_6 rfl ?_
    refine Ev.strCod (pc := 7) dJ0_coder_7d493_7 (j := 2) (by decide) fx_RJ0_15 ?_
    refine Ev.goto (pc := 10) (tgt := 14) dJ0_coder_7d493_10 (by decide) ?_
    obtain rfl := Option.some.inj h
    exact Ev.iret (pc := 14) dJ0_coder_7d493_14 rfl rfl
def F_J0_length_8abf5_v3  : Option Int32 :=
  (F_J0_coder_7d493_v3 ).bind fun q1 =>
  some (3 >>> (q1 &&& 31))
set_option maxRecDepth 100000 in
set_option maxHeartbeats 4000000 in
theorem ev_J0_length_8abf5_v3 {lay : List eLC}  (M : eMem) (q : Int32) (h : F_J0_length_8abf5_v3  = some q) : Ev lay 1 m_J0_length_8abf5 0 [some (.ref 2002)] [] M (some (.int q), M) := by
  rw [F_J0_length_8abf5_v3] at h
  refine Ev.aload_n (pc := 0) dJ0_length_8abf5_0 rfl ?_
  refine Ev.strVal (pc := 1) dJ0_length_8abf5_1 (j := 2) (by decide) fx_RJ0_9 ?_
  refine Ev.strLenj (pc := 4) dJ0_length_8abf5_4 (j := 2) (v := 3) (by decide) (by decide) ?_
  refine Ev.aload_n (pc := 5) dJ0_length_8abf5_5 rfl ?_
  refine eBk h (fun q1 hq1 h => ?_)
  refine Ev.callVS (pc := 6) (j := 2) (as := []) (st := [.int 3]) (z := 0) dJ0_length_8abf5_6 wc_J0_coder_7d493 ml_RJ0_335 im_J0_coder_7d493 se_J0_coder_7d493 (by decide) rfl (ev_J0_coder_7d493_v3  M _ hq1) rfl rfl (by decide) rfl rfl (Nat.le_of_ble_eq_true rfl) ?_
  refine Ev.ishr (pc := 9) dJ0_length_8abf5_9 ?_
  obtain rfl := Option.some.inj h
  exact Ev.iret (pc := 10) dJ0_length_8abf5_10 rfl rfl
def F_J0_isLatin1_aae02_v3  : Option Int32 :=
  some 1
set_option maxRecDepth 100000 in
set_option maxHeartbeats 4000000 in
theorem ev_J0_isLatin1_aae02_v3 {lay : List eLC}  (M : eMem) (q : Int32) (h : F_J0_isLatin1_aae02_v3  = some q) : Ev lay 0 m_J0_isLatin1_aae02 0 [some (.ref 2002)] [] M (some (.int q), M) := by
  rw [F_J0_isLatin1_aae02_v3] at h
  refine Ev.getCS (pc := 0) dJ0_isLatin1_aae02_0 fx_RJ0_38 ?_
  refine Ev.if_eq (pc := 3) (tgt := 17) dJ0_isLatin1_aae02_3 (by decide) (fun c9 => ?_) (fun c9 => ?_)
  · exact absurd c9 (by decide)
  · refine Ev.aload_n (pc := 6) dJ0_isLatin1_aae02_6 rfl ?_
    refine Ev.strCod (pc := 7) dJ0_isLatin1_aae02_7 (j := 2) (by decide) fx_RJ0_15 ?_
    refine Ev.if_ne (pc := 10) (tgt := 17) dJ0_isLatin1_aae02_10 (by decide) (fun c9 => ?_) (fun c9 => ?_)
    · exact absurd c9 (by decide)
    · refine Ev.iconst (pc := 13) dJ0_isLatin1_aae02_13 (v := 1) (by decide) ?_
      refine Ev.goto (pc := 14) (tgt := 18) dJ0_isLatin1_aae02_14 (by decide) ?_
      obtain rfl := Option.some.inj h
      exact Ev.iret (pc := 18) dJ0_isLatin1_aae02_18 rfl rfl
def F_J1_charAt_3b067_v3 (x1 : Int32) (M : eMem) : Option Int32 :=
  (F_J0_checkIndex_df160 x1 3).bind fun q1 =>
  eG (eIn x1 3) <|
  eG (decide (vp_nar .char ((((eSB.getD 2 []).getD x1.toNatClampNeg 0) &&& 255).toUInt32 % 65536).toInt32 = ((((eSB.getD 2 []).getD x1.toNatClampNeg 0) &&& 255).toUInt32 % 65536).toInt32)) <|
  some ((((eSB.getD 2 []).getD x1.toNatClampNeg 0) &&& 255).toUInt32 % 65536).toInt32
set_option maxRecDepth 100000 in
set_option maxHeartbeats 4000000 in
theorem ev_J1_charAt_3b067_v3 {lay : List eLC} (x1 : Int32) (M : eMem) (q : Int32) (h : F_J1_charAt_3b067_v3 x1 M = some q) : Ev lay 2 m_J1_charAt_3b067 0 [some (.ref 3002), some (.int x1)] [] M (some (.int q), M) := by
  rw [F_J1_charAt_3b067_v3] at h
  refine Ev.iload_n (pc := 0) dJ1_charAt_3b067_0 rfl ?_
  refine Ev.aload_n (pc := 1) dJ1_charAt_3b067_1 rfl ?_
  refine Ev.strLenj (pc := 2) dJ1_charAt_3b067_2 (j := 2) (v := 3) (by decide) (by decide) ?_
  refine eBk h (fun q1 hq1 h => ?_)
  refine Ev.callS (pc := 3) (as := [.int x1, .int 3]) (st := []) (z := 0) dJ1_charAt_3b067_3 wc_J0_checkIndex_df160 ml_RJ1_9 sm_J0_checkIndex_df160 (ev_J0_checkIndex_df160 x1 3 M _ hq1) rfl rfl (by decide) rfl rfl (Nat.le_of_ble_eq_true rfl) ?_
  refine Ev.aload_n (pc := 6) dJ1_charAt_3b067_6 rfl ?_
  refine Ev.iload_n (pc := 7) dJ1_charAt_3b067_7 rfl ?_
  obtain ⟨g9, h⟩ := eGdB h
  refine Ev.strBj (pc := 8) dJ1_charAt_3b067_8 (j := 2) (n := x1.toNatClampNeg) (by decide) g9 rfl rfl ?_
  refine Ev.sipush (pc := 9) dJ1_charAt_3b067_9 (v := 255) (by decide) ?_
  refine Ev.iand (pc := 12) dJ1_charAt_3b067_12 ?_
  refine Ev.i2c (pc := 13) dJ1_charAt_3b067_13 ?_
  obtain ⟨g9, h⟩ := eGdB h
  have g9 := of_decide_eq_true g9
  obtain rfl := Option.some.inj h
  exact Ev.iret (pc := 14) dJ1_charAt_3b067_14 rfl (eNar_char g9)
def F_J0_charAt_5068e_v3 (x1 : Int32) (M : eMem) : Option Int32 :=
  (F_J0_isLatin1_aae02_v3 ).bind fun q1 =>
  if q1 = 0 then
    none
  else
    (F_J1_charAt_3b067_v3 x1 M).bind fun q2 =>
    eG (decide (vp_nar .char q2 = q2)) <|
    some q2
set_option maxRecDepth 100000 in
set_option maxHeartbeats 4000000 in
theorem ev_J0_charAt_5068e_v3 {lay : List eLC} (x1 : Int32) (M : eMem) (q : Int32) (h : F_J0_charAt_5068e_v3 x1 M = some q) : Ev lay 4 m_J0_charAt_5068e 0 [some (.ref 2002), some (.int x1)] [] M (some (.int q), M) := by
  rw [F_J0_charAt_5068e_v3] at h
  refine Ev.aload_n (pc := 0) dJ0_charAt_5068e_0 rfl ?_
  refine eBk h (fun q1 hq1 h => ?_)
  refine Ev.callVS (pc := 1) (j := 2) (as := []) (st := []) (z := 0) dJ0_charAt_5068e_1 wc_J0_isLatin1_aae02 ml_RJ0_492 im_J0_isLatin1_aae02 se_J0_isLatin1_aae02 (by decide) rfl (ev_J0_isLatin1_aae02_v3  M _ hq1) rfl rfl (by decide) rfl rfl (Nat.le_of_ble_eq_true rfl) ?_
  refine Ev.if_eq (pc := 4) (tgt := 16) dJ0_charAt_5068e_4 (by decide) (fun c9 => ?_) (fun c9 => ?_)
  · have h := eT h c9
    refine Ev.aload_n (pc := 16) dJ0_charAt_5068e_16 rfl ?_
    refine Ev.strVal (pc := 17) dJ0_charAt_5068e_17 (j := 2) (by decide) fx_RJ0_9 ?_
    refine Ev.iload_n (pc := 20) dJ0_charAt_5068e_20 rfl ?_
    cases h
  · have h := eF h c9
    refine Ev.aload_n (pc := 7) dJ0_charAt_5068e_7 rfl ?_
    refine Ev.strVal (pc := 8) dJ0_charAt_5068e_8 (j := 2) (by decide) fx_RJ0_9 ?_
    refine Ev.iload_n (pc := 11) dJ0_charAt_5068e_11 rfl ?_
    refine eBk h (fun q2 hq2 h => ?_)
    refine Ev.callS (pc := 12) (as := [.ref 3002, .int x1]) (st := []) (z := 0) dJ0_charAt_5068e_12 wc_J1_charAt_3b067 ml_RJ0_495 sm_J1_charAt_3b067 (ev_J1_charAt_3b067_v3 x1 M _ hq2) rfl rfl (by decide) rfl rfl (Nat.le_of_ble_eq_true rfl) ?_
    obtain ⟨g9, h⟩ := eGdB h
    have g9 := of_decide_eq_true g9
    obtain rfl := Option.some.inj h
    exact Ev.iret (pc := 15) dJ0_charAt_5068e_15 rfl (eNar_char g9)
def F_X6_fitOf_v3_3  : Nat → eMem → Int32 → Int32 → Int32 → Option Int32
  | 0, _, _, _, _ => none
  | n + 1, M, v2, v3, v4 =>
    if (v2 + v4) < v3 then
      if ((M.1 145 2) + v4) < (M.1 145 1) then
        eG (eIn ((M.1 145 2) + v4) 120) <|
        (F_J0_charAt_5068e_v3 (v2 + v4) M).bind fun q1 =>
        if (M.1 146 ((M.1 145 2) + v4).toNatClampNeg) = q1 then
          F_X6_fitOf_v3_3 n M v2 v3 (v4 + 1)
        else
          some v4
      else
        some v4
    else
      some v4
set_option maxRecDepth 100000 in
set_option maxHeartbeats 4000000 in
theorem ev_X6_fitOf_v3_3  (q : Int32) (M : eMem)  : ∀ (fuel : Nat) (v2 : Int32) (v3 : Int32) (v4 : Int32), F_X6_fitOf_v3_3 fuel M v2 v3 v4 = some q → Ev layC 5 m_X6_fitOf 3 [some (.ref 145), some (.ref 2002), some (.int v2), some (.int v3), some (.int v4)] [] M (some (.int q), M) := by
  intro fuel
  induction fuel with
  | zero => intro v2 v3 v4 h; rw [F_X6_fitOf_v3_3] at h; cases h
  | succ n ih =>
    intro v2 v3 v4 h
    rw [F_X6_fitOf_v3_3] at h
    refine Ev.iload_n (pc := 3) dX6_fitOf_3 rfl ?_
    refine Ev.iload (pc := 4) dX6_fitOf_4 rfl ?_
    refine Ev.iadd (pc := 6) dX6_fitOf_6 ?_
    refine Ev.iload_n (pc := 7) dX6_fitOf_7 rfl ?_
    refine Ev.icmp_ge (pc := 8) (tgt := 54) dX6_fitOf_8 (by decide) (fun c9 => ?_) (fun c9 => ?_)
    · have h := eF h c9
      refine Ev.iload (pc := 54) dX6_fitOf_54 rfl ?_
      obtain rfl := Option.some.inj h
      exact Ev.iret (pc := 56) dX6_fitOf_56 rfl rfl
    · have h := eT h c9
      refine Ev.aload_n (pc := 11) dX6_fitOf_11 rfl ?_
      refine Ev.getI (pc := 12) dX6_fitOf_12 fl_RX6_23 lC_145 rfl ?_
      refine Ev.iload (pc := 15) dX6_fitOf_15 rfl ?_
      refine Ev.iadd (pc := 17) dX6_fitOf_17 ?_
      refine Ev.aload_n (pc := 18) dX6_fitOf_18 rfl ?_
      refine Ev.getI (pc := 19) dX6_fitOf_19 fl_RX6_15 lC_145 rfl ?_
      refine Ev.icmp_ge (pc := 22) (tgt := 54) dX6_fitOf_22 (by decide) (fun c9 => ?_) (fun c9 => ?_)
      · have h := eF h c9
        refine Ev.iload (pc := 54) dX6_fitOf_54 rfl ?_
        obtain rfl := Option.some.inj h
        exact Ev.iret (pc := 56) dX6_fitOf_56 rfl rfl
      · have h := eT h c9
        refine Ev.aload_n (pc := 25) dX6_fitOf_25 rfl ?_
        refine Ev.getR (pc := 26) dX6_fitOf_26 fl_RX6_9 lC_145 rfl ?_
        refine Ev.aload_n (pc := 29) dX6_fitOf_29 rfl ?_
        refine Ev.getI (pc := 30) dX6_fitOf_30 fl_RX6_23 lC_145 rfl ?_
        refine Ev.iload (pc := 33) dX6_fitOf_33 rfl ?_
        refine Ev.iadd (pc := 35) dX6_fitOf_35 ?_
        obtain ⟨g9, h⟩ := eGdB h
        refine Ev.ialdj (pc := 36) dX6_fitOf_36 (j := ((M.1 145 2) + v4).toNatClampNeg) lC_146 g9 rfl ?_
        refine Ev.aload_n (pc := 37) dX6_fitOf_37 rfl ?_
        refine Ev.iload_n (pc := 38) dX6_fitOf_38 rfl ?_
        refine Ev.iload (pc := 39) dX6_fitOf_39 rfl ?_
        refine Ev.iadd (pc := 41) dX6_fitOf_41 ?_
        refine eBk h (fun q1 hq1 h => ?_)
        refine Ev.callVS (pc := 42) (j := 2) (as := [.int (v2 + v4)]) (st := [.int (M.1 146 ((M.1 145 2) + v4).toNatClampNeg)]) (z := 0) dX6_fitOf_42 wc_J0_charAt_5068e ml_RX6_96 im_J0_charAt_5068e se_J0_charAt_5068e (by decide) rfl (ev_J0_charAt_5068e_v3 (v2 + v4) M _ hq1) rfl rfl (by decide) rfl rfl (Nat.le_of_ble_eq_true rfl) ?_
        refine Ev.icmp_ne (pc := 45) (tgt := 54) dX6_fitOf_45 (by decide) (fun c9 => ?_) (fun c9 => ?_)
        · have h := eF h c9
          refine Ev.iload (pc := 54) dX6_fitOf_54 rfl ?_
          obtain rfl := Option.some.inj h
          exact Ev.iret (pc := 56) dX6_fitOf_56 rfl rfl
        · have h := eT h c9
          refine Ev.iincv (pc := 48) dX6_fitOf_48 (v := 1) (by decide) rfl (by decide) rfl rfl ?_
          refine Ev.goto (pc := 51) (tgt := 3) dX6_fitOf_51 (by decide) ?_
          exact Ev.fg (ih _ _ _ h) (And.intro rfl (And.intro rfl (And.intro rfl (And.intro rfl (And.intro rfl trivial)))))
def F_X6_fitOf_v3 (x2 : Int32) (x3 : Int32) (M : eMem) : Option Int32 :=
  F_X6_fitOf_v3_3 eFuel M x2 x3 0
set_option maxRecDepth 100000 in
set_option maxHeartbeats 4000000 in
theorem ev_X6_fitOf_v3 (x2 : Int32) (x3 : Int32) (M : eMem) (q : Int32) (h : F_X6_fitOf_v3 x2 x3 M = some q) : Ev layC 5 m_X6_fitOf 0 [some (.ref 145), some (.ref 2002), some (.int x2), some (.int x3), none] [] M (some (.int q), M) := by
  rw [F_X6_fitOf_v3] at h
  refine Ev.iconst (pc := 0) dX6_fitOf_0 (v := 0) (by decide) ?_
  refine Ev.istore (pc := 1) dX6_fitOf_1 (by decide) rfl rfl ?_
  exact Ev.fg (ev_X6_fitOf_v3_3 _ _ _ _ _ _ h) (And.intro rfl (And.intro rfl (And.intro rfl (And.intro rfl (And.intro rfl trivial)))))
def F_X6_choose_v3_10  : Nat → Int32 → Int32 → Int32 → Int32 → eMem → Option (Int32 × eMem)
  | 0, _, _, _, _, _ => none
  | n + 1, v2, v3, v4, v5, M =>
    (F_J0_length_8abf5_v3 ).bind fun q1 =>
    if v5 < q1 then
      (F_J0_charAt_5068e_v3 v5 M).bind fun q2 =>
      if q2 = 32 then
        (F_X6_fitOf_v3 v4 v5 M).bind fun q3 =>
        if q3 = (v5 - v4) then
          some (v3, (eI M 145 2 ((M.1 145 2) + q3)))
        else
          F_X6_choose_v3_10 n (eMax v2 q3) (v3 + 1) (v5 + 1) (v5 + 1) M
      else
        F_X6_choose_v3_10 n v2 v3 v4 (v5 + 1) M
    else
      some ((-1), (eI M 145 2 ((M.1 145 2) + v2)))
set_option maxRecDepth 100000 in
set_option maxHeartbeats 4000000 in
theorem ev_X6_choose_v3_10  (q : (Int32 × eMem))  : ∀ (fuel : Nat) (v2 : Int32) (v3 : Int32) (v4 : Int32) (v5 : Int32) (M : eMem), F_X6_choose_v3_10 fuel v2 v3 v4 v5 M = some q → Ev layC 6 m_X6_choose 10 [some (.ref 145), some (.ref 2002), some (.int v2), some (.int v3), some (.int v4), some (.int v5), none] [] M (some (.int q.1), q.2) := by
  intro fuel
  induction fuel with
  | zero => intro v2 v3 v4 v5 M h; rw [F_X6_choose_v3_10] at h; cases h
  | succ n ih =>
    intro v2 v3 v4 v5 M h
    rw [F_X6_choose_v3_10] at h
    refine Ev.iload (pc := 10) dX6_choose_10 rfl ?_
    refine Ev.aload_n (pc := 12) dX6_choose_12 rfl ?_
    refine eBk h (fun q1 hq1 h => ?_)
    refine Ev.callVS (pc := 13) (j := 2) (as := []) (st := [.int v5]) (z := 0) dX6_choose_13 wc_J0_length_8abf5 ml_RX6_91 im_J0_length_8abf5 se_J0_length_8abf5 (by decide) rfl (ev_J0_length_8abf5_v3  M _ hq1) rfl rfl (by decide) rfl rfl (Nat.le_of_ble_eq_true rfl) ?_
    refine Ev.icmp_ge (pc := 16) (tgt := 89) dX6_choose_16 (by decide) (fun c9 => ?_) (fun c9 => ?_)
    · have h := eF h c9
      refine Ev.aload_n (pc := 89) dX6_choose_89 rfl ?_
      refine Ev.dup (pc := 90) dX6_choose_90 rfl ?_
      refine Ev.getI (pc := 91) dX6_choose_91 fl_RX6_23 lC_145 rfl ?_
      refine Ev.iload_n (pc := 94) dX6_choose_94 rfl ?_
      refine Ev.iadd (pc := 95) dX6_choose_95 ?_
      refine Ev.putI (pc := 96) dX6_choose_96 fp_RX6_23 lC_145 rfl rfl rfl ?_
      refine Ev.iconst (pc := 99) dX6_choose_99 (v := (-1)) (by decide) ?_
      obtain rfl := Option.some.inj h
      exact Ev.iret (pc := 100) dX6_choose_100 rfl rfl
    · have h := eT h c9
      refine Ev.aload_n (pc := 19) dX6_choose_19 rfl ?_
      refine Ev.iload (pc := 20) dX6_choose_20 rfl ?_
      refine eBk h (fun q2 hq2 h => ?_)
      refine Ev.callVS (pc := 22) (j := 2) (as := [.int v5]) (st := []) (z := 0) dX6_choose_22 wc_J0_charAt_5068e ml_RX6_96 im_J0_charAt_5068e se_J0_charAt_5068e (by decide) rfl (ev_J0_charAt_5068e_v3 v5 M _ hq2) rfl rfl (by decide) rfl rfl (Nat.le_of_ble_eq_true rfl) ?_
      refine Ev.bipush (pc := 25) dX6_choose_25 (v := 32) (by decide) ?_
      refine Ev.icmp_eq (pc := 27) (tgt := 33) dX6_choose_27 (by decide) (fun c9 => ?_) (fun c9 => ?_)
      · have h := eT h c9
        refine Ev.aload_n (pc := 33) dX6_choose_33 rfl ?_
        refine Ev.aload_n (pc := 34) dX6_choose_34 rfl ?_
        refine Ev.iload (pc := 35) dX6_choose_35 rfl ?_
        refine Ev.iload (pc := 37) dX6_choose_37 rfl ?_
        refine eBk h (fun q3 hq3 h => ?_)
        refine Ev.callV (pc := 39) (as := [.ref 2002, .int v4, .int v5]) (st := []) (z := 1) dX6_choose_39 wc_X6_fitOf ml_RX6_100 im_X6_fitOf se_X6_fitOf lC_145 rfl rfl (ev_X6_fitOf_v3 v4 v5 M _ hq3) rfl rfl (by decide) rfl rfl (Nat.le_of_ble_eq_true rfl) ?_
        refine Ev.istore (pc := 42) dX6_choose_42 (by decide) rfl rfl ?_
        refine Ev.iload (pc := 44) dX6_choose_44 rfl ?_
        refine Ev.iload (pc := 46) dX6_choose_46 rfl ?_
        refine Ev.iload (pc := 48) dX6_choose_48 rfl ?_
        refine Ev.isub (pc := 50) dX6_choose_50 ?_
        refine Ev.icmp_ne (pc := 51) (tgt := 67) dX6_choose_51 (by decide) (fun c9 => ?_) (fun c9 => ?_)
        · have h := eF h c9
          refine Ev.iload_n (pc := 67) dX6_choose_67 rfl ?_
          refine Ev.iload (pc := 68) dX6_choose_68 rfl ?_
          refine Ev.mmax (pc := 70) dX6_choose_70 mm_RX6_104 (by decide) (Nat.le_of_ble_eq_true rfl) ?_
          refine Ev.istore_n (pc := 73) dX6_choose_73 (by decide) rfl rfl ?_
          refine Ev.iload (pc := 74) dX6_choose_74 rfl ?_
          refine Ev.iconst (pc := 76) dX6_choose_76 (v := 1) (by decide) ?_
          refine Ev.iadd (pc := 77) dX6_choose_77 ?_
          refine Ev.istore (pc := 78) dX6_choose_78 (by decide) rfl rfl ?_
          refine Ev.iincv (pc := 80) dX6_choose_80 (v := 1) (by decide) rfl (by decide) rfl rfl ?_
          refine Ev.iincv (pc := 83) dX6_choose_83 (v := 1) (by decide) rfl (by decide) rfl rfl ?_
          refine Ev.goto (pc := 86) (tgt := 10) dX6_choose_86 (by decide) ?_
          exact Ev.fg (ih _ _ _ _ _ h) (And.intro rfl (And.intro rfl (And.intro rfl (And.intro rfl (And.intro rfl (And.intro rfl trivial))))))
        · have h := eT h c9
          refine Ev.aload_n (pc := 54) dX6_choose_54 rfl ?_
          refine Ev.dup (pc := 55) dX6_choose_55 rfl ?_
          refine Ev.getI (pc := 56) dX6_choose_56 fl_RX6_23 lC_145 rfl ?_
          refine Ev.iload (pc := 59) dX6_choose_59 rfl ?_
          refine Ev.iadd (pc := 61) dX6_choose_61 ?_
          refine Ev.putI (pc := 62) dX6_choose_62 fp_RX6_23 lC_145 rfl rfl rfl ?_
          refine Ev.iload_n (pc := 65) dX6_choose_65 rfl ?_
          obtain rfl := Option.some.inj h
          exact Ev.iret (pc := 66) dX6_choose_66 rfl rfl
      · have h := eF h c9
        refine Ev.goto (pc := 30) (tgt := 83) dX6_choose_30 (by decide) ?_
        refine Ev.iincv (pc := 83) dX6_choose_83 (v := 1) (by decide) rfl (by decide) rfl rfl ?_
        refine Ev.goto (pc := 86) (tgt := 10) dX6_choose_86 (by decide) ?_
        exact Ev.fg (ih _ _ _ _ _ h) (And.intro rfl (And.intro rfl (And.intro rfl (And.intro rfl (And.intro rfl (And.intro rfl trivial))))))
def F_X6_choose_v3  (M : eMem) : Option (Int32 × eMem) :=
  F_X6_choose_v3_10 eFuel 0 0 0 0 M
set_option maxRecDepth 100000 in
set_option maxHeartbeats 4000000 in
theorem ev_X6_choose_v3  (M : eMem) (q : (Int32 × eMem)) (h : F_X6_choose_v3  M = some q) : Ev layC 6 m_X6_choose 0 [some (.ref 145), some (.ref 2002), none, none, none, none, none] [] M (some (.int q.1), q.2) := by
  rw [F_X6_choose_v3] at h
  refine Ev.iconst (pc := 0) dX6_choose_0 (v := 0) (by decide) ?_
  refine Ev.istore_n (pc := 1) dX6_choose_1 (by decide) rfl rfl ?_
  refine Ev.iconst (pc := 2) dX6_choose_2 (v := 0) (by decide) ?_
  refine Ev.istore_n (pc := 3) dX6_choose_3 (by decide) rfl rfl ?_
  refine Ev.iconst (pc := 4) dX6_choose_4 (v := 0) (by decide) ?_
  refine Ev.istore (pc := 5) dX6_choose_5 (by decide) rfl rfl ?_
  refine Ev.iconst (pc := 7) dX6_choose_7 (v := 0) (by decide) ?_
  refine Ev.istore (pc := 8) dX6_choose_8 (by decide) rfl rfl ?_
  exact Ev.fg (ev_X6_choose_v3_10 _ _ _ _ _ _ _ h) (And.intro rfl (And.intro rfl (And.intro rfl (And.intro rfl (And.intro rfl (And.intro rfl trivial))))))
def F_J0_coder_7d493_v4  : Option Int32 :=
  some 0
set_option maxRecDepth 100000 in
set_option maxHeartbeats 4000000 in
theorem ev_J0_coder_7d493_v4 {lay : List eLC}  (M : eMem) (q : Int32) (h : F_J0_coder_7d493_v4  = some q) : Ev lay 0 m_J0_coder_7d493 0 [some (.ref 2003)] [] M (some (.int q), M) := by
  rw [F_J0_coder_7d493_v4] at h
  refine Ev.getCS (pc := 0) dJ0_coder_7d493_0 fx_RJ0_38 ?_
  refine Ev.if_eq (pc := 3) (tgt := 13) dJ0_coder_7d493_3 (by decide) (fun c9 => ?_) (fun c9 => ?_)
  · exact absurd c9 (by decide)
  · refine Ev.aload_n (pc := 6) dJ0_coder_7d493_6 rfl ?_
    refine Ev.strCod (pc := 7) dJ0_coder_7d493_7 (j := 3) (by decide) fx_RJ0_15 ?_
    refine Ev.goto (pc := 10) (tgt := 14) dJ0_coder_7d493_10 (by decide) ?_
    obtain rfl := Option.some.inj h
    exact Ev.iret (pc := 14) dJ0_coder_7d493_14 rfl rfl
def F_J0_length_8abf5_v4  : Option Int32 :=
  (F_J0_coder_7d493_v4 ).bind fun q1 =>
  some (26 >>> (q1 &&& 31))
set_option maxRecDepth 100000 in
set_option maxHeartbeats 4000000 in
theorem ev_J0_length_8abf5_v4 {lay : List eLC}  (M : eMem) (q : Int32) (h : F_J0_length_8abf5_v4  = some q) : Ev lay 1 m_J0_length_8abf5 0 [some (.ref 2003)] [] M (some (.int q), M) := by
  rw [F_J0_length_8abf5_v4] at h
  refine Ev.aload_n (pc := 0) dJ0_length_8abf5_0 rfl ?_
  refine Ev.strVal (pc := 1) dJ0_length_8abf5_1 (j := 3) (by decide) fx_RJ0_9 ?_
  refine Ev.strLenj (pc := 4) dJ0_length_8abf5_4 (j := 3) (v := 26) (by decide) (by decide) ?_
  refine Ev.aload_n (pc := 5) dJ0_length_8abf5_5 rfl ?_
  refine eBk h (fun q1 hq1 h => ?_)
  refine Ev.callVS (pc := 6) (j := 3) (as := []) (st := [.int 26]) (z := 0) dJ0_length_8abf5_6 wc_J0_coder_7d493 ml_RJ0_335 im_J0_coder_7d493 se_J0_coder_7d493 (by decide) rfl (ev_J0_coder_7d493_v4  M _ hq1) rfl rfl (by decide) rfl rfl (Nat.le_of_ble_eq_true rfl) ?_
  refine Ev.ishr (pc := 9) dJ0_length_8abf5_9 ?_
  obtain rfl := Option.some.inj h
  exact Ev.iret (pc := 10) dJ0_length_8abf5_10 rfl rfl
def F_J0_isLatin1_aae02_v4  : Option Int32 :=
  some 1
set_option maxRecDepth 100000 in
set_option maxHeartbeats 4000000 in
theorem ev_J0_isLatin1_aae02_v4 {lay : List eLC}  (M : eMem) (q : Int32) (h : F_J0_isLatin1_aae02_v4  = some q) : Ev lay 0 m_J0_isLatin1_aae02 0 [some (.ref 2003)] [] M (some (.int q), M) := by
  rw [F_J0_isLatin1_aae02_v4] at h
  refine Ev.getCS (pc := 0) dJ0_isLatin1_aae02_0 fx_RJ0_38 ?_
  refine Ev.if_eq (pc := 3) (tgt := 17) dJ0_isLatin1_aae02_3 (by decide) (fun c9 => ?_) (fun c9 => ?_)
  · exact absurd c9 (by decide)
  · refine Ev.aload_n (pc := 6) dJ0_isLatin1_aae02_6 rfl ?_
    refine Ev.strCod (pc := 7) dJ0_isLatin1_aae02_7 (j := 3) (by decide) fx_RJ0_15 ?_
    refine Ev.if_ne (pc := 10) (tgt := 17) dJ0_isLatin1_aae02_10 (by decide) (fun c9 => ?_) (fun c9 => ?_)
    · exact absurd c9 (by decide)
    · refine Ev.iconst (pc := 13) dJ0_isLatin1_aae02_13 (v := 1) (by decide) ?_
      refine Ev.goto (pc := 14) (tgt := 18) dJ0_isLatin1_aae02_14 (by decide) ?_
      obtain rfl := Option.some.inj h
      exact Ev.iret (pc := 18) dJ0_isLatin1_aae02_18 rfl rfl
def F_J1_charAt_3b067_v4 (x1 : Int32) (M : eMem) : Option Int32 :=
  (F_J0_checkIndex_df160 x1 26).bind fun q1 =>
  eG (eIn x1 26) <|
  eG (decide (vp_nar .char ((((eSB.getD 3 []).getD x1.toNatClampNeg 0) &&& 255).toUInt32 % 65536).toInt32 = ((((eSB.getD 3 []).getD x1.toNatClampNeg 0) &&& 255).toUInt32 % 65536).toInt32)) <|
  some ((((eSB.getD 3 []).getD x1.toNatClampNeg 0) &&& 255).toUInt32 % 65536).toInt32
set_option maxRecDepth 100000 in
set_option maxHeartbeats 4000000 in
theorem ev_J1_charAt_3b067_v4 {lay : List eLC} (x1 : Int32) (M : eMem) (q : Int32) (h : F_J1_charAt_3b067_v4 x1 M = some q) : Ev lay 2 m_J1_charAt_3b067 0 [some (.ref 3003), some (.int x1)] [] M (some (.int q), M) := by
  rw [F_J1_charAt_3b067_v4] at h
  refine Ev.iload_n (pc := 0) dJ1_charAt_3b067_0 rfl ?_
  refine Ev.aload_n (pc := 1) dJ1_charAt_3b067_1 rfl ?_
  refine Ev.strLenj (pc := 2) dJ1_charAt_3b067_2 (j := 3) (v := 26) (by decide) (by decide) ?_
  refine eBk h (fun q1 hq1 h => ?_)
  refine Ev.callS (pc := 3) (as := [.int x1, .int 26]) (st := []) (z := 0) dJ1_charAt_3b067_3 wc_J0_checkIndex_df160 ml_RJ1_9 sm_J0_checkIndex_df160 (ev_J0_checkIndex_df160 x1 26 M _ hq1) rfl rfl (by decide) rfl rfl (Nat.le_of_ble_eq_true rfl) ?_
  refine Ev.aload_n (pc := 6) dJ1_charAt_3b067_6 rfl ?_
  refine Ev.iload_n (pc := 7) dJ1_charAt_3b067_7 rfl ?_
  obtain ⟨g9, h⟩ := eGdB h
  refine Ev.strBj (pc := 8) dJ1_charAt_3b067_8 (j := 3) (n := x1.toNatClampNeg) (by decide) g9 rfl rfl ?_
  refine Ev.sipush (pc := 9) dJ1_charAt_3b067_9 (v := 255) (by decide) ?_
  refine Ev.iand (pc := 12) dJ1_charAt_3b067_12 ?_
  refine Ev.i2c (pc := 13) dJ1_charAt_3b067_13 ?_
  obtain ⟨g9, h⟩ := eGdB h
  have g9 := of_decide_eq_true g9
  obtain rfl := Option.some.inj h
  exact Ev.iret (pc := 14) dJ1_charAt_3b067_14 rfl (eNar_char g9)
def F_J0_charAt_5068e_v4 (x1 : Int32) (M : eMem) : Option Int32 :=
  (F_J0_isLatin1_aae02_v4 ).bind fun q1 =>
  if q1 = 0 then
    none
  else
    (F_J1_charAt_3b067_v4 x1 M).bind fun q2 =>
    eG (decide (vp_nar .char q2 = q2)) <|
    some q2
set_option maxRecDepth 100000 in
set_option maxHeartbeats 4000000 in
theorem ev_J0_charAt_5068e_v4 {lay : List eLC} (x1 : Int32) (M : eMem) (q : Int32) (h : F_J0_charAt_5068e_v4 x1 M = some q) : Ev lay 4 m_J0_charAt_5068e 0 [some (.ref 2003), some (.int x1)] [] M (some (.int q), M) := by
  rw [F_J0_charAt_5068e_v4] at h
  refine Ev.aload_n (pc := 0) dJ0_charAt_5068e_0 rfl ?_
  refine eBk h (fun q1 hq1 h => ?_)
  refine Ev.callVS (pc := 1) (j := 3) (as := []) (st := []) (z := 0) dJ0_charAt_5068e_1 wc_J0_isLatin1_aae02 ml_RJ0_492 im_J0_isLatin1_aae02 se_J0_isLatin1_aae02 (by decide) rfl (ev_J0_isLatin1_aae02_v4  M _ hq1) rfl rfl (by decide) rfl rfl (Nat.le_of_ble_eq_true rfl) ?_
  refine Ev.if_eq (pc := 4) (tgt := 16) dJ0_charAt_5068e_4 (by decide) (fun c9 => ?_) (fun c9 => ?_)
  · have h := eT h c9
    refine Ev.aload_n (pc := 16) dJ0_charAt_5068e_16 rfl ?_
    refine Ev.strVal (pc := 17) dJ0_charAt_5068e_17 (j := 3) (by decide) fx_RJ0_9 ?_
    refine Ev.iload_n (pc := 20) dJ0_charAt_5068e_20 rfl ?_
    cases h
  · have h := eF h c9
    refine Ev.aload_n (pc := 7) dJ0_charAt_5068e_7 rfl ?_
    refine Ev.strVal (pc := 8) dJ0_charAt_5068e_8 (j := 3) (by decide) fx_RJ0_9 ?_
    refine Ev.iload_n (pc := 11) dJ0_charAt_5068e_11 rfl ?_
    refine eBk h (fun q2 hq2 h => ?_)
    refine Ev.callS (pc := 12) (as := [.ref 3003, .int x1]) (st := []) (z := 0) dJ0_charAt_5068e_12 wc_J1_charAt_3b067 ml_RJ0_495 sm_J1_charAt_3b067 (ev_J1_charAt_3b067_v4 x1 M _ hq2) rfl rfl (by decide) rfl rfl (Nat.le_of_ble_eq_true rfl) ?_
    obtain ⟨g9, h⟩ := eGdB h
    have g9 := of_decide_eq_true g9
    obtain rfl := Option.some.inj h
    exact Ev.iret (pc := 15) dJ0_charAt_5068e_15 rfl (eNar_char g9)
def F_X6_fitOf_v4_3  : Nat → eMem → Int32 → Int32 → Int32 → Option Int32
  | 0, _, _, _, _ => none
  | n + 1, M, v2, v3, v4 =>
    if (v2 + v4) < v3 then
      if ((M.1 145 2) + v4) < (M.1 145 1) then
        eG (eIn ((M.1 145 2) + v4) 120) <|
        (F_J0_charAt_5068e_v4 (v2 + v4) M).bind fun q1 =>
        if (M.1 146 ((M.1 145 2) + v4).toNatClampNeg) = q1 then
          F_X6_fitOf_v4_3 n M v2 v3 (v4 + 1)
        else
          some v4
      else
        some v4
    else
      some v4
set_option maxRecDepth 100000 in
set_option maxHeartbeats 4000000 in
theorem ev_X6_fitOf_v4_3  (q : Int32) (M : eMem)  : ∀ (fuel : Nat) (v2 : Int32) (v3 : Int32) (v4 : Int32), F_X6_fitOf_v4_3 fuel M v2 v3 v4 = some q → Ev layC 5 m_X6_fitOf 3 [some (.ref 145), some (.ref 2003), some (.int v2), some (.int v3), some (.int v4)] [] M (some (.int q), M) := by
  intro fuel
  induction fuel with
  | zero => intro v2 v3 v4 h; rw [F_X6_fitOf_v4_3] at h; cases h
  | succ n ih =>
    intro v2 v3 v4 h
    rw [F_X6_fitOf_v4_3] at h
    refine Ev.iload_n (pc := 3) dX6_fitOf_3 rfl ?_
    refine Ev.iload (pc := 4) dX6_fitOf_4 rfl ?_
    refine Ev.iadd (pc := 6) dX6_fitOf_6 ?_
    refine Ev.iload_n (pc := 7) dX6_fitOf_7 rfl ?_
    refine Ev.icmp_ge (pc := 8) (tgt := 54) dX6_fitOf_8 (by decide) (fun c9 => ?_) (fun c9 => ?_)
    · have h := eF h c9
      refine Ev.iload (pc := 54) dX6_fitOf_54 rfl ?_
      obtain rfl := Option.some.inj h
      exact Ev.iret (pc := 56) dX6_fitOf_56 rfl rfl
    · have h := eT h c9
      refine Ev.aload_n (pc := 11) dX6_fitOf_11 rfl ?_
      refine Ev.getI (pc := 12) dX6_fitOf_12 fl_RX6_23 lC_145 rfl ?_
      refine Ev.iload (pc := 15) dX6_fitOf_15 rfl ?_
      refine Ev.iadd (pc := 17) dX6_fitOf_17 ?_
      refine Ev.aload_n (pc := 18) dX6_fitOf_18 rfl ?_
      refine Ev.getI (pc := 19) dX6_fitOf_19 fl_RX6_15 lC_145 rfl ?_
      refine Ev.icmp_ge (pc := 22) (tgt := 54) dX6_fitOf_22 (by decide) (fun c9 => ?_) (fun c9 => ?_)
      · have h := eF h c9
        refine Ev.iload (pc := 54) dX6_fitOf_54 rfl ?_
        obtain rfl := Option.some.inj h
        exact Ev.iret (pc := 56) dX6_fitOf_56 rfl rfl
      · have h := eT h c9
        refine Ev.aload_n (pc := 25) dX6_fitOf_25 rfl ?_
        refine Ev.getR (pc := 26) dX6_fitOf_26 fl_RX6_9 lC_145 rfl ?_
        refine Ev.aload_n (pc := 29) dX6_fitOf_29 rfl ?_
        refine Ev.getI (pc := 30) dX6_fitOf_30 fl_RX6_23 lC_145 rfl ?_
        refine Ev.iload (pc := 33) dX6_fitOf_33 rfl ?_
        refine Ev.iadd (pc := 35) dX6_fitOf_35 ?_
        obtain ⟨g9, h⟩ := eGdB h
        refine Ev.ialdj (pc := 36) dX6_fitOf_36 (j := ((M.1 145 2) + v4).toNatClampNeg) lC_146 g9 rfl ?_
        refine Ev.aload_n (pc := 37) dX6_fitOf_37 rfl ?_
        refine Ev.iload_n (pc := 38) dX6_fitOf_38 rfl ?_
        refine Ev.iload (pc := 39) dX6_fitOf_39 rfl ?_
        refine Ev.iadd (pc := 41) dX6_fitOf_41 ?_
        refine eBk h (fun q1 hq1 h => ?_)
        refine Ev.callVS (pc := 42) (j := 3) (as := [.int (v2 + v4)]) (st := [.int (M.1 146 ((M.1 145 2) + v4).toNatClampNeg)]) (z := 0) dX6_fitOf_42 wc_J0_charAt_5068e ml_RX6_96 im_J0_charAt_5068e se_J0_charAt_5068e (by decide) rfl (ev_J0_charAt_5068e_v4 (v2 + v4) M _ hq1) rfl rfl (by decide) rfl rfl (Nat.le_of_ble_eq_true rfl) ?_
        refine Ev.icmp_ne (pc := 45) (tgt := 54) dX6_fitOf_45 (by decide) (fun c9 => ?_) (fun c9 => ?_)
        · have h := eF h c9
          refine Ev.iload (pc := 54) dX6_fitOf_54 rfl ?_
          obtain rfl := Option.some.inj h
          exact Ev.iret (pc := 56) dX6_fitOf_56 rfl rfl
        · have h := eT h c9
          refine Ev.iincv (pc := 48) dX6_fitOf_48 (v := 1) (by decide) rfl (by decide) rfl rfl ?_
          refine Ev.goto (pc := 51) (tgt := 3) dX6_fitOf_51 (by decide) ?_
          exact Ev.fg (ih _ _ _ h) (And.intro rfl (And.intro rfl (And.intro rfl (And.intro rfl (And.intro rfl trivial)))))
def F_X6_fitOf_v4 (x2 : Int32) (x3 : Int32) (M : eMem) : Option Int32 :=
  F_X6_fitOf_v4_3 eFuel M x2 x3 0
set_option maxRecDepth 100000 in
set_option maxHeartbeats 4000000 in
theorem ev_X6_fitOf_v4 (x2 : Int32) (x3 : Int32) (M : eMem) (q : Int32) (h : F_X6_fitOf_v4 x2 x3 M = some q) : Ev layC 5 m_X6_fitOf 0 [some (.ref 145), some (.ref 2003), some (.int x2), some (.int x3), none] [] M (some (.int q), M) := by
  rw [F_X6_fitOf_v4] at h
  refine Ev.iconst (pc := 0) dX6_fitOf_0 (v := 0) (by decide) ?_
  refine Ev.istore (pc := 1) dX6_fitOf_1 (by decide) rfl rfl ?_
  exact Ev.fg (ev_X6_fitOf_v4_3 _ _ _ _ _ _ h) (And.intro rfl (And.intro rfl (And.intro rfl (And.intro rfl (And.intro rfl trivial)))))
def F_X6_choose_v4_10  : Nat → Int32 → Int32 → Int32 → Int32 → eMem → Option (Int32 × eMem)
  | 0, _, _, _, _, _ => none
  | n + 1, v2, v3, v4, v5, M =>
    (F_J0_length_8abf5_v4 ).bind fun q1 =>
    if v5 < q1 then
      (F_J0_charAt_5068e_v4 v5 M).bind fun q2 =>
      if q2 = 32 then
        (F_X6_fitOf_v4 v4 v5 M).bind fun q3 =>
        if q3 = (v5 - v4) then
          some (v3, (eI M 145 2 ((M.1 145 2) + q3)))
        else
          F_X6_choose_v4_10 n (eMax v2 q3) (v3 + 1) (v5 + 1) (v5 + 1) M
      else
        F_X6_choose_v4_10 n v2 v3 v4 (v5 + 1) M
    else
      some ((-1), (eI M 145 2 ((M.1 145 2) + v2)))
set_option maxRecDepth 100000 in
set_option maxHeartbeats 4000000 in
theorem ev_X6_choose_v4_10  (q : (Int32 × eMem))  : ∀ (fuel : Nat) (v2 : Int32) (v3 : Int32) (v4 : Int32) (v5 : Int32) (M : eMem), F_X6_choose_v4_10 fuel v2 v3 v4 v5 M = some q → Ev layC 6 m_X6_choose 10 [some (.ref 145), some (.ref 2003), some (.int v2), some (.int v3), some (.int v4), some (.int v5), none] [] M (some (.int q.1), q.2) := by
  intro fuel
  induction fuel with
  | zero => intro v2 v3 v4 v5 M h; rw [F_X6_choose_v4_10] at h; cases h
  | succ n ih =>
    intro v2 v3 v4 v5 M h
    rw [F_X6_choose_v4_10] at h
    refine Ev.iload (pc := 10) dX6_choose_10 rfl ?_
    refine Ev.aload_n (pc := 12) dX6_choose_12 rfl ?_
    refine eBk h (fun q1 hq1 h => ?_)
    refine Ev.callVS (pc := 13) (j := 3) (as := []) (st := [.int v5]) (z := 0) dX6_choose_13 wc_J0_length_8abf5 ml_RX6_91 im_J0_length_8abf5 se_J0_length_8abf5 (by decide) rfl (ev_J0_length_8abf5_v4  M _ hq1) rfl rfl (by decide) rfl rfl (Nat.le_of_ble_eq_true rfl) ?_
    refine Ev.icmp_ge (pc := 16) (tgt := 89) dX6_choose_16 (by decide) (fun c9 => ?_) (fun c9 => ?_)
    · have h := eF h c9
      refine Ev.aload_n (pc := 89) dX6_choose_89 rfl ?_
      refine Ev.dup (pc := 90) dX6_choose_90 rfl ?_
      refine Ev.getI (pc := 91) dX6_choose_91 fl_RX6_23 lC_145 rfl ?_
      refine Ev.iload_n (pc := 94) dX6_choose_94 rfl ?_
      refine Ev.iadd (pc := 95) dX6_choose_95 ?_
      refine Ev.putI (pc := 96) dX6_choose_96 fp_RX6_23 lC_145 rfl rfl rfl ?_
      refine Ev.iconst (pc := 99) dX6_choose_99 (v := (-1)) (by decide) ?_
      obtain rfl := Option.some.inj h
      exact Ev.iret (pc := 100) dX6_choose_100 rfl rfl
    · have h := eT h c9
      refine Ev.aload_n (pc := 19) dX6_choose_19 rfl ?_
      refine Ev.iload (pc := 20) dX6_choose_20 rfl ?_
      refine eBk h (fun q2 hq2 h => ?_)
      refine Ev.callVS (pc := 22) (j := 3) (as := [.int v5]) (st := []) (z := 0) dX6_choose_22 wc_J0_charAt_5068e ml_RX6_96 im_J0_charAt_5068e se_J0_charAt_5068e (by decide) rfl (ev_J0_charAt_5068e_v4 v5 M _ hq2) rfl rfl (by decide) rfl rfl (Nat.le_of_ble_eq_true rfl) ?_
      refine Ev.bipush (pc := 25) dX6_choose_25 (v := 32) (by decide) ?_
      refine Ev.icmp_eq (pc := 27) (tgt := 33) dX6_choose_27 (by decide) (fun c9 => ?_) (fun c9 => ?_)
      · have h := eT h c9
        refine Ev.aload_n (pc := 33) dX6_choose_33 rfl ?_
        refine Ev.aload_n (pc := 34) dX6_choose_34 rfl ?_
        refine Ev.iload (pc := 35) dX6_choose_35 rfl ?_
        refine Ev.iload (pc := 37) dX6_choose_37 rfl ?_
        refine eBk h (fun q3 hq3 h => ?_)
        refine Ev.callV (pc := 39) (as := [.ref 2003, .int v4, .int v5]) (st := []) (z := 1) dX6_choose_39 wc_X6_fitOf ml_RX6_100 im_X6_fitOf se_X6_fitOf lC_145 rfl rfl (ev_X6_fitOf_v4 v4 v5 M _ hq3) rfl rfl (by decide) rfl rfl (Nat.le_of_ble_eq_true rfl) ?_
        refine Ev.istore (pc := 42) dX6_choose_42 (by decide) rfl rfl ?_
        refine Ev.iload (pc := 44) dX6_choose_44 rfl ?_
        refine Ev.iload (pc := 46) dX6_choose_46 rfl ?_
        refine Ev.iload (pc := 48) dX6_choose_48 rfl ?_
        refine Ev.isub (pc := 50) dX6_choose_50 ?_
        refine Ev.icmp_ne (pc := 51) (tgt := 67) dX6_choose_51 (by decide) (fun c9 => ?_) (fun c9 => ?_)
        · have h := eF h c9
          refine Ev.iload_n (pc := 67) dX6_choose_67 rfl ?_
          refine Ev.iload (pc := 68) dX6_choose_68 rfl ?_
          refine Ev.mmax (pc := 70) dX6_choose_70 mm_RX6_104 (by decide) (Nat.le_of_ble_eq_true rfl) ?_
          refine Ev.istore_n (pc := 73) dX6_choose_73 (by decide) rfl rfl ?_
          refine Ev.iload (pc := 74) dX6_choose_74 rfl ?_
          refine Ev.iconst (pc := 76) dX6_choose_76 (v := 1) (by decide) ?_
          refine Ev.iadd (pc := 77) dX6_choose_77 ?_
          refine Ev.istore (pc := 78) dX6_choose_78 (by decide) rfl rfl ?_
          refine Ev.iincv (pc := 80) dX6_choose_80 (v := 1) (by decide) rfl (by decide) rfl rfl ?_
          refine Ev.iincv (pc := 83) dX6_choose_83 (v := 1) (by decide) rfl (by decide) rfl rfl ?_
          refine Ev.goto (pc := 86) (tgt := 10) dX6_choose_86 (by decide) ?_
          exact Ev.fg (ih _ _ _ _ _ h) (And.intro rfl (And.intro rfl (And.intro rfl (And.intro rfl (And.intro rfl (And.intro rfl trivial))))))
        · have h := eT h c9
          refine Ev.aload_n (pc := 54) dX6_choose_54 rfl ?_
          refine Ev.dup (pc := 55) dX6_choose_55 rfl ?_
          refine Ev.getI (pc := 56) dX6_choose_56 fl_RX6_23 lC_145 rfl ?_
          refine Ev.iload (pc := 59) dX6_choose_59 rfl ?_
          refine Ev.iadd (pc := 61) dX6_choose_61 ?_
          refine Ev.putI (pc := 62) dX6_choose_62 fp_RX6_23 lC_145 rfl rfl rfl ?_
          refine Ev.iload_n (pc := 65) dX6_choose_65 rfl ?_
          obtain rfl := Option.some.inj h
          exact Ev.iret (pc := 66) dX6_choose_66 rfl rfl
      · have h := eF h c9
        refine Ev.goto (pc := 30) (tgt := 83) dX6_choose_30 (by decide) ?_
        refine Ev.iincv (pc := 83) dX6_choose_83 (v := 1) (by decide) rfl (by decide) rfl rfl ?_
        refine Ev.goto (pc := 86) (tgt := 10) dX6_choose_86 (by decide) ?_
        exact Ev.fg (ih _ _ _ _ _ h) (And.intro rfl (And.intro rfl (And.intro rfl (And.intro rfl (And.intro rfl (And.intro rfl trivial))))))
def F_X6_choose_v4  (M : eMem) : Option (Int32 × eMem) :=
  F_X6_choose_v4_10 eFuel 0 0 0 0 M
set_option maxRecDepth 100000 in
set_option maxHeartbeats 4000000 in
theorem ev_X6_choose_v4  (M : eMem) (q : (Int32 × eMem)) (h : F_X6_choose_v4  M = some q) : Ev layC 6 m_X6_choose 0 [some (.ref 145), some (.ref 2003), none, none, none, none, none] [] M (some (.int q.1), q.2) := by
  rw [F_X6_choose_v4] at h
  refine Ev.iconst (pc := 0) dX6_choose_0 (v := 0) (by decide) ?_
  refine Ev.istore_n (pc := 1) dX6_choose_1 (by decide) rfl rfl ?_
  refine Ev.iconst (pc := 2) dX6_choose_2 (v := 0) (by decide) ?_
  refine Ev.istore_n (pc := 3) dX6_choose_3 (by decide) rfl rfl ?_
  refine Ev.iconst (pc := 4) dX6_choose_4 (v := 0) (by decide) ?_
  refine Ev.istore (pc := 5) dX6_choose_5 (by decide) rfl rfl ?_
  refine Ev.iconst (pc := 7) dX6_choose_7 (v := 0) (by decide) ?_
  refine Ev.istore (pc := 8) dX6_choose_8 (by decide) rfl rfl ?_
  exact Ev.fg (ev_X6_choose_v4_10 _ _ _ _ _ _ _ h) (And.intro rfl (And.intro rfl (And.intro rfl (And.intro rfl (And.intro rfl (And.intro rfl trivial))))))
def F_J0_coder_7d493_v5  : Option Int32 :=
  some 0
set_option maxRecDepth 100000 in
set_option maxHeartbeats 4000000 in
theorem ev_J0_coder_7d493_v5 {lay : List eLC}  (M : eMem) (q : Int32) (h : F_J0_coder_7d493_v5  = some q) : Ev lay 0 m_J0_coder_7d493 0 [some (.ref 2004)] [] M (some (.int q), M) := by
  rw [F_J0_coder_7d493_v5] at h
  refine Ev.getCS (pc := 0) dJ0_coder_7d493_0 fx_RJ0_38 ?_
  refine Ev.if_eq (pc := 3) (tgt := 13) dJ0_coder_7d493_3 (by decide) (fun c9 => ?_) (fun c9 => ?_)
  · exact absurd c9 (by decide)
  · refine Ev.aload_n (pc := 6) dJ0_coder_7d493_6 rfl ?_
    refine Ev.strCod (pc := 7) dJ0_coder_7d493_7 (j := 4) (by decide) fx_RJ0_15 ?_
    refine Ev.goto (pc := 10) (tgt := 14) dJ0_coder_7d493_10 (by decide) ?_
    obtain rfl := Option.some.inj h
    exact Ev.iret (pc := 14) dJ0_coder_7d493_14 rfl rfl
def F_J0_length_8abf5_v5  : Option Int32 :=
  (F_J0_coder_7d493_v5 ).bind fun q1 =>
  some (6 >>> (q1 &&& 31))
set_option maxRecDepth 100000 in
set_option maxHeartbeats 4000000 in
theorem ev_J0_length_8abf5_v5 {lay : List eLC}  (M : eMem) (q : Int32) (h : F_J0_length_8abf5_v5  = some q) : Ev lay 1 m_J0_length_8abf5 0 [some (.ref 2004)] [] M (some (.int q), M) := by
  rw [F_J0_length_8abf5_v5] at h
  refine Ev.aload_n (pc := 0) dJ0_length_8abf5_0 rfl ?_
  refine Ev.strVal (pc := 1) dJ0_length_8abf5_1 (j := 4) (by decide) fx_RJ0_9 ?_
  refine Ev.strLenj (pc := 4) dJ0_length_8abf5_4 (j := 4) (v := 6) (by decide) (by decide) ?_
  refine Ev.aload_n (pc := 5) dJ0_length_8abf5_5 rfl ?_
  refine eBk h (fun q1 hq1 h => ?_)
  refine Ev.callVS (pc := 6) (j := 4) (as := []) (st := [.int 6]) (z := 0) dJ0_length_8abf5_6 wc_J0_coder_7d493 ml_RJ0_335 im_J0_coder_7d493 se_J0_coder_7d493 (by decide) rfl (ev_J0_coder_7d493_v5  M _ hq1) rfl rfl (by decide) rfl rfl (Nat.le_of_ble_eq_true rfl) ?_
  refine Ev.ishr (pc := 9) dJ0_length_8abf5_9 ?_
  obtain rfl := Option.some.inj h
  exact Ev.iret (pc := 10) dJ0_length_8abf5_10 rfl rfl
def F_J0_isLatin1_aae02_v5  : Option Int32 :=
  some 1
set_option maxRecDepth 100000 in
set_option maxHeartbeats 4000000 in
theorem ev_J0_isLatin1_aae02_v5 {lay : List eLC}  (M : eMem) (q : Int32) (h : F_J0_isLatin1_aae02_v5  = some q) : Ev lay 0 m_J0_isLatin1_aae02 0 [some (.ref 2004)] [] M (some (.int q), M) := by
  rw [F_J0_isLatin1_aae02_v5] at h
  refine Ev.getCS (pc := 0) dJ0_isLatin1_aae02_0 fx_RJ0_38 ?_
  refine Ev.if_eq (pc := 3) (tgt := 17) dJ0_isLatin1_aae02_3 (by decide) (fun c9 => ?_) (fun c9 => ?_)
  · exact absurd c9 (by decide)
  · refine Ev.aload_n (pc := 6) dJ0_isLatin1_aae02_6 rfl ?_
    refine Ev.strCod (pc := 7) dJ0_isLatin1_aae02_7 (j := 4) (by decide) fx_RJ0_15 ?_
    refine Ev.if_ne (pc := 10) (tgt := 17) dJ0_isLatin1_aae02_10 (by decide) (fun c9 => ?_) (fun c9 => ?_)
    · exact absurd c9 (by decide)
    · refine Ev.iconst (pc := 13) dJ0_isLatin1_aae02_13 (v := 1) (by decide) ?_
      refine Ev.goto (pc := 14) (tgt := 18) dJ0_isLatin1_aae02_14 (by decide) ?_
      obtain rfl := Option.some.inj h
      exact Ev.iret (pc := 18) dJ0_isLatin1_aae02_18 rfl rfl
def F_J1_charAt_3b067_v5 (x1 : Int32) (M : eMem) : Option Int32 :=
  (F_J0_checkIndex_df160 x1 6).bind fun q1 =>
  eG (eIn x1 6) <|
  eG (decide (vp_nar .char ((((eSB.getD 4 []).getD x1.toNatClampNeg 0) &&& 255).toUInt32 % 65536).toInt32 = ((((eSB.getD 4 []).getD x1.toNatClampNeg 0) &&& 255).toUInt32 % 65536).toInt32)) <|
  some ((((eSB.getD 4 []).getD x1.toNatClampNeg 0) &&& 255).toUInt32 % 65536).toInt32
set_option maxRecDepth 100000 in
set_option maxHeartbeats 4000000 in
theorem ev_J1_charAt_3b067_v5 {lay : List eLC} (x1 : Int32) (M : eMem) (q : Int32) (h : F_J1_charAt_3b067_v5 x1 M = some q) : Ev lay 2 m_J1_charAt_3b067 0 [some (.ref 3004), some (.int x1)] [] M (some (.int q), M) := by
  rw [F_J1_charAt_3b067_v5] at h
  refine Ev.iload_n (pc := 0) dJ1_charAt_3b067_0 rfl ?_
  refine Ev.aload_n (pc := 1) dJ1_charAt_3b067_1 rfl ?_
  refine Ev.strLenj (pc := 2) dJ1_charAt_3b067_2 (j := 4) (v := 6) (by decide) (by decide) ?_
  refine eBk h (fun q1 hq1 h => ?_)
  refine Ev.callS (pc := 3) (as := [.int x1, .int 6]) (st := []) (z := 0) dJ1_charAt_3b067_3 wc_J0_checkIndex_df160 ml_RJ1_9 sm_J0_checkIndex_df160 (ev_J0_checkIndex_df160 x1 6 M _ hq1) rfl rfl (by decide) rfl rfl (Nat.le_of_ble_eq_true rfl) ?_
  refine Ev.aload_n (pc := 6) dJ1_charAt_3b067_6 rfl ?_
  refine Ev.iload_n (pc := 7) dJ1_charAt_3b067_7 rfl ?_
  obtain ⟨g9, h⟩ := eGdB h
  refine Ev.strBj (pc := 8) dJ1_charAt_3b067_8 (j := 4) (n := x1.toNatClampNeg) (by decide) g9 rfl rfl ?_
  refine Ev.sipush (pc := 9) dJ1_charAt_3b067_9 (v := 255) (by decide) ?_
  refine Ev.iand (pc := 12) dJ1_charAt_3b067_12 ?_
  refine Ev.i2c (pc := 13) dJ1_charAt_3b067_13 ?_
  obtain ⟨g9, h⟩ := eGdB h
  have g9 := of_decide_eq_true g9
  obtain rfl := Option.some.inj h
  exact Ev.iret (pc := 14) dJ1_charAt_3b067_14 rfl (eNar_char g9)
def F_J0_charAt_5068e_v5 (x1 : Int32) (M : eMem) : Option Int32 :=
  (F_J0_isLatin1_aae02_v5 ).bind fun q1 =>
  if q1 = 0 then
    none
  else
    (F_J1_charAt_3b067_v5 x1 M).bind fun q2 =>
    eG (decide (vp_nar .char q2 = q2)) <|
    some q2
set_option maxRecDepth 100000 in
set_option maxHeartbeats 4000000 in
theorem ev_J0_charAt_5068e_v5 {lay : List eLC} (x1 : Int32) (M : eMem) (q : Int32) (h : F_J0_charAt_5068e_v5 x1 M = some q) : Ev lay 4 m_J0_charAt_5068e 0 [some (.ref 2004), some (.int x1)] [] M (some (.int q), M) := by
  rw [F_J0_charAt_5068e_v5] at h
  refine Ev.aload_n (pc := 0) dJ0_charAt_5068e_0 rfl ?_
  refine eBk h (fun q1 hq1 h => ?_)
  refine Ev.callVS (pc := 1) (j := 4) (as := []) (st := []) (z := 0) dJ0_charAt_5068e_1 wc_J0_isLatin1_aae02 ml_RJ0_492 im_J0_isLatin1_aae02 se_J0_isLatin1_aae02 (by decide) rfl (ev_J0_isLatin1_aae02_v5  M _ hq1) rfl rfl (by decide) rfl rfl (Nat.le_of_ble_eq_true rfl) ?_
  refine Ev.if_eq (pc := 4) (tgt := 16) dJ0_charAt_5068e_4 (by decide) (fun c9 => ?_) (fun c9 => ?_)
  · have h := eT h c9
    refine Ev.aload_n (pc := 16) dJ0_charAt_5068e_16 rfl ?_
    refine Ev.strVal (pc := 17) dJ0_charAt_5068e_17 (j := 4) (by decide) fx_RJ0_9 ?_
    refine Ev.iload_n (pc := 20) dJ0_charAt_5068e_20 rfl ?_
    cases h
  · have h := eF h c9
    refine Ev.aload_n (pc := 7) dJ0_charAt_5068e_7 rfl ?_
    refine Ev.strVal (pc := 8) dJ0_charAt_5068e_8 (j := 4) (by decide) fx_RJ0_9 ?_
    refine Ev.iload_n (pc := 11) dJ0_charAt_5068e_11 rfl ?_
    refine eBk h (fun q2 hq2 h => ?_)
    refine Ev.callS (pc := 12) (as := [.ref 3004, .int x1]) (st := []) (z := 0) dJ0_charAt_5068e_12 wc_J1_charAt_3b067 ml_RJ0_495 sm_J1_charAt_3b067 (ev_J1_charAt_3b067_v5 x1 M _ hq2) rfl rfl (by decide) rfl rfl (Nat.le_of_ble_eq_true rfl) ?_
    obtain ⟨g9, h⟩ := eGdB h
    have g9 := of_decide_eq_true g9
    obtain rfl := Option.some.inj h
    exact Ev.iret (pc := 15) dJ0_charAt_5068e_15 rfl (eNar_char g9)
def F_X6_fitOf_v5_3  : Nat → eMem → Int32 → Int32 → Int32 → Option Int32
  | 0, _, _, _, _ => none
  | n + 1, M, v2, v3, v4 =>
    if (v2 + v4) < v3 then
      if ((M.1 145 2) + v4) < (M.1 145 1) then
        eG (eIn ((M.1 145 2) + v4) 120) <|
        (F_J0_charAt_5068e_v5 (v2 + v4) M).bind fun q1 =>
        if (M.1 146 ((M.1 145 2) + v4).toNatClampNeg) = q1 then
          F_X6_fitOf_v5_3 n M v2 v3 (v4 + 1)
        else
          some v4
      else
        some v4
    else
      some v4
set_option maxRecDepth 100000 in
set_option maxHeartbeats 4000000 in
theorem ev_X6_fitOf_v5_3  (q : Int32) (M : eMem)  : ∀ (fuel : Nat) (v2 : Int32) (v3 : Int32) (v4 : Int32), F_X6_fitOf_v5_3 fuel M v2 v3 v4 = some q → Ev layC 5 m_X6_fitOf 3 [some (.ref 145), some (.ref 2004), some (.int v2), some (.int v3), some (.int v4)] [] M (some (.int q), M) := by
  intro fuel
  induction fuel with
  | zero => intro v2 v3 v4 h; rw [F_X6_fitOf_v5_3] at h; cases h
  | succ n ih =>
    intro v2 v3 v4 h
    rw [F_X6_fitOf_v5_3] at h
    refine Ev.iload_n (pc := 3) dX6_fitOf_3 rfl ?_
    refine Ev.iload (pc := 4) dX6_fitOf_4 rfl ?_
    refine Ev.iadd (pc := 6) dX6_fitOf_6 ?_
    refine Ev.iload_n (pc := 7) dX6_fitOf_7 rfl ?_
    refine Ev.icmp_ge (pc := 8) (tgt := 54) dX6_fitOf_8 (by decide) (fun c9 => ?_) (fun c9 => ?_)
    · have h := eF h c9
      refine Ev.iload (pc := 54) dX6_fitOf_54 rfl ?_
      obtain rfl := Option.some.inj h
      exact Ev.iret (pc := 56) dX6_fitOf_56 rfl rfl
    · have h := eT h c9
      refine Ev.aload_n (pc := 11) dX6_fitOf_11 rfl ?_
      refine Ev.getI (pc := 12) dX6_fitOf_12 fl_RX6_23 lC_145 rfl ?_
      refine Ev.iload (pc := 15) dX6_fitOf_15 rfl ?_
      refine Ev.iadd (pc := 17) dX6_fitOf_17 ?_
      refine Ev.aload_n (pc := 18) dX6_fitOf_18 rfl ?_
      refine Ev.getI (pc := 19) dX6_fitOf_19 fl_RX6_15 lC_145 rfl ?_
      refine Ev.icmp_ge (pc := 22) (tgt := 54) dX6_fitOf_22 (by decide) (fun c9 => ?_) (fun c9 => ?_)
      · have h := eF h c9
        refine Ev.iload (pc := 54) dX6_fitOf_54 rfl ?_
        obtain rfl := Option.some.inj h
        exact Ev.iret (pc := 56) dX6_fitOf_56 rfl rfl
      · have h := eT h c9
        refine Ev.aload_n (pc := 25) dX6_fitOf_25 rfl ?_
        refine Ev.getR (pc := 26) dX6_fitOf_26 fl_RX6_9 lC_145 rfl ?_
        refine Ev.aload_n (pc := 29) dX6_fitOf_29 rfl ?_
        refine Ev.getI (pc := 30) dX6_fitOf_30 fl_RX6_23 lC_145 rfl ?_
        refine Ev.iload (pc := 33) dX6_fitOf_33 rfl ?_
        refine Ev.iadd (pc := 35) dX6_fitOf_35 ?_
        obtain ⟨g9, h⟩ := eGdB h
        refine Ev.ialdj (pc := 36) dX6_fitOf_36 (j := ((M.1 145 2) + v4).toNatClampNeg) lC_146 g9 rfl ?_
        refine Ev.aload_n (pc := 37) dX6_fitOf_37 rfl ?_
        refine Ev.iload_n (pc := 38) dX6_fitOf_38 rfl ?_
        refine Ev.iload (pc := 39) dX6_fitOf_39 rfl ?_
        refine Ev.iadd (pc := 41) dX6_fitOf_41 ?_
        refine eBk h (fun q1 hq1 h => ?_)
        refine Ev.callVS (pc := 42) (j := 4) (as := [.int (v2 + v4)]) (st := [.int (M.1 146 ((M.1 145 2) + v4).toNatClampNeg)]) (z := 0) dX6_fitOf_42 wc_J0_charAt_5068e ml_RX6_96 im_J0_charAt_5068e se_J0_charAt_5068e (by decide) rfl (ev_J0_charAt_5068e_v5 (v2 + v4) M _ hq1) rfl rfl (by decide) rfl rfl (Nat.le_of_ble_eq_true rfl) ?_
        refine Ev.icmp_ne (pc := 45) (tgt := 54) dX6_fitOf_45 (by decide) (fun c9 => ?_) (fun c9 => ?_)
        · have h := eF h c9
          refine Ev.iload (pc := 54) dX6_fitOf_54 rfl ?_
          obtain rfl := Option.some.inj h
          exact Ev.iret (pc := 56) dX6_fitOf_56 rfl rfl
        · have h := eT h c9
          refine Ev.iincv (pc := 48) dX6_fitOf_48 (v := 1) (by decide) rfl (by decide) rfl rfl ?_
          refine Ev.goto (pc := 51) (tgt := 3) dX6_fitOf_51 (by decide) ?_
          exact Ev.fg (ih _ _ _ h) (And.intro rfl (And.intro rfl (And.intro rfl (And.intro rfl (And.intro rfl trivial)))))
def F_X6_fitOf_v5 (x2 : Int32) (x3 : Int32) (M : eMem) : Option Int32 :=
  F_X6_fitOf_v5_3 eFuel M x2 x3 0
set_option maxRecDepth 100000 in
set_option maxHeartbeats 4000000 in
theorem ev_X6_fitOf_v5 (x2 : Int32) (x3 : Int32) (M : eMem) (q : Int32) (h : F_X6_fitOf_v5 x2 x3 M = some q) : Ev layC 5 m_X6_fitOf 0 [some (.ref 145), some (.ref 2004), some (.int x2), some (.int x3), none] [] M (some (.int q), M) := by
  rw [F_X6_fitOf_v5] at h
  refine Ev.iconst (pc := 0) dX6_fitOf_0 (v := 0) (by decide) ?_
  refine Ev.istore (pc := 1) dX6_fitOf_1 (by decide) rfl rfl ?_
  exact Ev.fg (ev_X6_fitOf_v5_3 _ _ _ _ _ _ h) (And.intro rfl (And.intro rfl (And.intro rfl (And.intro rfl (And.intro rfl trivial)))))
def F_X6_choose_v5_10  : Nat → Int32 → Int32 → Int32 → Int32 → eMem → Option (Int32 × eMem)
  | 0, _, _, _, _, _ => none
  | n + 1, v2, v3, v4, v5, M =>
    (F_J0_length_8abf5_v5 ).bind fun q1 =>
    if v5 < q1 then
      (F_J0_charAt_5068e_v5 v5 M).bind fun q2 =>
      if q2 = 32 then
        (F_X6_fitOf_v5 v4 v5 M).bind fun q3 =>
        if q3 = (v5 - v4) then
          some (v3, (eI M 145 2 ((M.1 145 2) + q3)))
        else
          F_X6_choose_v5_10 n (eMax v2 q3) (v3 + 1) (v5 + 1) (v5 + 1) M
      else
        F_X6_choose_v5_10 n v2 v3 v4 (v5 + 1) M
    else
      some ((-1), (eI M 145 2 ((M.1 145 2) + v2)))
set_option maxRecDepth 100000 in
set_option maxHeartbeats 4000000 in
theorem ev_X6_choose_v5_10  (q : (Int32 × eMem))  : ∀ (fuel : Nat) (v2 : Int32) (v3 : Int32) (v4 : Int32) (v5 : Int32) (M : eMem), F_X6_choose_v5_10 fuel v2 v3 v4 v5 M = some q → Ev layC 6 m_X6_choose 10 [some (.ref 145), some (.ref 2004), some (.int v2), some (.int v3), some (.int v4), some (.int v5), none] [] M (some (.int q.1), q.2) := by
  intro fuel
  induction fuel with
  | zero => intro v2 v3 v4 v5 M h; rw [F_X6_choose_v5_10] at h; cases h
  | succ n ih =>
    intro v2 v3 v4 v5 M h
    rw [F_X6_choose_v5_10] at h
    refine Ev.iload (pc := 10) dX6_choose_10 rfl ?_
    refine Ev.aload_n (pc := 12) dX6_choose_12 rfl ?_
    refine eBk h (fun q1 hq1 h => ?_)
    refine Ev.callVS (pc := 13) (j := 4) (as := []) (st := [.int v5]) (z := 0) dX6_choose_13 wc_J0_length_8abf5 ml_RX6_91 im_J0_length_8abf5 se_J0_length_8abf5 (by decide) rfl (ev_J0_length_8abf5_v5  M _ hq1) rfl rfl (by decide) rfl rfl (Nat.le_of_ble_eq_true rfl) ?_
    refine Ev.icmp_ge (pc := 16) (tgt := 89) dX6_choose_16 (by decide) (fun c9 => ?_) (fun c9 => ?_)
    · have h := eF h c9
      refine Ev.aload_n (pc := 89) dX6_choose_89 rfl ?_
      refine Ev.dup (pc := 90) dX6_choose_90 rfl ?_
      refine Ev.getI (pc := 91) dX6_choose_91 fl_RX6_23 lC_145 rfl ?_
      refine Ev.iload_n (pc := 94) dX6_choose_94 rfl ?_
      refine Ev.iadd (pc := 95) dX6_choose_95 ?_
      refine Ev.putI (pc := 96) dX6_choose_96 fp_RX6_23 lC_145 rfl rfl rfl ?_
      refine Ev.iconst (pc := 99) dX6_choose_99 (v := (-1)) (by decide) ?_
      obtain rfl := Option.some.inj h
      exact Ev.iret (pc := 100) dX6_choose_100 rfl rfl
    · have h := eT h c9
      refine Ev.aload_n (pc := 19) dX6_choose_19 rfl ?_
      refine Ev.iload (pc := 20) dX6_choose_20 rfl ?_
      refine eBk h (fun q2 hq2 h => ?_)
      refine Ev.callVS (pc := 22) (j := 4) (as := [.int v5]) (st := []) (z := 0) dX6_choose_22 wc_J0_charAt_5068e ml_RX6_96 im_J0_charAt_5068e se_J0_charAt_5068e (by decide) rfl (ev_J0_charAt_5068e_v5 v5 M _ hq2) rfl rfl (by decide) rfl rfl (Nat.le_of_ble_eq_true rfl) ?_
      refine Ev.bipush (pc := 25) dX6_choose_25 (v := 32) (by decide) ?_
      refine Ev.icmp_eq (pc := 27) (tgt := 33) dX6_choose_27 (by decide) (fun c9 => ?_) (fun c9 => ?_)
      · have h := eT h c9
        refine Ev.aload_n (pc := 33) dX6_choose_33 rfl ?_
        refine Ev.aload_n (pc := 34) dX6_choose_34 rfl ?_
        refine Ev.iload (pc := 35) dX6_choose_35 rfl ?_
        refine Ev.iload (pc := 37) dX6_choose_37 rfl ?_
        refine eBk h (fun q3 hq3 h => ?_)
        refine Ev.callV (pc := 39) (as := [.ref 2004, .int v4, .int v5]) (st := []) (z := 1) dX6_choose_39 wc_X6_fitOf ml_RX6_100 im_X6_fitOf se_X6_fitOf lC_145 rfl rfl (ev_X6_fitOf_v5 v4 v5 M _ hq3) rfl rfl (by decide) rfl rfl (Nat.le_of_ble_eq_true rfl) ?_
        refine Ev.istore (pc := 42) dX6_choose_42 (by decide) rfl rfl ?_
        refine Ev.iload (pc := 44) dX6_choose_44 rfl ?_
        refine Ev.iload (pc := 46) dX6_choose_46 rfl ?_
        refine Ev.iload (pc := 48) dX6_choose_48 rfl ?_
        refine Ev.isub (pc := 50) dX6_choose_50 ?_
        refine Ev.icmp_ne (pc := 51) (tgt := 67) dX6_choose_51 (by decide) (fun c9 => ?_) (fun c9 => ?_)
        · have h := eF h c9
          refine Ev.iload_n (pc := 67) dX6_choose_67 rfl ?_
          refine Ev.iload (pc := 68) dX6_choose_68 rfl ?_
          refine Ev.mmax (pc := 70) dX6_choose_70 mm_RX6_104 (by decide) (Nat.le_of_ble_eq_true rfl) ?_
          refine Ev.istore_n (pc := 73) dX6_choose_73 (by decide) rfl rfl ?_
          refine Ev.iload (pc := 74) dX6_choose_74 rfl ?_
          refine Ev.iconst (pc := 76) dX6_choose_76 (v := 1) (by decide) ?_
          refine Ev.iadd (pc := 77) dX6_choose_77 ?_
          refine Ev.istore (pc := 78) dX6_choose_78 (by decide) rfl rfl ?_
          refine Ev.iincv (pc := 80) dX6_choose_80 (v := 1) (by decide) rfl (by decide) rfl rfl ?_
          refine Ev.iincv (pc := 83) dX6_choose_83 (v := 1) (by decide) rfl (by decide) rfl rfl ?_
          refine Ev.goto (pc := 86) (tgt := 10) dX6_choose_86 (by decide) ?_
          exact Ev.fg (ih _ _ _ _ _ h) (And.intro rfl (And.intro rfl (And.intro rfl (And.intro rfl (And.intro rfl (And.intro rfl trivial))))))
        · have h := eT h c9
          refine Ev.aload_n (pc := 54) dX6_choose_54 rfl ?_
          refine Ev.dup (pc := 55) dX6_choose_55 rfl ?_
          refine Ev.getI (pc := 56) dX6_choose_56 fl_RX6_23 lC_145 rfl ?_
          refine Ev.iload (pc := 59) dX6_choose_59 rfl ?_
          refine Ev.iadd (pc := 61) dX6_choose_61 ?_
          refine Ev.putI (pc := 62) dX6_choose_62 fp_RX6_23 lC_145 rfl rfl rfl ?_
          refine Ev.iload_n (pc := 65) dX6_choose_65 rfl ?_
          obtain rfl := Option.some.inj h
          exact Ev.iret (pc := 66) dX6_choose_66 rfl rfl
      · have h := eF h c9
        refine Ev.goto (pc := 30) (tgt := 83) dX6_choose_30 (by decide) ?_
        refine Ev.iincv (pc := 83) dX6_choose_83 (v := 1) (by decide) rfl (by decide) rfl rfl ?_
        refine Ev.goto (pc := 86) (tgt := 10) dX6_choose_86 (by decide) ?_
        exact Ev.fg (ih _ _ _ _ _ h) (And.intro rfl (And.intro rfl (And.intro rfl (And.intro rfl (And.intro rfl (And.intro rfl trivial))))))
def F_X6_choose_v5  (M : eMem) : Option (Int32 × eMem) :=
  F_X6_choose_v5_10 eFuel 0 0 0 0 M
set_option maxRecDepth 100000 in
set_option maxHeartbeats 4000000 in
theorem ev_X6_choose_v5  (M : eMem) (q : (Int32 × eMem)) (h : F_X6_choose_v5  M = some q) : Ev layC 6 m_X6_choose 0 [some (.ref 145), some (.ref 2004), none, none, none, none, none] [] M (some (.int q.1), q.2) := by
  rw [F_X6_choose_v5] at h
  refine Ev.iconst (pc := 0) dX6_choose_0 (v := 0) (by decide) ?_
  refine Ev.istore_n (pc := 1) dX6_choose_1 (by decide) rfl rfl ?_
  refine Ev.iconst (pc := 2) dX6_choose_2 (v := 0) (by decide) ?_
  refine Ev.istore_n (pc := 3) dX6_choose_3 (by decide) rfl rfl ?_
  refine Ev.iconst (pc := 4) dX6_choose_4 (v := 0) (by decide) ?_
  refine Ev.istore (pc := 5) dX6_choose_5 (by decide) rfl rfl ?_
  refine Ev.iconst (pc := 7) dX6_choose_7 (v := 0) (by decide) ?_
  refine Ev.istore (pc := 8) dX6_choose_8 (by decide) rfl rfl ?_
  exact Ev.fg (ev_X6_choose_v5_10 _ _ _ _ _ _ _ h) (And.intro rfl (And.intro rfl (And.intro rfl (And.intro rfl (And.intro rfl (And.intro rfl trivial))))))
