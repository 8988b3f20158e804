theorem dX10_text_0 : decode cX10_text 0 = .ok (.iload_n 1, 1) := by decide +kernel
theorem dX10_text_1 : decode cX10_text 1 = .ok (.iconst 0, 1) := by decide +kernel
theorem dX10_text_2 : decode cX10_text 2 = .ok (.bipush 80, 2) := by decide +kernel
theorem dX10_text_4 : decode cX10_text 4 = .ok (.invokestatic 58, 3) := by decide +kernel
theorem dX10_text_7 : decode cX10_text 7 = .ok (.ifCond .eq 13, 3) := by decide +kernel
theorem dX10_text_10 : decode cX10_text 10 = .ok (.iload_n 2, 1) := by decide +kernel
theorem dX10_text_11 : decode cX10_text 11 = .ok (.iload_n 1, 1) := by decide +kernel
theorem dX10_text_12 : decode cX10_text 12 = .ok (.bipush 80, 2) := by decide +kernel
theorem dX10_text_14 : decode cX10_text 14 = .ok (.invokestatic 58, 3) := by decide +kernel
theorem dX10_text_17 : decode cX10_text 17 = .ok (.ifCond .ne 9, 3) := by decide +kernel
theorem dX10_text_20 : decode cX10_text 20 = .ok (.aload_n 0, 1) := by decide +kernel
theorem dX10_text_21 : decode cX10_text 21 = .ok (.iconst 1, 1) := by decide +kernel
theorem dX10_text_22 : decode cX10_text 22 = .ok (.invokevirtual 66, 3) := by decide +kernel
theorem dX10_text_25 : decode cX10_text 25 = .ok (.ireturn, 1) := by decide +kernel
theorem dX10_text_26 : decode cX10_text 26 = .ok (.aload_n 0, 1) := by decide +kernel
theorem dX10_text_27 : decode cX10_text 27 = .ok (.getfield 7, 3) := by decide +kernel
theorem dX10_text_30 : decode cX10_text 30 = .ok (.bipush 11, 2) := by decide +kernel
theorem dX10_text_32 : decode cX10_text 32 = .ok (.iaload, 1) := by decide +kernel
theorem dX10_text_33 : decode cX10_text 33 = .ok (.bipush 8, 2) := by decide +kernel
theorem dX10_text_35 : decode cX10_text 35 = .ok (.if_icmp .ne 9, 3) := by decide +kernel
theorem dX10_text_38 : decode cX10_text 38 = .ok (.aload_n 0, 1) := by decide +kernel
theorem dX10_text_39 : decode cX10_text 39 = .ok (.iconst 2, 1) := by decide +kernel
theorem dX10_text_40 : decode cX10_text 40 = .ok (.invokevirtual 66, 3) := by decide +kernel
theorem dX10_text_43 : decode cX10_text 43 = .ok (.ireturn, 1) := by decide +kernel
theorem dX10_text_44 : decode cX10_text 44 = .ok (.sipush 1764, 3) := by decide +kernel
theorem dX10_text_47 : decode cX10_text 47 = .ok (.sipush 142, 3) := by decide +kernel
theorem dX10_text_50 : decode cX10_text 50 = .ok (.aload_n 0, 1) := by decide +kernel
theorem dX10_text_51 : decode cX10_text 51 = .ok (.getfield 7, 3) := by decide +kernel
theorem dX10_text_54 : decode cX10_text 54 = .ok (.bipush 11, 2) := by decide +kernel
theorem dX10_text_56 : decode cX10_text 56 = .ok (.iaload, 1) := by decide +kernel
theorem dX10_text_57 : decode cX10_text 57 = .ok (.imul, 1) := by decide +kernel
theorem dX10_text_58 : decode cX10_text 58 = .ok (.iadd, 1) := by decide +kernel
theorem dX10_text_59 : decode cX10_text 59 = .ok (.istore_n 3, 1) := by decide +kernel
theorem dX10_text_60 : decode cX10_text 60 = .ok (.aload_n 0, 1) := by decide +kernel
theorem dX10_text_61 : decode cX10_text 61 = .ok (.iconst 0, 1) := by decide +kernel
theorem dX10_text_62 : decode cX10_text 62 = .ok (.putfield 194, 3) := by decide +kernel
theorem dX10_text_65 : decode cX10_text 65 = .ok (.aload_n 0, 1) := by decide +kernel
theorem dX10_text_66 : decode cX10_text 66 = .ok (.iconst 0, 1) := by decide +kernel
theorem dX10_text_67 : decode cX10_text 67 = .ok (.putfield 190, 3) := by decide +kernel
theorem dX10_text_70 : decode cX10_text 70 = .ok (.iconst 0, 1) := by decide +kernel
theorem dX10_text_71 : decode cX10_text 71 = .ok (.istore 4, 2) := by decide +kernel
theorem dX10_text_73 : decode cX10_text 73 = .ok (.iconst 1, 1) := by decide +kernel
theorem dX10_text_74 : decode cX10_text 74 = .ok (.istore 5, 2) := by decide +kernel
theorem dX10_text_76 : decode cX10_text 76 = .ok (.iload 5, 2) := by decide +kernel
theorem dX10_text_78 : decode cX10_text 78 = .ok (.ifCond .eq 52, 3) := by decide +kernel
theorem dX10_text_81 : decode cX10_text 81 = .ok (.aload_n 0, 1) := by decide +kernel
theorem dX10_text_82 : decode cX10_text 82 = .ok (.iload_n 3, 1) := by decide +kernel
theorem dX10_text_83 : decode cX10_text 83 = .ok (.iconst 4, 1) := by decide +kernel
theorem dX10_text_84 : decode cX10_text 84 = .ok (.iadd, 1) := by decide +kernel
theorem dX10_text_85 : decode cX10_text 85 = .ok (.bipush 23, 2) := by decide +kernel
theorem dX10_text_87 : decode cX10_text 87 = .ok (.iload 4, 2) := by decide +kernel
theorem dX10_text_89 : decode cX10_text 89 = .ok (.imul, 1) := by decide +kernel
theorem dX10_text_90 : decode cX10_text 90 = .ok (.iadd, 1) := by decide +kernel
theorem dX10_text_91 : decode cX10_text 91 = .ok (.invokevirtual 222, 3) := by decide +kernel
theorem dX10_text_94 : decode cX10_text 94 = .ok (.iinc 4 1, 3) := by decide +kernel
theorem dX10_text_97 : decode cX10_text 97 = .ok (.aload_n 0, 1) := by decide +kernel
theorem dX10_text_98 : decode cX10_text 98 = .ok (.getfield 190, 3) := by decide +kernel
theorem dX10_text_101 : decode cX10_text 101 = .ok (.ifCond .ne 23, 3) := by decide +kernel
theorem dX10_text_104 : decode cX10_text 104 = .ok (.iload 4, 2) := by decide +kernel
theorem dX10_text_106 : decode cX10_text 106 = .ok (.bipush 6, 2) := by decide +kernel
theorem dX10_text_108 : decode cX10_text 108 = .ok (.if_icmp .ge 16, 3) := by decide +kernel
theorem dX10_text_111 : decode cX10_text 111 = .ok (.aload_n 0, 1) := by decide +kernel
theorem dX10_text_112 : decode cX10_text 112 = .ok (.bipush 59, 2) := by decide +kernel
theorem dX10_text_114 : decode cX10_text 114 = .ok (.invokevirtual 206, 3) := by decide +kernel
theorem dX10_text_117 : decode cX10_text 117 = .ok (.ifCond .eq 7, 3) := by decide +kernel
theorem dX10_text_120 : decode cX10_text 120 = .ok (.iconst 1, 1) := by decide +kernel
theorem dX10_text_121 : decode cX10_text 121 = .ok (.goto 4, 3) := by decide +kernel
theorem dX10_text_124 : decode cX10_text 124 = .ok (.iconst 0, 1) := by decide +kernel
theorem dX10_text_125 : decode cX10_text 125 = .ok (.istore 5, 2) := by decide +kernel
theorem dX10_text_127 : decode cX10_text 127 = .ok (.goto (-51), 3) := by decide +kernel
theorem dX10_text_130 : decode cX10_text 130 = .ok (.aload_n 0, 1) := by decide +kernel
theorem dX10_text_131 : decode cX10_text 131 = .ok (.getfield 190, 3) := by decide +kernel
theorem dX10_text_134 : decode cX10_text 134 = .ok (.ifCond .ne 22, 3) := by decide +kernel
theorem dX10_text_137 : decode cX10_text 137 = .ok (.aload_n 0, 1) := by decide +kernel
theorem dX10_text_138 : decode cX10_text 138 = .ok (.getfield 194, 3) := by decide +kernel
theorem dX10_text_141 : decode cX10_text 141 = .ok (.aload_n 0, 1) := by decide +kernel
theorem dX10_text_142 : decode cX10_text 142 = .ok (.getfield 179, 3) := by decide +kernel
theorem dX10_text_145 : decode cX10_text 145 = .ok (.if_icmp .ge 11, 3) := by decide +kernel
theorem dX10_text_148 : decode cX10_text 148 = .ok (.aload_n 0, 1) := by decide +kernel
theorem dX10_text_149 : decode cX10_text 149 = .ok (.aload_n 0, 1) := by decide +kernel
theorem dX10_text_150 : decode cX10_text 150 = .ok (.getfield 194, 3) := by decide +kernel
theorem dX10_text_153 : decode cX10_text 153 = .ok (.invokevirtual 203, 3) := by decide +kernel
theorem dX10_text_156 : decode cX10_text 156 = .ok (.aload_n 0, 1) := by decide +kernel
theorem dX10_text_157 : decode cX10_text 157 = .ok (.getfield 190, 3) := by decide +kernel
theorem dX10_text_160 : decode cX10_text 160 = .ok (.ifCond .eq 10, 3) := by decide +kernel
theorem dX10_text_163 : decode cX10_text 163 = .ok (.iconst (-1), 1) := by decide +kernel
theorem dX10_text_164 : decode cX10_text 164 = .ok (.aload_n 0, 1) := by decide +kernel
theorem dX10_text_165 : decode cX10_text 165 = .ok (.getfield 194, 3) := by decide +kernel
theorem dX10_text_168 : decode cX10_text 168 = .ok (.isub, 1) := by decide +kernel
theorem dX10_text_169 : decode cX10_text 169 = .ok (.ireturn, 1) := by decide +kernel
theorem dX10_text_170 : decode cX10_text 170 = .ok (.aload_n 0, 1) := by decide +kernel
theorem dX10_text_171 : decode cX10_text 171 = .ok (.getfield 7, 3) := by decide +kernel
theorem dX10_text_174 : decode cX10_text 174 = .ok (.iload_n 3, 1) := by decide +kernel
theorem dX10_text_175 : decode cX10_text 175 = .ok (.iload_n 1, 1) := by decide +kernel
theorem dX10_text_176 : decode cX10_text 176 = .ok (.iastore, 1) := by decide +kernel
theorem dX10_text_177 : decode cX10_text 177 = .ok (.aload_n 0, 1) := by decide +kernel
theorem dX10_text_178 : decode cX10_text 178 = .ok (.getfield 7, 3) := by decide +kernel
theorem dX10_text_181 : decode cX10_text 181 = .ok (.iload_n 3, 1) := by decide +kernel
theorem dX10_text_182 : decode cX10_text 182 = .ok (.iconst 1, 1) := by decide +kernel
theorem dX10_text_183 : decode cX10_text 183 = .ok (.iadd, 1) := by decide +kernel
theorem dX10_text_184 : decode cX10_text 184 = .ok (.iload_n 2, 1) := by decide +kernel
theorem dX10_text_185 : decode cX10_text 185 = .ok (.iastore, 1) := by decide +kernel
theorem dX10_text_186 : decode cX10_text 186 = .ok (.aload_n 0, 1) := by decide +kernel
theorem dX10_text_187 : decode cX10_text 187 = .ok (.getfield 7, 3) := by decide +kernel
theorem dX10_text_190 : decode cX10_text 190 = .ok (.iload_n 3, 1) := by decide +kernel
theorem dX10_text_191 : decode cX10_text 191 = .ok (.iconst 2, 1) := by decide +kernel
theorem dX10_text_192 : decode cX10_text 192 = .ok (.iadd, 1) := by decide +kernel
theorem dX10_text_193 : decode cX10_text 193 = .ok (.iconst 0, 1) := by decide +kernel
theorem dX10_text_194 : decode cX10_text 194 = .ok (.iastore, 1) := by decide +kernel
theorem dX10_text_195 : decode cX10_text 195 = .ok (.aload_n 0, 1) := by decide +kernel
theorem dX10_text_196 : decode cX10_text 196 = .ok (.getfield 7, 3) := by decide +kernel
theorem dX10_text_199 : decode cX10_text 199 = .ok (.iload_n 3, 1) := by decide +kernel
theorem dX10_text_200 : decode cX10_text 200 = .ok (.iconst 3, 1) := by decide +kernel
theorem dX10_text_201 : decode cX10_text 201 = .ok (.iadd, 1) := by decide +kernel
theorem dX10_text_202 : decode cX10_text 202 = .ok (.iload 4, 2) := by decide +kernel
theorem dX10_text_204 : decode cX10_text 204 = .ok (.iastore, 1) := by decide +kernel
theorem dX10_text_205 : decode cX10_text 205 = .ok (.aload_n 0, 1) := by decide +kernel
theorem dX10_text_206 : decode cX10_text 206 = .ok (.iconst 0, 1) := by decide +kernel
theorem dX10_text_207 : decode cX10_text 207 = .ok (.putfield 179, 3) := by decide +kernel
theorem dX10_text_210 : decode cX10_text 210 = .ok (.aload_n 0, 1) := by decide +kernel
theorem dX10_text_211 : decode cX10_text 211 = .ok (.getfield 7, 3) := by decide +kernel
theorem dX10_text_214 : decode cX10_text 214 = .ok (.bipush 11, 2) := by decide +kernel
theorem dX10_text_216 : decode cX10_text 216 = .ok (.dup2, 1) := by decide +kernel
theorem dX10_text_217 : decode cX10_text 217 = .ok (.iaload, 1) := by decide +kernel
theorem dX10_text_218 : decode cX10_text 218 = .ok (.iconst 1, 1) := by decide +kernel
theorem dX10_text_219 : decode cX10_text 219 = .ok (.iadd, 1) := by decide +kernel
theorem dX10_text_220 : decode cX10_text 220 = .ok (.iastore, 1) := by decide +kernel
theorem dX10_text_221 : decode cX10_text 221 = .ok (.aload_n 0, 1) := by decide +kernel
theorem dX10_text_222 : decode cX10_text 222 = .ok (.getfield 7, 3) := by decide +kernel
theorem dX10_text_225 : decode cX10_text 225 = .ok (.bipush 11, 2) := by decide +kernel
theorem dX10_text_227 : decode cX10_text 227 = .ok (.iaload, 1) := by decide +kernel
theorem dX10_text_228 : decode cX10_text 228 = .ok (.iconst 1, 1) := by decide +kernel
theorem dX10_text_229 : decode cX10_text 229 = .ok (.isub, 1) := by decide +kernel
theorem dX10_text_230 : decode cX10_text 230 = .ok (.ireturn, 1) := by decide +kernel
def F_X10_text_76 (K130 : Int32 → Int32 → Int32 → Int32 → eMem → Option (Int32 × eMem)) : Nat → Int32 → Int32 → Int32 → Int32 → Int32 → eMem → Option (Int32 × eMem)
  | 0, _, _, _, _, _, _ => none
  | n + 1, v1, v2, v3, v4, v5, M =>
    if v5 = 0 then
      K130 v1 v2 v3 v4 M
    else
      (F_X10_clause ((v3 + 4) + (23 * v4)) M).bind fun q4 =>
      if (q4.1 0 18) = 0 then
        if (v4 + 1) < 6 then
          (F_X10_takes 59 q4).bind fun q5 =>
          if q5.1 = 0 then
            F_X10_text_76 K130 n v1 v2 v3 (v4 + 1) 0 q5.2
          else
            F_X10_text_76 K130 n v1 v2 v3 (v4 + 1) 1 q5.2
        else
          F_X10_text_76 K130 n v1 v2 v3 (v4 + 1) 0 q4
      else
        F_X10_text_76 K130 n v1 v2 v3 (v4 + 1) 0 q4
set_option maxRecDepth 100000 in
set_option maxHeartbeats 4000000 in
theorem ev_X10_text_76 (K130 : Int32 → Int32 → Int32 → Int32 → eMem → Option (Int32 × eMem)) (q : (Int32 × eMem)) (hK130 : ∀ (v1 : Int32) (v2 : Int32) (v3 : Int32) (v4 : Int32) (M : eMem), K130 v1 v2 v3 v4 M = some q → Ev layR 9 m_X10_text 130 [some (.ref 0), some (.int v1), some (.int v2), some (.int v3), some (.int v4), none] [] M (some (.int q.1), q.2)) : ∀ (fuel : Nat) (v1 : Int32) (v2 : Int32) (v3 : Int32) (v4 : Int32) (v5 : Int32) (M : eMem), F_X10_text_76 K130 fuel v1 v2 v3 v4 v5 M = some q → Ev layR 9 m_X10_text 76 [some (.ref 0), some (.int v1), some (.int v2), some (.int v3), some (.int v4), some (.int v5)] [] M (some (.int q.1), q.2) := by
  intro fuel
  induction fuel with
  | zero => intro v1 v2 v3 v4 v5 M h; rw [F_X10_text_76] at h; cases h
  | succ n ih =>
    intro v1 v2 v3 v4 v5 M h
    rw [F_X10_text_76] at h
    refine Ev.iload (pc := 76) dX10_text_76 rfl ?_
    refine Ev.if_eq (pc := 78) (tgt := 130) dX10_text_78 (by decide) (fun c9 => ?_) (fun c9 => ?_)
    · have h := eT h c9
      exact Ev.fg (hK130 _ _ _ _ _ h) (And.intro rfl (And.intro rfl (And.intro rfl (And.intro rfl (And.intro rfl trivial)))))
    · have h := eF h c9
      refine Ev.aload_n (pc := 81) dX10_text_81 rfl ?_
      refine Ev.iload_n (pc := 82) dX10_text_82 rfl ?_
      refine Ev.iconst (pc := 83) dX10_text_83 (v := 4) (by decide) ?_
      refine Ev.iadd (pc := 84) dX10_text_84 ?_
      refine Ev.bipush (pc := 85) dX10_text_85 (v := 23) (by decide) ?_
      refine Ev.iload (pc := 87) dX10_text_87 rfl ?_
      refine Ev.imul (pc := 89) dX10_text_89 ?_
      refine Ev.iadd (pc := 90) dX10_text_90 ?_
      refine eBk h (fun q4 hq4 h => ?_)
      refine Ev.callV (pc := 91) (as := [.int ((v3 + 4) + (23 * v4))]) (st := []) (z := 3) dX10_text_91 wc_X10_clause ml_RX10_222 im_X10_clause se_X10_clause lR_0 rfl rfl (ev_X10_clause ((v3 + 4) + (23 * v4)) M _ hq4) rfl rfl (by decide) rfl rfl (Nat.le_of_ble_eq_true rfl) ?_
      refine Ev.iincv (pc := 94) dX10_text_94 (v := 1) (by decide) rfl (by decide) rfl rfl ?_
      refine Ev.aload_n (pc := 97) dX10_text_97 rfl ?_
      refine Ev.getI (pc := 98) dX10_text_98 fl_RX10_190 lR_0 rfl ?_
      refine Ev.if_ne (pc := 101) (tgt := 124) dX10_text_101 (by decide) (fun c9 => ?_) (fun c9 => ?_)
      · have h := eF h c9
        refine Ev.iconst (pc := 124) dX10_text_124 (v := 0) (by decide) ?_
        refine Ev.istore (pc := 125) dX10_text_125 (by decide) rfl rfl ?_
        refine Ev.goto (pc := 127) (tgt := 76) dX10_text_127 (by decide) ?_
        exact Ev.fg (ih _ _ _ _ _ _ h) (And.intro rfl (And.intro rfl (And.intro rfl (And.intro rfl (And.intro rfl (And.intro rfl trivial))))))
      · have h := eT h c9
        refine Ev.iload (pc := 104) dX10_text_104 rfl ?_
        refine Ev.bipush (pc := 106) dX10_text_106 (v := 6) (by decide) ?_
        refine Ev.icmp_ge (pc := 108) (tgt := 124) dX10_text_108 (by decide) (fun c9 => ?_) (fun c9 => ?_)
        · have h := eF h c9
          refine Ev.iconst (pc := 124) dX10_text_124 (v := 0) (by decide) ?_
          refine Ev.istore (pc := 125) dX10_text_125 (by decide) rfl rfl ?_
          refine Ev.goto (pc := 127) (tgt := 76) dX10_text_127 (by decide) ?_
          exact Ev.fg (ih _ _ _ _ _ _ h) (And.intro rfl (And.intro rfl (And.intro rfl (And.intro rfl (And.intro rfl (And.intro rfl trivial))))))
        · have h := eT h c9
          refine Ev.aload_n (pc := 111) dX10_text_111 rfl ?_
          refine Ev.bipush (pc := 112) dX10_text_112 (v := 59) (by decide) ?_
          refine eBk h (fun q5 hq5 h => ?_)
          refine Ev.callV (pc := 114) (as := [.int 59]) (st := []) (z := 0) dX10_text_114 wc_X10_takes ml_RX10_206 im_X10_takes se_X10_takes lR_0 rfl rfl (ev_X10_takes 59 q4 _ hq5) rfl rfl (by decide) rfl rfl (Nat.le_of_ble_eq_true rfl) ?_
          refine Ev.if_eq (pc := 117) (tgt := 124) dX10_text_117 (by decide) (fun c9 => ?_) (fun c9 => ?_)
          · have h := eT h c9
            refine Ev.iconst (pc := 124) dX10_text_124 (v := 0) (by decide) ?_
            refine Ev.istore (pc := 125) dX10_text_125 (by decide) rfl rfl ?_
            refine Ev.goto (pc := 127) (tgt := 76) dX10_text_127 (by decide) ?_
            exact Ev.fg (ih _ _ _ _ _ _ h) (And.intro rfl (And.intro rfl (And.intro rfl (And.intro rfl (And.intro rfl (And.intro rfl trivial))))))
          · have h := eF h c9
            refine Ev.iconst (pc := 120) dX10_text_120 (v := 1) (by decide) ?_
            refine Ev.goto (pc := 121) (tgt := 125) dX10_text_121 (by decide) ?_
            refine Ev.istore (pc := 125) dX10_text_125 (by decide) rfl rfl ?_
            refine Ev.goto (pc := 127) (tgt := 76) dX10_text_127 (by decide) ?_
            exact Ev.fg (ih _ _ _ _ _ _ h) (And.intro rfl (And.intro rfl (And.intro rfl (And.intro rfl (And.intro rfl (And.intro rfl trivial))))))
def F_X10_text_156  (v1 : Int32) (v2 : Int32) (v3 : Int32) (v4 : Int32) (M : eMem) : Option (Int32 × eMem) :=
  if (M.1 0 18) = 0 then
    eG (eIn v3 2900) <|
    eG (eIn (v3 + 1) 2900) <|
    eG (eIn (v3 + 2) 2900) <|
    eG (eIn (v3 + 3) 2900) <|
    some (((((eI (eI (eI (eI M 1 v3.toNatClampNeg v1) 1 (v3 + 1).toNatClampNeg v2) 1 (v3 + 2).toNatClampNeg 0) 1 (v3 + 3).toNatClampNeg v4).1 1 11) + 1) - 1), (eI (eI (eI (eI (eI (eI M 1 v3.toNatClampNeg v1) 1 (v3 + 1).toNatClampNeg v2) 1 (v3 + 2).toNatClampNeg 0) 1 (v3 + 3).toNatClampNeg v4) 0 3 0) 1 11 (((eI (eI (eI (eI M 1 v3.toNatClampNeg v1) 1 (v3 + 1).toNatClampNeg v2) 1 (v3 + 2).toNatClampNeg 0) 1 (v3 + 3).toNatClampNeg v4).1 1 11) + 1)))
  else
    some (((-1) - (M.1 0 17)), M)
set_option maxRecDepth 100000 in
set_option maxHeartbeats 4000000 in
theorem ev_X10_text_156  (q : (Int32 × eMem))  (v1 : Int32) (v2 : Int32) (v3 : Int32) (v4 : Int32) (M : eMem) (h : F_X10_text_156 v1 v2 v3 v4 M = some q) : Ev layR 9 m_X10_text 156 [some (.ref 0), some (.int v1), some (.int v2), some (.int v3), some (.int v4), none] [] M (some (.int q.1), q.2) := by
  rw [F_X10_text_156] at h
  refine Ev.aload_n (pc := 156) dX10_text_156 rfl ?_
  refine Ev.getI (pc := 157) dX10_text_157 fl_RX10_190 lR_0 rfl ?_
  refine Ev.if_eq (pc := 160) (tgt := 170) dX10_text_160 (by decide) (fun c9 => ?_) (fun c9 => ?_)
  · have h := eT h c9
    refine Ev.aload_n (pc := 170) dX10_text_170 rfl ?_
    refine Ev.getR (pc := 171) dX10_text_171 fl_RX10_7 lR_0 rfl ?_
    refine Ev.iload_n (pc := 174) dX10_text_174 rfl ?_
    refine Ev.iload_n (pc := 175) dX10_text_175 rfl ?_
    obtain ⟨g9, h⟩ := eGdB h
    refine Ev.iastj (pc := 176) dX10_text_176 (j := v3.toNatClampNeg) lR_1 g9 rfl ?_
    refine Ev.aload_n (pc := 177) dX10_text_177 rfl ?_
    refine Ev.getR (pc := 178) dX10_text_178 fl_RX10_7 lR_0 rfl ?_
    refine Ev.iload_n (pc := 181) dX10_text_181 rfl ?_
    refine Ev.iconst (pc := 182) dX10_text_182 (v := 1) (by decide) ?_
    refine Ev.iadd (pc := 183) dX10_text_183 ?_
    refine Ev.iload_n (pc := 184) dX10_text_184 rfl ?_
    obtain ⟨g9, h⟩ := eGdB h
    refine Ev.iastj (pc := 185) dX10_text_185 (j := (v3 + 1).toNatClampNeg) lR_1 g9 rfl ?_
    refine Ev.aload_n (pc := 186) dX10_text_186 rfl ?_
    refine Ev.getR (pc := 187) dX10_text_187 fl_RX10_7 lR_0 rfl ?_
    refine Ev.iload_n (pc := 190) dX10_text_190 rfl ?_
    refine Ev.iconst (pc := 191) dX10_text_191 (v := 2) (by decide) ?_
    refine Ev.iadd (pc := 192) dX10_text_192 ?_
    refine Ev.iconst (pc := 193) dX10_text_193 (v := 0) (by decide) ?_
    obtain ⟨g9, h⟩ := eGdB h
    refine Ev.iastj (pc := 194) dX10_text_194 (j := (v3 + 2).toNatClampNeg) lR_1 g9 rfl ?_
    refine Ev.aload_n (pc := 195) dX10_text_195 rfl ?_
    refine Ev.getR (pc := 196) dX10_text_196 fl_RX10_7 lR_0 rfl ?_
    refine Ev.iload_n (pc := 199) dX10_text_199 rfl ?_
    refine Ev.iconst (pc := 200) dX10_text_200 (v := 3) (by decide) ?_
    refine Ev.iadd (pc := 201) dX10_text_201 ?_
    refine Ev.iload (pc := 202) dX10_text_202 rfl ?_
    obtain ⟨g9, h⟩ := eGdB h
    refine Ev.iastj (pc := 204) dX10_text_204 (j := (v3 + 3).toNatClampNeg) lR_1 g9 rfl ?_
    refine Ev.aload_n (pc := 205) dX10_text_205 rfl ?_
    refine Ev.iconst (pc := 206) dX10_text_206 (v := 0) (by decide) ?_
    refine Ev.putI (pc := 207) dX10_text_207 fp_RX10_179 lR_0 rfl rfl rfl ?_
    refine Ev.aload_n (pc := 210) dX10_text_210 rfl ?_
    refine Ev.getR (pc := 211) dX10_text_211 fl_RX10_7 lR_0 rfl ?_
    refine Ev.bipush (pc := 214) dX10_text_214 (v := 11) (by decide) ?_
    refine Ev.dup2 (pc := 216) dX10_text_216 rfl rfl ?_
    refine Ev.ialdv (pc := 217) dX10_text_217 (v := ((eI (eI (eI (eI M 1 v3.toNatClampNeg v1) 1 (v3 + 1).toNatClampNeg v2) 1 (v3 + 2).toNatClampNeg 0) 1 (v3 + 3).toNatClampNeg v4).1 1 11)) (j := 11) lR_1 (by decide) (by decide) (eI_n (by decide)) ?_
    refine Ev.iconst (pc := 218) dX10_text_218 (v := 1) (by decide) ?_
    refine Ev.iadd (pc := 219) dX10_text_219 ?_
    refine Ev.iastj (pc := 220) dX10_text_220 (j := 11) lR_1 (by decide) (by decide) ?_
    refine Ev.aload_n (pc := 221) dX10_text_221 rfl ?_
    refine Ev.getR (pc := 222) dX10_text_222 fl_RX10_7 lR_0 rfl ?_
    refine Ev.bipush (pc := 225) dX10_text_225 (v := 11) (by decide) ?_
    refine Ev.ialdv (pc := 227) dX10_text_227 (v := (((eI (eI (eI (eI M 1 v3.toNatClampNeg v1) 1 (v3 + 1).toNatClampNeg v2) 1 (v3 + 2).toNatClampNeg 0) 1 (v3 + 3).toNatClampNeg v4).1 1 11) + 1)) (j := 11) lR_1 (by decide) (by decide) eI_e ?_
    refine Ev.iconst (pc := 228) dX10_text_228 (v := 1) (by decide) ?_
    refine Ev.isub (pc := 229) dX10_text_229 ?_
    obtain rfl := Option.some.inj h
    exact Ev.iret (pc := 230) dX10_text_230 rfl rfl
  · have h := eF h c9
    refine Ev.iconst (pc := 163) dX10_text_163 (v := (-1)) (by decide) ?_
    refine Ev.aload_n (pc := 164) dX10_text_164 rfl ?_
    refine Ev.getI (pc := 165) dX10_text_165 fl_RX10_194 lR_0 rfl ?_
    refine Ev.isub (pc := 168) dX10_text_168 ?_
    obtain rfl := Option.some.inj h
    exact Ev.iret (pc := 169) dX10_text_169 rfl rfl
def F_X10_text (x1 : Int32) (x2 : Int32) (M : eMem) : Option (Int32 × eMem) :=
  (F_X10_in x1 0 80).bind fun q1 =>
  if q1 = 0 then
    (F_X10_finding 1 M).bind fun q2 =>
    some (q2.1, q2.2)
  else
    (F_X10_in x2 x1 80).bind fun q3 =>
    if q3 = 0 then
      (F_X10_finding 1 M).bind fun q8 =>
      some (q8.1, q8.2)
    else
      if (M.1 1 11) = 8 then
        (F_X10_finding 2 M).bind fun q7 =>
        some (q7.1, q7.2)
      else
        F_X10_text_76
          (fun v1 v2 v3 v4 M =>
            if (M.1 0 18) = 0 then
              if (M.1 0 17) < (M.1 0 3) then
                (F_X10_wrong (M.1 0 17) M).bind fun q6 =>
                F_X10_text_156 v1 v2 v3 v4 q6
              else
                F_X10_text_156 v1 v2 v3 v4 M
            else
              F_X10_text_156 v1 v2 v3 v4 M)
          eFuel x1 x2 (1764 + (142 * (M.1 1 11))) 0 1 (eI (eI M 0 17 0) 0 18 0)
set_option maxRecDepth 100000 in
set_option maxHeartbeats 4000000 in
theorem ev_X10_text (x1 : Int32) (x2 : Int32) (M : eMem) (q : (Int32 × eMem)) (h : F_X10_text x1 x2 M = some q) : Ev layR 9 m_X10_text 0 [some (.ref 0), some (.int x1), some (.int x2), none, none, none] [] M (some (.int q.1), q.2) := by
  rw [F_X10_text] at h
  refine Ev.iload_n (pc := 0) dX10_text_0 rfl ?_
  refine Ev.iconst (pc := 1) dX10_text_1 (v := 0) (by decide) ?_
  refine Ev.bipush (pc := 2) dX10_text_2 (v := 80) (by decide) ?_
  refine eBk h (fun q1 hq1 h => ?_)
  refine Ev.callS (pc := 4) (as := [.int x1, .int 0, .int 80]) (st := []) (z := 0) dX10_text_4 wc_X10_in ml_RX10_58 sm_X10_in (ev_X10_in x1 0 80 M _ hq1) rfl rfl (by decide) rfl rfl (Nat.le_of_ble_eq_true rfl) ?_
  refine Ev.if_eq (pc := 7) (tgt := 20) dX10_text_7 (by decide) (fun c9 => ?_) (fun c9 => ?_)
  · have h := eT h c9
    refine Ev.aload_n (pc := 20) dX10_text_20 rfl ?_
    refine Ev.iconst (pc := 21) dX10_text_21 (v := 1) (by decide) ?_
    refine eBk h (fun q2 hq2 h => ?_)
    refine Ev.callV (pc := 22) (as := [.int 1]) (st := []) (z := 0) dX10_text_22 wc_X10_finding ml_RX10_66 im_X10_finding se_X10_finding lR_0 rfl rfl (ev_X10_finding 1 M _ hq2) rfl rfl (by decide) rfl rfl (Nat.le_of_ble_eq_true rfl) ?_
    obtain rfl := Option.some.inj h
    exact Ev.iret (pc := 25) dX10_text_25 rfl rfl
  · have h := eF h c9
    refine Ev.iload_n (pc := 10) dX10_text_10 rfl ?_
    refine Ev.iload_n (pc := 11) dX10_text_11 rfl ?_
    refine Ev.bipush (pc := 12) dX10_text_12 (v := 80) (by decide) ?_
    refine eBk h (fun q3 hq3 h => ?_)
    refine Ev.callS (pc := 14) (as := [.int x2, .int x1, .int 80]) (st := []) (z := 0) dX10_text_14 wc_X10_in ml_RX10_58 sm_X10_in (ev_X10_in x2 x1 80 M _ hq3) rfl rfl (by decide) rfl rfl (Nat.le_of_ble_eq_true rfl) ?_
    refine Ev.if_ne (pc := 17) (tgt := 26) dX10_text_17 (by decide) (fun c9 => ?_) (fun c9 => ?_)
    · have h := eF h c9
      refine Ev.aload_n (pc := 26) dX10_text_26 rfl ?_
      refine Ev.getR (pc := 27) dX10_text_27 fl_RX10_7 lR_0 rfl ?_
      refine Ev.bipush (pc := 30) dX10_text_30 (v := 11) (by decide) ?_
      refine Ev.ialdj (pc := 32) dX10_text_32 (j := 11) lR_1 (by decide) (by decide) ?_
      refine Ev.bipush (pc := 33) dX10_text_33 (v := 8) (by decide) ?_
      refine Ev.icmp_ne (pc := 35) (tgt := 44) dX10_text_35 (by decide) (fun c9 => ?_) (fun c9 => ?_)
      · have h := eF h c9
        refine Ev.sipush (pc := 44) dX10_text_44 (v := 1764) (by decide) ?_
        refine Ev.sipush (pc := 47) dX10_text_47 (v := 142) (by decide) ?_
        refine Ev.aload_n (pc := 50) dX10_text_50 rfl ?_
        refine Ev.getR (pc := 51) dX10_text_51 fl_RX10_7 lR_0 rfl ?_
        refine Ev.bipush (pc := 54) dX10_text_54 (v := 11) (by decide) ?_
        refine Ev.ialdj (pc := 56) dX10_text_56 (j := 11) lR_1 (by decide) (by decide) ?_
        refine Ev.imul (pc := 57) dX10_text_57 ?_
        refine Ev.iadd (pc := 58) dX10_text_58 ?_
        refine Ev.istore_n (pc := 59) dX10_text_59 (by decide) rfl rfl ?_
        refine Ev.aload_n (pc := 60) dX10_text_60 rfl ?_
        refine Ev.iconst (pc := 61) dX10_text_61 (v := 0) (by decide) ?_
        refine Ev.putI (pc := 62) dX10_text_62 fp_RX10_194 lR_0 rfl rfl rfl ?_
        refine Ev.aload_n (pc := 65) dX10_text_65 rfl ?_
        refine Ev.iconst (pc := 66) dX10_text_66 (v := 0) (by decide) ?_
        refine Ev.putI (pc := 67) dX10_text_67 fp_RX10_190 lR_0 rfl rfl rfl ?_
        refine Ev.iconst (pc := 70) dX10_text_70 (v := 0) (by decide) ?_
        refine Ev.istore (pc := 71) dX10_text_71 (by decide) rfl rfl ?_
        refine Ev.iconst (pc := 73) dX10_text_73 (v := 1) (by decide) ?_
        refine Ev.istore (pc := 74) dX10_text_74 (by decide) rfl rfl ?_
        refine Ev.fg (ev_X10_text_76 _ _ ?_ _ _ _ _ _ _ _ h) (And.intro rfl (And.intro rfl (And.intro rfl (And.intro rfl (And.intro rfl (And.intro rfl trivial))))))
        · intro v1 v2 v3 v4 M h
          refine Ev.aload_n (pc := 130) dX10_text_130 rfl ?_
          refine Ev.getI (pc := 131) dX10_text_131 fl_RX10_190 lR_0 rfl ?_
          refine Ev.if_ne (pc := 134) (tgt := 156) dX10_text_134 (by decide) (fun c9 => ?_) (fun c9 => ?_)
          · have h := eF h c9
            exact Ev.fg (ev_X10_text_156 _ _ _ _ _ _ h) (And.intro rfl (And.intro rfl (And.intro rfl (And.intro rfl (And.intro rfl trivial)))))
          · have h := eT h c9
            refine Ev.aload_n (pc := 137) dX10_text_137 rfl ?_
            refine Ev.getI (pc := 138) dX10_text_138 fl_RX10_194 lR_0 rfl ?_
            refine Ev.aload_n (pc := 141) dX10_text_141 rfl ?_
            refine Ev.getI (pc := 142) dX10_text_142 fl_RX10_179 lR_0 rfl ?_
            refine Ev.icmp_ge (pc := 145) (tgt := 156) dX10_text_145 (by decide) (fun c9 => ?_) (fun c9 => ?_)
            · have h := eF h c9
              exact Ev.fg (ev_X10_text_156 _ _ _ _ _ _ h) (And.intro rfl (And.intro rfl (And.intro rfl (And.intro rfl (And.intro rfl trivial)))))
            · have h := eT h c9
              refine Ev.aload_n (pc := 148) dX10_text_148 rfl ?_
              refine Ev.aload_n (pc := 149) dX10_text_149 rfl ?_
              refine Ev.getI (pc := 150) dX10_text_150 fl_RX10_194 lR_0 rfl ?_
              refine eBk h (fun q6 hq6 h => ?_)
              refine Ev.callV (pc := 153) (as := [.int (M.1 0 17)]) (st := []) (z := 0) dX10_text_153 wc_X10_wrong ml_RX10_203 im_X10_wrong se_X10_wrong lR_0 rfl rfl (ev_X10_wrong (M.1 0 17) M _ hq6) rfl rfl (by decide) rfl rfl (Nat.le_of_ble_eq_true rfl) ?_
              exact Ev.fg (ev_X10_text_156 _ _ _ _ _ _ h) (And.intro rfl (And.intro rfl (And.intro rfl (And.intro rfl (And.intro rfl trivial)))))
      · have h := eT h c9
        refine Ev.aload_n (pc := 38) dX10_text_38 rfl ?_
        refine Ev.iconst (pc := 39) dX10_text_39 (v := 2) (by decide) ?_
        refine eBk h (fun q7 hq7 h => ?_)
        refine Ev.callV (pc := 40) (as := [.int 2]) (st := []) (z := 0) dX10_text_40 wc_X10_finding ml_RX10_66 im_X10_finding se_X10_finding lR_0 rfl rfl (ev_X10_finding 2 M _ hq7) rfl rfl (by decide) rfl rfl (Nat.le_of_ble_eq_true rfl) ?_
        obtain rfl := Option.some.inj h
        exact Ev.iret (pc := 43) dX10_text_43 rfl rfl
    · have h := eT h c9
      refine Ev.aload_n (pc := 20) dX10_text_20 rfl ?_
      refine Ev.iconst (pc := 21) dX10_text_21 (v := 1) (by decide) ?_
      refine eBk h (fun q8 hq8 h => ?_)
      refine Ev.callV (pc := 22) (as := [.int 1]) (st := []) (z := 0) dX10_text_22 wc_X10_finding ml_RX10_66 im_X10_finding se_X10_finding lR_0 rfl rfl (ev_X10_finding 1 M _ hq8) rfl rfl (by decide) rfl rfl (Nat.le_of_ble_eq_true rfl) ?_
      obtain rfl := Option.some.inj h
      exact Ev.iret (pc := 25) dX10_text_25 rfl rfl
theorem dX9_wipe_0 : decode cX9_wipe 0 = .ok (.aload_n 0, 1) := by decide +kernel
theorem dX9_wipe_1 : decode cX9_wipe 1 = .ok (.getfield 22, 3) := by decide +kernel
theorem dX9_wipe_4 : decode cX9_wipe 4 = .ok (.getfield 299, 3) := by decide +kernel
theorem dX9_wipe_7 : decode cX9_wipe 7 = .ok (.istore_n 1, 1) := by decide +kernel
theorem dX9_wipe_8 : decode cX9_wipe 8 = .ok (.aload_n 0, 1) := by decide +kernel
theorem dX9_wipe_9 : decode cX9_wipe 9 = .ok (.getfield 22, 3) := by decide +kernel
theorem dX9_wipe_12 : decode cX9_wipe 12 = .ok (.iconst 0, 1) := by decide +kernel
theorem dX9_wipe_13 : decode cX9_wipe 13 = .ok (.putfield 299, 3) := by decide +kernel
theorem dX9_wipe_16 : decode cX9_wipe 16 = .ok (.iload_n 1, 1) := by decide +kernel
theorem dX9_wipe_17 : decode cX9_wipe 17 = .ok (.ireturn, 1) := by decide +kernel
def F_X9_wipe  (M : eMem) : Option (Int32 × eMem) :=
  some ((M.1 145 1), (eI M 145 1 0))
set_option maxRecDepth 100000 in
set_option maxHeartbeats 4000000 in
theorem ev_X9_wipe  (M : eMem) (q : (Int32 × eMem)) (h : F_X9_wipe  M = some q) : Ev layC 0 m_X9_wipe 0 [some (.ref 0), none] [] M (some (.int q.1), q.2) := by
  rw [F_X9_wipe] at h
  refine Ev.aload_n (pc := 0) dX9_wipe_0 rfl ?_
  refine Ev.getR (pc := 1) dX9_wipe_1 fl_RX9_22 lC_0 rfl ?_
  refine Ev.getI (pc := 4) dX9_wipe_4 fl_RX9_299 lC_145 rfl ?_
  refine Ev.istore_n (pc := 7) dX9_wipe_7 (by decide) rfl rfl ?_
  refine Ev.aload_n (pc := 8) dX9_wipe_8 rfl ?_
  refine Ev.getR (pc := 9) dX9_wipe_9 fl_RX9_22 lC_0 rfl ?_
  refine Ev.iconst (pc := 12) dX9_wipe_12 (v := 0) (by decide) ?_
  refine Ev.putI (pc := 13) dX9_wipe_13 fp_RX9_299 lC_145 rfl rfl rfl ?_
  refine Ev.iload_n (pc := 16) dX9_wipe_16 rfl ?_
  obtain rfl := Option.some.inj h
  exact Ev.iret (pc := 17) dX9_wipe_17 rfl rfl
theorem dX10_wipe_0 : decode cX10_wipe 0 = .ok (.aload_n 0, 1) := by decide +kernel
theorem dX10_wipe_1 : decode cX10_wipe 1 = .ok (.getfield 179, 3) := by decide +kernel
theorem dX10_wipe_4 : decode cX10_wipe 4 = .ok (.istore_n 1, 1) := by decide +kernel
theorem dX10_wipe_5 : decode cX10_wipe 5 = .ok (.aload_n 0, 1) := by decide +kernel
theorem dX10_wipe_6 : decode cX10_wipe 6 = .ok (.iconst 0, 1) := by decide +kernel
theorem dX10_wipe_7 : decode cX10_wipe 7 = .ok (.putfield 179, 3) := by decide +kernel
theorem dX10_wipe_10 : decode cX10_wipe 10 = .ok (.iload_n 1, 1) := by decide +kernel
theorem dX10_wipe_11 : decode cX10_wipe 11 = .ok (.ireturn, 1) := by decide +kernel
def F_X10_wipe  (M : eMem) : Option (Int32 × eMem) :=
  some ((M.1 0 3), (eI M 0 3 0))
set_option maxRecDepth 100000 in
set_option maxHeartbeats 4000000 in
theorem ev_X10_wipe  (M : eMem) (q : (Int32 × eMem)) (h : F_X10_wipe  M = some q) : Ev layR 0 m_X10_wipe 0 [some (.ref 0), none] [] M (some (.int q.1), q.2) := by
  rw [F_X10_wipe] at h
  refine Ev.aload_n (pc := 0) dX10_wipe_0 rfl ?_
  refine Ev.getI (pc := 1) dX10_wipe_1 fl_RX10_179 lR_0 rfl ?_
  refine Ev.istore_n (pc := 4) dX10_wipe_4 (by decide) rfl rfl ?_
  refine Ev.aload_n (pc := 5) dX10_wipe_5 rfl ?_
  refine Ev.iconst (pc := 6) dX10_wipe_6 (v := 0) (by decide) ?_
  refine Ev.putI (pc := 7) dX10_wipe_7 fp_RX10_179 lR_0 rfl rfl rfl ?_
  refine Ev.iload_n (pc := 10) dX10_wipe_10 rfl ?_
  obtain rfl := Option.some.inj h
  exact Ev.iret (pc := 11) dX10_wipe_11 rfl rfl
theorem dX9_drop_0 : decode cX9_drop 0 = .ok (.iload_n 1, 1) := by decide +kernel
theorem dX9_drop_1 : decode cX9_drop 1 = .ok (.aload_n 0, 1) := by decide +kernel
theorem dX9_drop_2 : decode cX9_drop 2 = .ok (.getfield 12, 3) := by decide +kernel
theorem dX9_drop_5 : decode cX9_drop 5 = .ok (.getfield 304, 3) := by decide +kernel
theorem dX9_drop_8 : decode cX9_drop 8 = .ok (.getfield 308, 3) := by decide +kernel
theorem dX9_drop_11 : decode cX9_drop 11 = .ok (.invokestatic 37, 3) := by decide +kernel
theorem dX9_drop_14 : decode cX9_drop 14 = .ok (.ifCond .ne 10, 3) := by decide +kernel
theorem dX9_drop_17 : decode cX9_drop 17 = .ok (.aload_n 0, 1) := by decide +kernel
theorem dX9_drop_18 : decode cX9_drop 18 = .ok (.ldc 41, 2) := by decide +kernel
theorem dX9_drop_20 : decode cX9_drop 20 = .ok (.invokevirtual 42, 3) := by decide +kernel
theorem dX9_drop_23 : decode cX9_drop 23 = .ok (.ireturn, 1) := by decide +kernel
theorem dX9_drop_24 : decode cX9_drop 24 = .ok (.aload_n 0, 1) := by decide +kernel
theorem dX9_drop_25 : decode cX9_drop 25 = .ok (.getfield 12, 3) := by decide +kernel
theorem dX9_drop_28 : decode cX9_drop 28 = .ok (.getfield 304, 3) := by decide +kernel
theorem dX9_drop_31 : decode cX9_drop 31 = .ok (.getfield 317, 3) := by decide +kernel
theorem dX9_drop_34 : decode cX9_drop 34 = .ok (.iload_n 1, 1) := by decide +kernel
theorem dX9_drop_35 : decode cX9_drop 35 = .ok (.baload, 1) := by decide +kernel
theorem dX9_drop_36 : decode cX9_drop 36 = .ok (.ifCond .eq 10, 3) := by decide +kernel
theorem dX9_drop_39 : decode cX9_drop 39 = .ok (.aload_n 0, 1) := by decide +kernel
theorem dX9_drop_40 : decode cX9_drop 40 = .ok (.ldc 82, 2) := by decide +kernel
theorem dX9_drop_42 : decode cX9_drop 42 = .ok (.invokevirtual 42, 3) := by decide +kernel
theorem dX9_drop_45 : decode cX9_drop 45 = .ok (.ireturn, 1) := by decide +kernel
theorem dX9_drop_46 : decode cX9_drop 46 = .ok (.aload_n 0, 1) := by decide +kernel
theorem dX9_drop_47 : decode cX9_drop 47 = .ok (.getfield 12, 3) := by decide +kernel
theorem dX9_drop_50 : decode cX9_drop 50 = .ok (.getfield 304, 3) := by decide +kernel
theorem dX9_drop_53 : decode cX9_drop 53 = .ok (.getfield 317, 3) := by decide +kernel
theorem dX9_drop_56 : decode cX9_drop 56 = .ok (.iload_n 1, 1) := by decide +kernel
theorem dX9_drop_57 : decode cX9_drop 57 = .ok (.iconst 1, 1) := by decide +kernel
theorem dX9_drop_58 : decode cX9_drop 58 = .ok (.bastore, 1) := by decide +kernel
theorem dX9_drop_59 : decode cX9_drop 59 = .ok (.iconst 1, 1) := by decide +kernel
theorem dX9_drop_60 : decode cX9_drop 60 = .ok (.ireturn, 1) := by decide +kernel
def F_X9_drop (x1 : Int32) (M : eMem) : Option (Int32 × eMem) :=
  (F_X9_isIn x1 (M.1 40 4)).bind fun q1 =>
  if q1 = 0 then
    (F_X9_found (-1000001) M).bind fun q3 =>
    some (q3.1, q3.2)
  else
    eG (eIn x1 8) <|
    if (M.1 43 x1.toNatClampNeg) = 0 then
      eG (eIn x1 8) <|
      some (1, (eI M 43 x1.toNatClampNeg (vp_nar .boolean 1)))
    else
      (F_X9_found (-1000005) M).bind fun q2 =>
      some (q2.1, q2.2)
set_option maxRecDepth 100000 in
set_option maxHeartbeats 4000000 in
theorem ev_X9_drop (x1 : Int32) (M : eMem) (q : (Int32 × eMem)) (h : F_X9_drop x1 M = some q) : Ev layC 2 m_X9_drop 0 [some (.ref 0), some (.int x1)] [] M (some (.int q.1), q.2) := by
  rw [F_X9_drop] at h
  refine Ev.iload_n (pc := 0) dX9_drop_0 rfl ?_
  refine Ev.aload_n (pc := 1) dX9_drop_1 rfl ?_
  refine Ev.getR (pc := 2) dX9_drop_2 fl_RX9_12 lC_0 rfl ?_
  refine Ev.getR (pc := 5) dX9_drop_5 fl_RX9_304 lC_1 rfl ?_
  refine Ev.getI (pc := 8) dX9_drop_8 fl_RX9_308 lC_40 rfl ?_
  refine eBk h (fun q1 hq1 h => ?_)
  refine Ev.callS (pc := 11) (as := [.int x1, .int (M.1 40 4)]) (st := []) (z := 0) dX9_drop_11 wc_X9_isIn ml_RX9_37 sm_X9_isIn (ev_X9_isIn x1 (M.1 40 4) M _ hq1) rfl rfl (by decide) rfl rfl (Nat.le_of_ble_eq_true rfl) ?_
  refine Ev.if_ne (pc := 14) (tgt := 24) dX9_drop_14 (by decide) (fun c9 => ?_) (fun c9 => ?_)
  · have h := eF h c9
    refine Ev.aload_n (pc := 24) dX9_drop_24 rfl ?_
    refine Ev.getR (pc := 25) dX9_drop_25 fl_RX9_12 lC_0 rfl ?_
    refine Ev.getR (pc := 28) dX9_drop_28 fl_RX9_304 lC_1 rfl ?_
    refine Ev.getR (pc := 31) dX9_drop_31 fl_RX9_317 lC_40 rfl ?_
    refine Ev.iload_n (pc := 34) dX9_drop_34 rfl ?_
    obtain ⟨g9, h⟩ := eGdB h
    refine Ev.zaldj (pc := 35) dX9_drop_35 (j := x1.toNatClampNeg) lC_43 g9 rfl ?_
    refine Ev.if_eq (pc := 36) (tgt := 46) dX9_drop_36 (by decide) (fun c9 => ?_) (fun c9 => ?_)
    · have h := eT h c9
      refine Ev.aload_n (pc := 46) dX9_drop_46 rfl ?_
      refine Ev.getR (pc := 47) dX9_drop_47 fl_RX9_12 lC_0 rfl ?_
      refine Ev.getR (pc := 50) dX9_drop_50 fl_RX9_304 lC_1 rfl ?_
      refine Ev.getR (pc := 53) dX9_drop_53 fl_RX9_317 lC_40 rfl ?_
      refine Ev.iload_n (pc := 56) dX9_drop_56 rfl ?_
      refine Ev.iconst (pc := 57) dX9_drop_57 (v := 1) (by decide) ?_
      obtain ⟨g9, h⟩ := eGdB h
      refine Ev.zastj (pc := 58) dX9_drop_58 (j := x1.toNatClampNeg) lC_43 g9 rfl ?_
      refine Ev.iconst (pc := 59) dX9_drop_59 (v := 1) (by decide) ?_
      obtain rfl := Option.some.inj h
      exact Ev.iret (pc := 60) dX9_drop_60 rfl rfl
    · have h := eF h c9
      refine Ev.aload_n (pc := 39) dX9_drop_39 rfl ?_
      refine Ev.ldc (pc := 40) dX9_drop_40 ld_RX9_82 ?_
      refine eBk h (fun q2 hq2 h => ?_)
      refine Ev.callV (pc := 42) (as := [.int (-1000005)]) (st := []) (z := 1) dX9_drop_42 wc_X9_found ml_RX9_42 im_X9_found se_X9_found lC_0 rfl rfl (ev_X9_found (-1000005) M _ hq2) rfl rfl (by decide) rfl rfl (Nat.le_of_ble_eq_true rfl) ?_
      obtain rfl := Option.some.inj h
      exact Ev.iret (pc := 45) dX9_drop_45 rfl rfl
  · have h := eT h c9
    refine Ev.aload_n (pc := 17) dX9_drop_17 rfl ?_
    refine Ev.ldc (pc := 18) dX9_drop_18 ld_RX9_41 ?_
    refine eBk h (fun q3 hq3 h => ?_)
    refine Ev.callV (pc := 20) (as := [.int (-1000001)]) (st := []) (z := 1) dX9_drop_20 wc_X9_found ml_RX9_42 im_X9_found se_X9_found lC_0 rfl rfl (ev_X9_found (-1000001) M _ hq3) rfl rfl (by decide) rfl rfl (Nat.le_of_ble_eq_true rfl) ?_
    obtain rfl := Option.some.inj h
    exact Ev.iret (pc := 23) dX9_drop_23 rfl rfl
theorem dX10_drop_0 : decode cX10_drop 0 = .ok (.iload_n 1, 1) := by decide +kernel
theorem dX10_drop_1 : decode cX10_drop 1 = .ok (.iconst 0, 1) := by decide +kernel
theorem dX10_drop_2 : decode cX10_drop 2 = .ok (.aload_n 0, 1) := by decide +kernel
theorem dX10_drop_3 : decode cX10_drop 3 = .ok (.getfield 7, 3) := by decide +kernel
theorem dX10_drop_6 : decode cX10_drop 6 = .ok (.bipush 11, 2) := by decide +kernel
theorem dX10_drop_8 : decode cX10_drop 8 = .ok (.iaload, 1) := by decide +kernel
theorem dX10_drop_9 : decode cX10_drop 9 = .ok (.iconst 1, 1) := by decide +kernel
theorem dX10_drop_10 : decode cX10_drop 10 = .ok (.isub, 1) := by decide +kernel
theorem dX10_drop_11 : decode cX10_drop 11 = .ok (.invokestatic 58, 3) := by decide +kernel
theorem dX10_drop_14 : decode cX10_drop 14 = .ok (.ifCond .ne 9, 3) := by decide +kernel
theorem dX10_drop_17 : decode cX10_drop 17 = .ok (.aload_n 0, 1) := by decide +kernel
theorem dX10_drop_18 : decode cX10_drop 18 = .ok (.iconst 1, 1) := by decide +kernel
theorem dX10_drop_19 : decode cX10_drop 19 = .ok (.invokevirtual 66, 3) := by decide +kernel
theorem dX10_drop_22 : decode cX10_drop 22 = .ok (.ireturn, 1) := by decide +kernel
theorem dX10_drop_23 : decode cX10_drop 23 = .ok (.aload_n 0, 1) := by decide +kernel
theorem dX10_drop_24 : decode cX10_drop 24 = .ok (.getfield 7, 3) := by decide +kernel
theorem dX10_drop_27 : decode cX10_drop 27 = .ok (.sipush 1764, 3) := by decide +kernel
theorem dX10_drop_30 : decode cX10_drop 30 = .ok (.sipush 142, 3) := by decide +kernel
theorem dX10_drop_33 : decode cX10_drop 33 = .ok (.iload_n 1, 1) := by decide +kernel
theorem dX10_drop_34 : decode cX10_drop 34 = .ok (.imul, 1) := by decide +kernel
theorem dX10_drop_35 : decode cX10_drop 35 = .ok (.iadd, 1) := by decide +kernel
theorem dX10_drop_36 : decode cX10_drop 36 = .ok (.iconst 2, 1) := by decide +kernel
theorem dX10_drop_37 : decode cX10_drop 37 = .ok (.iadd, 1) := by decide +kernel
theorem dX10_drop_38 : decode cX10_drop 38 = .ok (.iaload, 1) := by decide +kernel
theorem dX10_drop_39 : decode cX10_drop 39 = .ok (.iconst 1, 1) := by decide +kernel
theorem dX10_drop_40 : decode cX10_drop 40 = .ok (.if_icmp .ne 9, 3) := by decide +kernel
theorem dX10_drop_43 : decode cX10_drop 43 = .ok (.aload_n 0, 1) := by decide +kernel
theorem dX10_drop_44 : decode cX10_drop 44 = .ok (.iconst 5, 1) := by decide +kernel
theorem dX10_drop_45 : decode cX10_drop 45 = .ok (.invokevirtual 66, 3) := by decide +kernel
theorem dX10_drop_48 : decode cX10_drop 48 = .ok (.ireturn, 1) := by decide +kernel
theorem dX10_drop_49 : decode cX10_drop 49 = .ok (.aload_n 0, 1) := by decide +kernel
theorem dX10_drop_50 : decode cX10_drop 50 = .ok (.getfield 7, 3) := by decide +kernel
theorem dX10_drop_53 : decode cX10_drop 53 = .ok (.sipush 1764, 3) := by decide +kernel
theorem dX10_drop_56 : decode cX10_drop 56 = .ok (.sipush 142, 3) := by decide +kernel
theorem dX10_drop_59 : decode cX10_drop 59 = .ok (.iload_n 1, 1) := by decide +kernel
theorem dX10_drop_60 : decode cX10_drop 60 = .ok (.imul, 1) := by decide +kernel
theorem dX10_drop_61 : decode cX10_drop 61 = .ok (.iadd, 1) := by decide +kernel
theorem dX10_drop_62 : decode cX10_drop 62 = .ok (.iconst 2, 1) := by decide +kernel
theorem dX10_drop_63 : decode cX10_drop 63 = .ok (.iadd, 1) := by decide +kernel
theorem dX10_drop_64 : decode cX10_drop 64 = .ok (.iconst 1, 1) := by decide +kernel
theorem dX10_drop_65 : decode cX10_drop 65 = .ok (.iastore, 1) := by decide +kernel
theorem dX10_drop_66 : decode cX10_drop 66 = .ok (.iconst 1, 1) := by decide +kernel
theorem dX10_drop_67 : decode cX10_drop 67 = .ok (.ireturn, 1) := by decide +kernel
def F_X10_drop (x1 : Int32) (M : eMem) : Option (Int32 × eMem) :=
  (F_X10_in x1 0 ((M.1 1 11) - 1)).bind fun q1 =>
  if q1 = 0 then
    (F_X10_finding 1 M).bind fun q3 =>
    some (q3.1, q3.2)
  else
    eG (eIn ((1764 + (142 * x1)) + 2) 2900) <|
    if (M.1 1 ((1764 + (142 * x1)) + 2).toNatClampNeg) = 1 then
      (F_X10_finding 5 M).bind fun q2 =>
      some (q2.1, q2.2)
    else
      eG (eIn ((1764 + (142 * x1)) + 2) 2900) <|
      some (1, (eI M 1 ((1764 + (142 * x1)) + 2).toNatClampNeg 1))
set_option maxRecDepth 100000 in
set_option maxHeartbeats 4000000 in
theorem ev_X10_drop (x1 : Int32) (M : eMem) (q : (Int32 × eMem)) (h : F_X10_drop x1 M = some q) : Ev layR 1 m_X10_drop 0 [some (.ref 0), some (.int x1)] [] M (some (.int q.1), q.2) := by
  rw [F_X10_drop] at h
  refine Ev.iload_n (pc := 0) dX10_drop_0 rfl ?_
  refine Ev.iconst (pc := 1) dX10_drop_1 (v := 0) (by decide) ?_
  refine Ev.aload_n (pc := 2) dX10_drop_2 rfl ?_
  refine Ev.getR (pc := 3) dX10_drop_3 fl_RX10_7 lR_0 rfl ?_
  refine Ev.bipush (pc := 6) dX10_drop_6 (v := 11) (by decide) ?_
  refine Ev.ialdj (pc := 8) dX10_drop_8 (j := 11) lR_1 (by decide) (by decide) ?_
  refine Ev.iconst (pc := 9) dX10_drop_9 (v := 1) (by decide) ?_
  refine Ev.isub (pc := 10) dX10_drop_10 ?_
  refine eBk h (fun q1 hq1 h => ?_)
  refine Ev.callS (pc := 11) (as := [.int x1, .int 0, .int ((M.1 1 11) - 1)]) (st := []) (z := 0) dX10_drop_11 wc_X10_in ml_RX10_58 sm_X10_in (ev_X10_in x1 0 ((M.1 1 11) - 1) M _ hq1) rfl rfl (by decide) rfl rfl (Nat.le_of_ble_eq_true rfl) ?_
  refine Ev.if_ne (pc := 14) (tgt := 23) dX10_drop_14 (by decide) (fun c9 => ?_) (fun c9 => ?_)
  · have h := eF h c9
    refine Ev.aload_n (pc := 23) dX10_drop_23 rfl ?_
    refine Ev.getR (pc := 24) dX10_drop_24 fl_RX10_7 lR_0 rfl ?_
    refine Ev.sipush (pc := 27) dX10_drop_27 (v := 1764) (by decide) ?_
    refine Ev.sipush (pc := 30) dX10_drop_30 (v := 142) (by decide) ?_
    refine Ev.iload_n (pc := 33) dX10_drop_33 rfl ?_
    refine Ev.imul (pc := 34) dX10_drop_34 ?_
    refine Ev.iadd (pc := 35) dX10_drop_35 ?_
    refine Ev.iconst (pc := 36) dX10_drop_36 (v := 2) (by decide) ?_
    refine Ev.iadd (pc := 37) dX10_drop_37 ?_
    obtain ⟨g9, h⟩ := eGdB h
    refine Ev.ialdj (pc := 38) dX10_drop_38 (j := ((1764 + (142 * x1)) + 2).toNatClampNeg) lR_1 g9 rfl ?_
    refine Ev.iconst (pc := 39) dX10_drop_39 (v := 1) (by decide) ?_
    refine Ev.icmp_ne (pc := 40) (tgt := 49) dX10_drop_40 (by decide) (fun c9 => ?_) (fun c9 => ?_)
    · have h := eF h c9
      refine Ev.aload_n (pc := 49) dX10_drop_49 rfl ?_
      refine Ev.getR (pc := 50) dX10_drop_50 fl_RX10_7 lR_0 rfl ?_
      refine Ev.sipush (pc := 53) dX10_drop_53 (v := 1764) (by decide) ?_
      refine Ev.sipush (pc := 56) dX10_drop_56 (v := 142) (by decide) ?_
      refine Ev.iload_n (pc := 59) dX10_drop_59 rfl ?_
      refine Ev.imul (pc := 60) dX10_drop_60 ?_
      refine Ev.iadd (pc := 61) dX10_drop_61 ?_
      refine Ev.iconst (pc := 62) dX10_drop_62 (v := 2) (by decide) ?_
      refine Ev.iadd (pc := 63) dX10_drop_63 ?_
      refine Ev.iconst (pc := 64) dX10_drop_64 (v := 1) (by decide) ?_
      obtain ⟨g9, h⟩ := eGdB h
      refine Ev.iastj (pc := 65) dX10_drop_65 (j := ((1764 + (142 * x1)) + 2).toNatClampNeg) lR_1 g9 rfl ?_
      refine Ev.iconst (pc := 66) dX10_drop_66 (v := 1) (by decide) ?_
      obtain rfl := Option.some.inj h
      exact Ev.iret (pc := 67) dX10_drop_67 rfl rfl
    · have h := eT h c9
      refine Ev.aload_n (pc := 43) dX10_drop_43 rfl ?_
      refine Ev.iconst (pc := 44) dX10_drop_44 (v := 5) (by decide) ?_
      refine eBk h (fun q2 hq2 h => ?_)
      refine Ev.callV (pc := 45) (as := [.int 5]) (st := []) (z := 0) dX10_drop_45 wc_X10_finding ml_RX10_66 im_X10_finding se_X10_finding lR_0 rfl rfl (ev_X10_finding 5 M _ hq2) rfl rfl (by decide) rfl rfl (Nat.le_of_ble_eq_true rfl) ?_
      obtain rfl := Option.some.inj h
      exact Ev.iret (pc := 48) dX10_drop_48 rfl rfl
  · have h := eT h c9
    refine Ev.aload_n (pc := 17) dX10_drop_17 rfl ?_
    refine Ev.iconst (pc := 18) dX10_drop_18 (v := 1) (by decide) ?_
    refine eBk h (fun q3 hq3 h => ?_)
    refine Ev.callV (pc := 19) (as := [.int 1]) (st := []) (z := 0) dX10_drop_19 wc_X10_finding ml_RX10_66 im_X10_finding se_X10_finding lR_0 rfl rfl (ev_X10_finding 1 M _ hq3) rfl rfl (by decide) rfl rfl (Nat.le_of_ble_eq_true rfl) ?_
    obtain rfl := Option.some.inj h
    exact Ev.iret (pc := 22) dX10_drop_22 rfl rfl
theorem dX9_must_0 : decode cX9_must 0 = .ok (.aload_n 0, 1) := by decide +kernel
theorem dX9_must_1 : decode cX9_must 1 = .ok (.getfield 12, 3) := by decide +kernel
theorem dX9_must_4 : decode cX9_must 4 = .ok (.getfield 130, 3) := by decide +kernel
theorem dX9_must_7 : decode cX9_must 7 = .ok (.iload_n 1, 1) := by decide +kernel
theorem dX9_must_8 : decode cX9_must 8 = .ok (.invokevirtual 143, 3) := by decide +kernel
theorem dX9_must_11 : decode cX9_must 11 = .ok (.ifCond .ne 10, 3) := by decide +kernel
theorem dX9_must_14 : decode cX9_must 14 = .ok (.aload_n 0, 1) := by decide +kernel
theorem dX9_must_15 : decode cX9_must 15 = .ok (.ldc 41, 2) := by decide +kernel
theorem dX9_must_17 : decode cX9_must 17 = .ok (.invokevirtual 42, 3) := by decide +kernel
theorem dX9_must_20 : decode cX9_must 20 = .ok (.ireturn, 1) := by decide +kernel
theorem dX9_must_21 : decode cX9_must 21 = .ok (.aload_n 0, 1) := by decide +kernel
theorem dX9_must_22 : decode cX9_must 22 = .ok (.getfield 12, 3) := by decide +kernel
theorem dX9_must_25 : decode cX9_must 25 = .ok (.getfield 304, 3) := by decide +kernel
theorem dX9_must_28 : decode cX9_must 28 = .ok (.aload_n 0, 1) := by decide +kernel
theorem dX9_must_29 : decode cX9_must 29 = .ok (.getfield 12, 3) := by decide +kernel
theorem dX9_must_32 : decode cX9_must 32 = .ok (.iload_n 1, 1) := by decide +kernel
theorem dX9_must_33 : decode cX9_must 33 = .ok (.invokevirtual 320, 3) := by decide +kernel
theorem dX9_must_36 : decode cX9_must 36 = .ok (.iconst 0, 1) := by decide +kernel
theorem dX9_must_37 : decode cX9_must 37 = .ok (.invokevirtual 323, 3) := by decide +kernel
theorem dX9_must_40 : decode cX9_must 40 = .ok (.ifCond .eq 7, 3) := by decide +kernel
theorem dX9_must_43 : decode cX9_must 43 = .ok (.iconst 1, 1) := by decide +kernel
theorem dX9_must_44 : decode cX9_must 44 = .ok (.goto 4, 3) := by decide +kernel
theorem dX9_must_47 : decode cX9_must 47 = .ok (.iconst 0, 1) := by decide +kernel
theorem dX9_must_48 : decode cX9_must 48 = .ok (.ireturn, 1) := by decide +kernel
def F_X9_must (x1 : Int32) (M : eMem) : Option (Int32 × eMem) :=
  (F_X5_has x1 M).bind fun q1 =>
  if q1 = 0 then
    (F_X9_found (-1000001) M).bind fun q4 =>
    some (q4.1, q4.2)
  else
    (F_X8_clauseOf x1 M).bind fun q2 =>
    (F_X7_says q2.1 0 q2.2).bind fun q3 =>
    if q3 = 0 then
      some (0, q2.2)
    else
      some (1, q2.2)
set_option maxRecDepth 100000 in
set_option maxHeartbeats 4000000 in
theorem ev_X9_must (x1 : Int32) (M : eMem) (q : (Int32 × eMem)) (h : F_X9_must x1 M = some q) : Ev layC 3 m_X9_must 0 [some (.ref 0), some (.int x1)] [] M (some (.int q.1), q.2) := by
  rw [F_X9_must] at h
  refine Ev.aload_n (pc := 0) dX9_must_0 rfl ?_
  refine Ev.getR (pc := 1) dX9_must_1 fl_RX9_12 lC_0 rfl ?_
  refine Ev.getR (pc := 4) dX9_must_4 fl_RX9_130 lC_1 rfl ?_
  refine Ev.iload_n (pc := 7) dX9_must_7 rfl ?_
  refine eBk h (fun q1 hq1 h => ?_)
  refine Ev.callV (pc := 8) (as := [.int x1]) (st := []) (z := 0) dX9_must_8 wc_X5_has ml_RX9_143 im_X5_has se_X5_has lC_12 rfl rfl (ev_X5_has x1 M _ hq1) rfl rfl (by decide) rfl rfl (Nat.le_of_ble_eq_true rfl) ?_
  refine Ev.if_ne (pc := 11) (tgt := 21) dX9_must_11 (by decide) (fun c9 => ?_) (fun c9 => ?_)
  · have h := eF h c9
    refine Ev.aload_n (pc := 21) dX9_must_21 rfl ?_
    refine Ev.getR (pc := 22) dX9_must_22 fl_RX9_12 lC_0 rfl ?_
    refine Ev.getR (pc := 25) dX9_must_25 fl_RX9_304 lC_1 rfl ?_
    refine Ev.aload_n (pc := 28) dX9_must_28 rfl ?_
    refine Ev.getR (pc := 29) dX9_must_29 fl_RX9_12 lC_0 rfl ?_
    refine Ev.iload_n (pc := 32) dX9_must_32 rfl ?_
    refine eBk h (fun q2 hq2 h => ?_)
    refine Ev.callV (pc := 33) (as := [.int x1]) (st := [.ref 40]) (z := 1) dX9_must_33 wc_X8_clauseOf ml_RX9_320 im_X8_clauseOf se_X8_clauseOf lC_1 rfl rfl (ev_X8_clauseOf x1 M _ hq2) rfl rfl (by decide) rfl rfl (Nat.le_of_ble_eq_true rfl) ?_
    refine Ev.iconst (pc := 36) dX9_must_36 (v := 0) (by decide) ?_
    refine eBk h (fun q3 hq3 h => ?_)
    refine Ev.callV (pc := 37) (as := [.int q2.1, .int 0]) (st := []) (z := 0) dX9_must_37 wc_X7_says ml_RX9_323 im_X7_says se_X7_says lC_40 rfl rfl (ev_X7_says q2.1 0 q2.2 _ hq3) rfl rfl (by decide) rfl rfl (Nat.le_of_ble_eq_true rfl) ?_
    refine Ev.if_eq (pc := 40) (tgt := 47) dX9_must_40 (by decide) (fun c9 => ?_) (fun c9 => ?_)
    · have h := eT h c9
      refine Ev.iconst (pc := 47) dX9_must_47 (v := 0) (by decide) ?_
      obtain rfl := Option.some.inj h
      exact Ev.iret (pc := 48) dX9_must_48 rfl rfl
    · have h := eF h c9
      refine Ev.iconst (pc := 43) dX9_must_43 (v := 1) (by decide) ?_
      refine Ev.goto (pc := 44) (tgt := 48) dX9_must_44 (by decide) ?_
      obtain rfl := Option.some.inj h
      exact Ev.iret (pc := 48) dX9_must_48 rfl rfl
  · have h := eT h c9
    refine Ev.aload_n (pc := 14) dX9_must_14 rfl ?_
    refine Ev.ldc (pc := 15) dX9_must_15 ld_RX9_41 ?_
    refine eBk h (fun q4 hq4 h => ?_)
    refine Ev.callV (pc := 17) (as := [.int (-1000001)]) (st := []) (z := 1) dX9_must_17 wc_X9_found ml_RX9_42 im_X9_found se_X9_found lC_0 rfl rfl (ev_X9_found (-1000001) M _ hq4) rfl rfl (by decide) rfl rfl (Nat.le_of_ble_eq_true rfl) ?_
    obtain rfl := Option.some.inj h
    exact Ev.iret (pc := 20) dX9_must_20 rfl rfl
theorem dX10_must_0 : decode cX10_must 0 = .ok (.aload_n 0, 1) := by decide +kernel
theorem dX10_must_1 : decode cX10_must 1 = .ok (.iload_n 1, 1) := by decide +kernel
theorem dX10_must_2 : decode cX10_must 2 = .ok (.invokevirtual 109, 3) := by decide +kernel
theorem dX10_must_5 : decode cX10_must 5 = .ok (.ifCond .eq 19, 3) := by decide +kernel
theorem dX10_must_8 : decode cX10_must 8 = .ok (.aload_n 0, 1) := by decide +kernel
theorem dX10_must_9 : decode cX10_must 9 = .ok (.iload_n 1, 1) := by decide +kernel
theorem dX10_must_10 : decode cX10_must 10 = .ok (.invokevirtual 118, 3) := by decide +kernel
theorem dX10_must_13 : decode cX10_must 13 = .ok (.ifCond .ne 7, 3) := by decide +kernel
theorem dX10_must_16 : decode cX10_must 16 = .ok (.iconst 1, 1) := by decide +kernel
theorem dX10_must_17 : decode cX10_must 17 = .ok (.goto 12, 3) := by decide +kernel
theorem dX10_must_20 : decode cX10_must 20 = .ok (.iconst 0, 1) := by decide +kernel
theorem dX10_must_21 : decode cX10_must 21 = .ok (.goto 8, 3) := by decide +kernel
theorem dX10_must_24 : decode cX10_must 24 = .ok (.aload_n 0, 1) := by decide +kernel
theorem dX10_must_25 : decode cX10_must 25 = .ok (.iconst 1, 1) := by decide +kernel
theorem dX10_must_26 : decode cX10_must 26 = .ok (.invokevirtual 66, 3) := by decide +kernel
theorem dX10_must_29 : decode cX10_must 29 = .ok (.ireturn, 1) := by decide +kernel
def F_X10_must (x1 : Int32) (M : eMem) : Option (Int32 × eMem) :=
  (F_X10_isShow x1 M).bind fun q1 =>
  if q1 = 0 then
    (F_X10_finding 1 M).bind fun q2 =>
    some (q2.1, q2.2)
  else
    (F_X10_wordOf x1 M).bind fun q3 =>
    if q3 = 0 then
      some (1, M)
    else
      some (0, M)
set_option maxRecDepth 100000 in
set_option maxHeartbeats 4000000 in
theorem ev_X10_must (x1 : Int32) (M : eMem) (q : (Int32 × eMem)) (h : F_X10_must x1 M = some q) : Ev layR 6 m_X10_must 0 [some (.ref 0), some (.int x1)] [] M (some (.int q.1), q.2) := by
  rw [F_X10_must] at h
  refine Ev.aload_n (pc := 0) dX10_must_0 rfl ?_
  refine Ev.iload_n (pc := 1) dX10_must_1 rfl ?_
  refine eBk h (fun q1 hq1 h => ?_)
  refine Ev.callV (pc := 2) (as := [.int x1]) (st := []) (z := 0) dX10_must_2 wc_X10_isShow ml_RX10_109 im_X10_isShow se_X10_isShow lR_0 rfl rfl (ev_X10_isShow x1 M _ hq1) rfl rfl (by decide) rfl rfl (Nat.le_of_ble_eq_true rfl) ?_
  refine Ev.if_eq (pc := 5) (tgt := 24) dX10_must_5 (by decide) (fun c9 => ?_) (fun c9 => ?_)
  · have h := eT h c9
    refine Ev.aload_n (pc := 24) dX10_must_24 rfl ?_
    refine Ev.iconst (pc := 25) dX10_must_25 (v := 1) (by decide) ?_
    refine eBk h (fun q2 hq2 h => ?_)
    refine Ev.callV (pc := 26) (as := [.int 1]) (st := []) (z := 0) dX10_must_26 wc_X10_finding ml_RX10_66 im_X10_finding se_X10_finding lR_0 rfl rfl (ev_X10_finding 1 M _ hq2) rfl rfl (by decide) rfl rfl (Nat.le_of_ble_eq_true rfl) ?_
    obtain rfl := Option.some.inj h
    exact Ev.iret (pc := 29) dX10_must_29 rfl rfl
  · have h := eF h c9
    refine Ev.aload_n (pc := 8) dX10_must_8 rfl ?_
    refine Ev.iload_n (pc := 9) dX10_must_9 rfl ?_
    refine eBk h (fun q3 hq3 h => ?_)
    refine Ev.callV (pc := 10) (as := [.int x1]) (st := []) (z := 1) dX10_must_10 wc_X10_wordOf ml_RX10_118 im_X10_wordOf se_X10_wordOf lR_0 rfl rfl (ev_X10_wordOf x1 M _ hq3) rfl rfl (by decide) rfl rfl (Nat.le_of_ble_eq_true rfl) ?_
    refine Ev.if_ne (pc := 13) (tgt := 20) dX10_must_13 (by decide) (fun c9 => ?_) (fun c9 => ?_)
    · have h := eF h c9
      refine Ev.iconst (pc := 20) dX10_must_20 (v := 0) (by decide) ?_
      refine Ev.goto (pc := 21) (tgt := 29) dX10_must_21 (by decide) ?_
      obtain rfl := Option.some.inj h
      exact Ev.iret (pc := 29) dX10_must_29 rfl rfl
    · have h := eT h c9
      refine Ev.iconst (pc := 16) dX10_must_16 (v := 1) (by decide) ?_
      refine Ev.goto (pc := 17) (tgt := 29) dX10_must_17 (by decide) ?_
      obtain rfl := Option.some.inj h
      exact Ev.iret (pc := 29) dX10_must_29 rfl rfl
theorem dX9_may_0 : decode cX9_may 0 = .ok (.aload_n 0, 1) := by decide +kernel
theorem dX9_may_1 : decode cX9_may 1 = .ok (.getfield 12, 3) := by decide +kernel
theorem dX9_may_4 : decode cX9_may 4 = .ok (.getfield 130, 3) := by decide +kernel
theorem dX9_may_7 : decode cX9_may 7 = .ok (.iload_n 1, 1) := by decide +kernel
theorem dX9_may_8 : decode cX9_may 8 = .ok (.invokevirtual 143, 3) := by decide +kernel
theorem dX9_may_11 : decode cX9_may 11 = .ok (.ifCond .ne 10, 3) := by decide +kernel
theorem dX9_may_14 : decode cX9_may 14 = .ok (.aload_n 0, 1) := by decide +kernel
theorem dX9_may_15 : decode cX9_may 15 = .ok (.ldc 41, 2) := by decide +kernel
theorem dX9_may_17 : decode cX9_may 17 = .ok (.invokevirtual 42, 3) := by decide +kernel
theorem dX9_may_20 : decode cX9_may 20 = .ok (.ireturn, 1) := by decide +kernel
theorem dX9_may_21 : decode cX9_may 21 = .ok (.aload_n 0, 1) := by decide +kernel
theorem dX9_may_22 : decode cX9_may 22 = .ok (.getfield 12, 3) := by decide +kernel
theorem dX9_may_25 : decode cX9_may 25 = .ok (.getfield 304, 3) := by decide +kernel
theorem dX9_may_28 : decode cX9_may 28 = .ok (.aload_n 0, 1) := by decide +kernel
theorem dX9_may_29 : decode cX9_may 29 = .ok (.getfield 12, 3) := by decide +kernel
theorem dX9_may_32 : decode cX9_may 32 = .ok (.iload_n 1, 1) := by decide +kernel
theorem dX9_may_33 : decode cX9_may 33 = .ok (.invokevirtual 320, 3) := by decide +kernel
theorem dX9_may_36 : decode cX9_may 36 = .ok (.iconst 2, 1) := by decide +kernel
theorem dX9_may_37 : decode cX9_may 37 = .ok (.invokevirtual 323, 3) := by decide +kernel
theorem dX9_may_40 : decode cX9_may 40 = .ok (.ifCond .eq 7, 3) := by decide +kernel
theorem dX9_may_43 : decode cX9_may 43 = .ok (.iconst 0, 1) := by decide +kernel
theorem dX9_may_44 : decode cX9_may 44 = .ok (.goto 4, 3) := by decide +kernel
theorem dX9_may_47 : decode cX9_may 47 = .ok (.iconst 1, 1) := by decide +kernel
theorem dX9_may_48 : decode cX9_may 48 = .ok (.ireturn, 1) := by decide +kernel
def F_X9_may (x1 : Int32) (M : eMem) : Option (Int32 × eMem) :=
  (F_X5_has x1 M).bind fun q1 =>
  if q1 = 0 then
    (F_X9_found (-1000001) M).bind fun q4 =>
    some (q4.1, q4.2)
  else
    (F_X8_clauseOf x1 M).bind fun q2 =>
    (F_X7_says q2.1 2 q2.2).bind fun q3 =>
    if q3 = 0 then
      some (1, q2.2)
    else
      some (0, q2.2)
set_option maxRecDepth 100000 in
set_option maxHeartbeats 4000000 in
theorem ev_X9_may (x1 : Int32) (M : eMem) (q : (Int32 × eMem)) (h : F_X9_may x1 M = some q) : Ev layC 3 m_X9_may 0 [some (.ref 0), some (.int x1)] [] M (some (.int q.1), q.2) := by
  rw [F_X9_may] at h
  refine Ev.aload_n (pc := 0) dX9_may_0 rfl ?_
  refine Ev.getR (pc := 1) dX9_may_1 fl_RX9_12 lC_0 rfl ?_
  refine Ev.getR (pc := 4) dX9_may_4 fl_RX9_130 lC_1 rfl ?_
  refine Ev.iload_n (pc := 7) dX9_may_7 rfl ?_
  refine eBk h (fun q1 hq1 h => ?_)
  refine Ev.callV (pc := 8) (as := [.int x1]) (st := []) (z := 0) dX9_may_8 wc_X5_has ml_RX9_143 im_X5_has se_X5_has lC_12 rfl rfl (ev_X5_has x1 M _ hq1) rfl rfl (by decide) rfl rfl (Nat.le_of_ble_eq_true rfl) ?_
  refine Ev.if_ne (pc := 11) (tgt := 21) dX9_may_11 (by decide) (fun c9 => ?_) (fun c9 => ?_)
  · have h := eF h c9
    refine Ev.aload_n (pc := 21) dX9_may_21 rfl ?_
    refine Ev.getR (pc := 22) dX9_may_22 fl_RX9_12 lC_0 rfl ?_
    refine Ev.getR (pc := 25) dX9_may_25 fl_RX9_304 lC_1 rfl ?_
    refine Ev.aload_n (pc := 28) dX9_may_28 rfl ?_
    refine Ev.getR (pc := 29) dX9_may_29 fl_RX9_12 lC_0 rfl ?_
    refine Ev.iload_n (pc := 32) dX9_may_32 rfl ?_
    refine eBk h (fun q2 hq2 h => ?_)
    refine Ev.callV (pc := 33) (as := [.int x1]) (st := [.ref 40]) (z := 1) dX9_may_33 wc_X8_clauseOf ml_RX9_320 im_X8_clauseOf se_X8_clauseOf lC_1 rfl rfl (ev_X8_clauseOf x1 M _ hq2) rfl rfl (by decide) rfl rfl (Nat.le_of_ble_eq_true rfl) ?_
    refine Ev.iconst (pc := 36) dX9_may_36 (v := 2) (by decide) ?_
    refine eBk h (fun q3 hq3 h => ?_)
    refine Ev.callV (pc := 37) (as := [.int q2.1, .int 2]) (st := []) (z := 0) dX9_may_37 wc_X7_says ml_RX9_323 im_X7_says se_X7_says lC_40 rfl rfl (ev_X7_says q2.1 2 q2.2 _ hq3) rfl rfl (by decide) rfl rfl (Nat.le_of_ble_eq_true rfl) ?_
    refine Ev.if_eq (pc := 40) (tgt := 47) dX9_may_40 (by decide) (fun c9 => ?_) (fun c9 => ?_)
    · have h := eT h c9
      refine Ev.iconst (pc := 47) dX9_may_47 (v := 1) (by decide) ?_
      obtain rfl := Option.some.inj h
      exact Ev.iret (pc := 48) dX9_may_48 rfl rfl
    · have h := eF h c9
      refine Ev.iconst (pc := 43) dX9_may_43 (v := 0) (by decide) ?_
      refine Ev.goto (pc := 44) (tgt := 48) dX9_may_44 (by decide) ?_
      obtain rfl := Option.some.inj h
      exact Ev.iret (pc := 48) dX9_may_48 rfl rfl
  · have h := eT h c9
    refine Ev.aload_n (pc := 14) dX9_may_14 rfl ?_
    refine Ev.ldc (pc := 15) dX9_may_15 ld_RX9_41 ?_
    refine eBk h (fun q4 hq4 h => ?_)
    refine Ev.callV (pc := 17) (as := [.int (-1000001)]) (st := []) (z := 1) dX9_may_17 wc_X9_found ml_RX9_42 im_X9_found se_X9_found lC_0 rfl rfl (ev_X9_found (-1000001) M _ hq4) rfl rfl (by decide) rfl rfl (Nat.le_of_ble_eq_true rfl) ?_
    obtain rfl := Option.some.inj h
    exact Ev.iret (pc := 20) dX9_may_20 rfl rfl
theorem dX10_may_0 : decode cX10_may 0 = .ok (.aload_n 0, 1) := by decide +kernel
theorem dX10_may_1 : decode cX10_may 1 = .ok (.iload_n 1, 1) := by decide +kernel
theorem dX10_may_2 : decode cX10_may 2 = .ok (.invokevirtual 109, 3) := by decide +kernel
theorem dX10_may_5 : decode cX10_may 5 = .ok (.ifCond .eq 20, 3) := by decide +kernel
theorem dX10_may_8 : decode cX10_may 8 = .ok (.aload_n 0, 1) := by decide +kernel
theorem dX10_may_9 : decode cX10_may 9 = .ok (.iload_n 1, 1) := by decide +kernel
theorem dX10_may_10 : decode cX10_may 10 = .ok (.invokevirtual 118, 3) := by decide +kernel
theorem dX10_may_13 : decode cX10_may 13 = .ok (.iconst 2, 1) := by decide +kernel
theorem dX10_may_14 : decode cX10_may 14 = .ok (.if_icmp .ne 7, 3) := by decide +kernel
theorem dX10_may_17 : decode cX10_may 17 = .ok (.iconst 0, 1) := by decide +kernel
theorem dX10_may_18 : decode cX10_may 18 = .ok (.goto 12, 3) := by decide +kernel
theorem dX10_may_21 : decode cX10_may 21 = .ok (.iconst 1, 1) := by decide +kernel
theorem dX10_may_22 : decode cX10_may 22 = .ok (.goto 8, 3) := by decide +kernel
theorem dX10_may_25 : decode cX10_may 25 = .ok (.aload_n 0, 1) := by decide +kernel
theorem dX10_may_26 : decode cX10_may 26 = .ok (.iconst 1, 1) := by decide +kernel
theorem dX10_may_27 : decode cX10_may 27 = .ok (.invokevirtual 66, 3) := by decide +kernel
theorem dX10_may_30 : decode cX10_may 30 = .ok (.ireturn, 1) := by decide +kernel
def F_X10_may (x1 : Int32) (M : eMem) : Option (Int32 × eMem) :=
  (F_X10_isShow x1 M).bind fun q1 =>
  if q1 = 0 then
    (F_X10_finding 1 M).bind fun q2 =>
    some (q2.1, q2.2)
  else
    (F_X10_wordOf x1 M).bind fun q3 =>
    if q3 = 2 then
      some (0, M)
    else
      some (1, M)
set_option maxRecDepth 100000 in
set_option maxHeartbeats 4000000 in
theorem ev_X10_may (x1 : Int32) (M : eMem) (q : (Int32 × eMem)) (h : F_X10_may x1 M = some q) : Ev layR 6 m_X10_may 0 [some (.ref 0), some (.int x1)] [] M (some (.int q.1), q.2) := by
  rw [F_X10_may] at h
  refine Ev.aload_n (pc := 0) dX10_may_0 rfl ?_
  refine Ev.iload_n (pc := 1) dX10_may_1 rfl ?_
  refine eBk h (fun q1 hq1 h => ?_)
  refine Ev.callV (pc := 2) (as := [.int x1]) (st := []) (z := 0) dX10_may_2 wc_X10_isShow ml_RX10_109 im_X10_isShow se_X10_isShow lR_0 rfl rfl (ev_X10_isShow x1 M _ hq1) rfl rfl (by decide) rfl rfl (Nat.le_of_ble_eq_true rfl) ?_
  refine Ev.if_eq (pc := 5) (tgt := 25) dX10_may_5 (by decide) (fun c9 => ?_) (fun c9 => ?_)
  · have h := eT h c9
    refine Ev.aload_n (pc := 25) dX10_may_25 rfl ?_
    refine Ev.iconst (pc := 26) dX10_may_26 (v := 1) (by decide) ?_
    refine eBk h (fun q2 hq2 h => ?_)
    refine Ev.callV (pc := 27) (as := [.int 1]) (st := []) (z := 0) dX10_may_27 wc_X10_finding ml_RX10_66 im_X10_finding se_X10_finding lR_0 rfl rfl (ev_X10_finding 1 M _ hq2) rfl rfl (by decide) rfl rfl (Nat.le_of_ble_eq_true rfl) ?_
    obtain rfl := Option.some.inj h
    exact Ev.iret (pc := 30) dX10_may_30 rfl rfl
  · have h := eF h c9
    refine Ev.aload_n (pc := 8) dX10_may_8 rfl ?_
    refine Ev.iload_n (pc := 9) dX10_may_9 rfl ?_
    refine eBk h (fun q3 hq3 h => ?_)
    refine Ev.callV (pc := 10) (as := [.int x1]) (st := []) (z := 1) dX10_may_10 wc_X10_wordOf ml_RX10_118 im_X10_wordOf se_X10_wordOf lR_0 rfl rfl (ev_X10_wordOf x1 M _ hq3) rfl rfl (by decide) rfl rfl (Nat.le_of_ble_eq_true rfl) ?_
    refine Ev.iconst (pc := 13) dX10_may_13 (v := 2) (by decide) ?_
    refine Ev.icmp_ne (pc := 14) (tgt := 21) dX10_may_14 (by decide) (fun c9 => ?_) (fun c9 => ?_)
    · have h := eF h c9
      refine Ev.iconst (pc := 21) dX10_may_21 (v := 1) (by decide) ?_
      refine Ev.goto (pc := 22) (tgt := 30) dX10_may_22 (by decide) ?_
      obtain rfl := Option.some.inj h
      exact Ev.iret (pc := 30) dX10_may_30 rfl rfl
    · have h := eT h c9
      refine Ev.iconst (pc := 17) dX10_may_17 (v := 0) (by decide) ?_
      refine Ev.goto (pc := 18) (tgt := 30) dX10_may_18 (by decide) ?_
      obtain rfl := Option.some.inj h
      exact Ev.iret (pc := 30) dX10_may_30 rfl rfl
theorem dX9_why_0 : decode cX9_why 0 = .ok (.aload_n 0, 1) := by decide +kernel
theorem dX9_why_1 : decode cX9_why 1 = .ok (.getfield 12, 3) := by decide +kernel
theorem dX9_why_4 : decode cX9_why 4 = .ok (.getfield 130, 3) := by decide +kernel
theorem dX9_why_7 : decode cX9_why 7 = .ok (.iload_n 1, 1) := by decide +kernel
theorem dX9_why_8 : decode cX9_why 8 = .ok (.invokevirtual 143, 3) := by decide +kernel
theorem dX9_why_11 : decode cX9_why 11 = .ok (.ifCond .ne 10, 3) := by decide +kernel
theorem dX9_why_14 : decode cX9_why 14 = .ok (.aload_n 0, 1) := by decide +kernel
theorem dX9_why_15 : decode cX9_why 15 = .ok (.ldc 41, 2) := by decide +kernel
theorem dX9_why_17 : decode cX9_why 17 = .ok (.invokevirtual 42, 3) := by decide +kernel
theorem dX9_why_20 : decode cX9_why 20 = .ok (.ireturn, 1) := by decide +kernel
theorem dX9_why_21 : decode cX9_why 21 = .ok (.aload_n 0, 1) := by decide +kernel
theorem dX9_why_22 : decode cX9_why 22 = .ok (.getfield 12, 3) := by decide +kernel
theorem dX9_why_25 : decode cX9_why 25 = .ok (.iload_n 1, 1) := by decide +kernel
theorem dX9_why_26 : decode cX9_why 26 = .ok (.invokevirtual 320, 3) := by decide +kernel
theorem dX9_why_29 : decode cX9_why 29 = .ok (.istore_n 2, 1) := by decide +kernel
theorem dX9_why_30 : decode cX9_why 30 = .ok (.iload_n 2, 1) := by decide +kernel
theorem dX9_why_31 : decode cX9_why 31 = .ok (.iconst (-1), 1) := by decide +kernel
theorem dX9_why_32 : decode cX9_why 32 = .ok (.if_icmp .ne 12, 3) := by decide +kernel
theorem dX9_why_35 : decode cX9_why 35 = .ok (.aload_n 0, 1) := by decide +kernel
theorem dX9_why_36 : decode cX9_why 36 = .ok (.ldc 108, 2) := by decide +kernel
theorem dX9_why_38 : decode cX9_why 38 = .ok (.invokevirtual 42, 3) := by decide +kernel
theorem dX9_why_41 : decode cX9_why 41 = .ok (.goto 4, 3) := by decide +kernel
theorem dX9_why_44 : decode cX9_why 44 = .ok (.iload_n 2, 1) := by decide +kernel
theorem dX9_why_45 : decode cX9_why 45 = .ok (.ireturn, 1) := by decide +kernel
def F_X9_why (x1 : Int32) (M : eMem) : Option (Int32 × eMem) :=
  (F_X5_has x1 M).bind fun q1 =>
  if q1 = 0 then
    (F_X9_found (-1000001) M).bind fun q4 =>
    some (q4.1, q4.2)
  else
    (F_X8_clauseOf x1 M).bind fun q2 =>
    if q2.1 = (-1) then
      (F_X9_found (-1000004) q2.2).bind fun q3 =>
      some (q3.1, q3.2)
    else
      some (q2.1, q2.2)
set_option maxRecDepth 100000 in
set_option maxHeartbeats 4000000 in
theorem ev_X9_why (x1 : Int32) (M : eMem) (q : (Int32 × eMem)) (h : F_X9_why x1 M = some q) : Ev layC 3 m_X9_why 0 [some (.ref 0), some (.int x1), none] [] M (some (.int q.1), q.2) := by
  rw [F_X9_why] at h
  refine Ev.aload_n (pc := 0) dX9_why_0 rfl ?_
  refine Ev.getR (pc := 1) dX9_why_1 fl_RX9_12 lC_0 rfl ?_
  refine Ev.getR (pc := 4) dX9_why_4 fl_RX9_130 lC_1 rfl ?_
  refine Ev.iload_n (pc := 7) dX9_why_7 rfl ?_
  refine eBk h (fun q1 hq1 h => ?_)
  refine Ev.callV (pc := 8) (as := [.int x1]) (st := []) (z := 0) dX9_why_8 wc_X5_has ml_RX9_143 im_X5_has se_X5_has lC_12 rfl rfl (ev_X5_has x1 M _ hq1) rfl rfl (by decide) rfl rfl (Nat.le_of_ble_eq_true rfl) ?_
  refine Ev.if_ne (pc := 11) (tgt := 21) dX9_why_11 (by decide) (fun c9 => ?_) (fun c9 => ?_)
  · have h := eF h c9
    refine Ev.aload_n (pc := 21) dX9_why_21 rfl ?_
    refine Ev.getR (pc := 22) dX9_why_22 fl_RX9_12 lC_0 rfl ?_
    refine Ev.iload_n (pc := 25) dX9_why_25 rfl ?_
    refine eBk h (fun q2 hq2 h => ?_)
    refine Ev.callV (pc := 26) (as := [.int x1]) (st := []) (z := 1) dX9_why_26 wc_X8_clauseOf ml_RX9_320 im_X8_clauseOf se_X8_clauseOf lC_1 rfl rfl (ev_X8_clauseOf x1 M _ hq2) rfl rfl (by decide) rfl rfl (Nat.le_of_ble_eq_true rfl) ?_
    refine Ev.istore_n (pc := 29) dX9_why_29 (by decide) rfl rfl ?_
    refine Ev.iload_n (pc := 30) dX9_why_30 rfl ?_
    refine Ev.iconst (pc := 31) dX9_why_31 (v := (-1)) (by decide) ?_
    refine Ev.icmp_ne (pc := 32) (tgt := 44) dX9_why_32 (by decide) (fun c9 => ?_) (fun c9 => ?_)
    · have h := eF h c9
      refine Ev.iload_n (pc := 44) dX9_why_44 rfl ?_
      obtain rfl := Option.some.inj h
      exact Ev.iret (pc := 45) dX9_why_45 rfl rfl
    · have h := eT h c9
      refine Ev.aload_n (pc := 35) dX9_why_35 rfl ?_
      refine Ev.ldc (pc := 36) dX9_why_36 ld_RX9_108 ?_
      refine eBk h (fun q3 hq3 h => ?_)
      refine Ev.callV (pc := 38) (as := [.int (-1000004)]) (st := []) (z := 1) dX9_why_38 wc_X9_found ml_RX9_42 im_X9_found se_X9_found lC_0 rfl rfl (ev_X9_found (-1000004) q2.2 _ hq3) rfl rfl (by decide) rfl rfl (Nat.le_of_ble_eq_true rfl) ?_
      refine Ev.goto (pc := 41) (tgt := 45) dX9_why_41 (by decide) ?_
      obtain rfl := Option.some.inj h
      exact Ev.iret (pc := 45) dX9_why_45 rfl rfl
  · have h := eT h c9
    refine Ev.aload_n (pc := 14) dX9_why_14 rfl ?_
    refine Ev.ldc (pc := 15) dX9_why_15 ld_RX9_41 ?_
    refine eBk h (fun q4 hq4 h => ?_)
    refine Ev.callV (pc := 17) (as := [.int (-1000001)]) (st := []) (z := 1) dX9_why_17 wc_X9_found ml_RX9_42 im_X9_found se_X9_found lC_0 rfl rfl (ev_X9_found (-1000001) M _ hq4) rfl rfl (by decide) rfl rfl (Nat.le_of_ble_eq_true rfl) ?_
    obtain rfl := Option.some.inj h
    exact Ev.iret (pc := 20) dX9_why_20 rfl rfl
theorem dX10_why_0 : decode cX10_why 0 = .ok (.aload_n 0, 1) := by decide +kernel
theorem dX10_why_1 : decode cX10_why 1 = .ok (.iload_n 1, 1) := by decide +kernel
theorem dX10_why_2 : decode cX10_why 2 = .ok (.invokevirtual 109, 3) := by decide +kernel
theorem dX10_why_5 : decode cX10_why 5 = .ok (.ifCond .ne 9, 3) := by decide +kernel
theorem dX10_why_8 : decode cX10_why 8 = .ok (.aload_n 0, 1) := by decide +kernel
theorem dX10_why_9 : decode cX10_why 9 = .ok (.iconst 1, 1) := by decide +kernel
theorem dX10_why_10 : decode cX10_why 10 = .ok (.invokevirtual 66, 3) := by decide +kernel
theorem dX10_why_13 : decode cX10_why 13 = .ok (.ireturn, 1) := by decide +kernel
theorem dX10_why_14 : decode cX10_why 14 = .ok (.aload_n 0, 1) := by decide +kernel
theorem dX10_why_15 : decode cX10_why 15 = .ok (.iload_n 1, 1) := by decide +kernel
theorem dX10_why_16 : decode cX10_why 16 = .ok (.invokevirtual 234, 3) := by decide +kernel
theorem dX10_why_19 : decode cX10_why 19 = .ok (.istore_n 2, 1) := by decide +kernel
theorem dX10_why_20 : decode cX10_why 20 = .ok (.iload_n 2, 1) := by decide +kernel
theorem dX10_why_21 : decode cX10_why 21 = .ok (.ifCond .ge 11, 3) := by decide +kernel
theorem dX10_why_24 : decode cX10_why 24 = .ok (.aload_n 0, 1) := by decide +kernel
theorem dX10_why_25 : decode cX10_why 25 = .ok (.iconst 4, 1) := by decide +kernel
theorem dX10_why_26 : decode cX10_why 26 = .ok (.invokevirtual 66, 3) := by decide +kernel
theorem dX10_why_29 : decode cX10_why 29 = .ok (.goto 4, 3) := by decide +kernel
theorem dX10_why_32 : decode cX10_why 32 = .ok (.iload_n 2, 1) := by decide +kernel
theorem dX10_why_33 : decode cX10_why 33 = .ok (.ireturn, 1) := by decide +kernel
def F_X10_why (x1 : Int32) (M : eMem) : Option (Int32 × eMem) :=
  (F_X10_isShow x1 M).bind fun q1 =>
  if q1 = 0 then
    (F_X10_finding 1 M).bind fun q4 =>
    some (q4.1, q4.2)
  else
    (F_X10_clauseOf x1 M).bind fun q2 =>
    if q2 < 0 then
      (F_X10_finding 4 M).bind fun q3 =>
      some (q3.1, q3.2)
    else
      some (q2, M)
set_option maxRecDepth 100000 in
set_option maxHeartbeats 4000000 in
theorem ev_X10_why (x1 : Int32) (M : eMem) (q : (Int32 × eMem)) (h : F_X10_why x1 M = some q) : Ev layR 5 m_X10_why 0 [some (.ref 0), some (.int x1), none] [] M (some (.int q.1), q.2) := by
  rw [F_X10_why] at h
  refine Ev.aload_n (pc := 0) dX10_why_0 rfl ?_
  refine Ev.iload_n (pc := 1) dX10_why_1 rfl ?_
  refine eBk h (fun q1 hq1 h => ?_)
  refine Ev.callV (pc := 2) (as := [.int x1]) (st := []) (z := 0) dX10_why_2 wc_X10_isShow ml_RX10_109 im_X10_isShow se_X10_isShow lR_0 rfl rfl (ev_X10_isShow x1 M _ hq1) rfl rfl (by decide) rfl rfl (Nat.le_of_ble_eq_true rfl) ?_
  refine Ev.if_ne (pc := 5) (tgt := 14) dX10_why_5 (by decide) (fun c9 => ?_) (fun c9 => ?_)
  · have h := eF h c9
    refine Ev.aload_n (pc := 14) dX10_why_14 rfl ?_
    refine Ev.iload_n (pc := 15) dX10_why_15 rfl ?_
    refine eBk h (fun q2 hq2 h => ?_)
    refine Ev.callV (pc := 16) (as := [.int x1]) (st := []) (z := 4) dX10_why_16 wc_X10_clauseOf ml_RX10_234 im_X10_clauseOf se_X10_clauseOf lR_0 rfl rfl (ev_X10_clauseOf x1 M _ hq2) rfl rfl (by decide) rfl rfl (Nat.le_of_ble_eq_true rfl) ?_
    refine Ev.istore_n (pc := 19) dX10_why_19 (by decide) rfl rfl ?_
    refine Ev.iload_n (pc := 20) dX10_why_20 rfl ?_
    refine Ev.if_ge (pc := 21) (tgt := 32) dX10_why_21 (by decide) (fun c9 => ?_) (fun c9 => ?_)
    · have h := eF h c9
      refine Ev.iload_n (pc := 32) dX10_why_32 rfl ?_
      obtain rfl := Option.some.inj h
      exact Ev.iret (pc := 33) dX10_why_33 rfl rfl
    · have h := eT h c9
      refine Ev.aload_n (pc := 24) dX10_why_24 rfl ?_
      refine Ev.iconst (pc := 25) dX10_why_25 (v := 4) (by decide) ?_
      refine eBk h (fun q3 hq3 h => ?_)
      refine Ev.callV (pc := 26) (as := [.int 4]) (st := []) (z := 0) dX10_why_26 wc_X10_finding ml_RX10_66 im_X10_finding se_X10_finding lR_0 rfl rfl (ev_X10_finding 4 M _ hq3) rfl rfl (by decide) rfl rfl (Nat.le_of_ble_eq_true rfl) ?_
      refine Ev.goto (pc := 29) (tgt := 33) dX10_why_29 (by decide) ?_
      obtain rfl := Option.some.inj h
      exact Ev.iret (pc := 33) dX10_why_33 rfl rfl
  · have h := eT h c9
    refine Ev.aload_n (pc := 8) dX10_why_8 rfl ?_
    refine Ev.iconst (pc := 9) dX10_why_9 (v := 1) (by decide) ?_
    refine eBk h (fun q4 hq4 h => ?_)
    refine Ev.callV (pc := 10) (as := [.int 1]) (st := []) (z := 0) dX10_why_10 wc_X10_finding ml_RX10_66 im_X10_finding se_X10_finding lR_0 rfl rfl (ev_X10_finding 1 M _ hq4) rfl rfl (by decide) rfl rfl (Nat.le_of_ble_eq_true rfl) ?_
    obtain rfl := Option.some.inj h
    exact Ev.iret (pc := 13) dX10_why_13 rfl rfl
theorem dX8_shownSet_0 : decode cX8_shownSet 0 = .ok (.iconst 0, 1) := by decide +kernel
theorem dX8_shownSet_1 : decode cX8_shownSet 1 = .ok (.istore_n 1, 1) := by decide +kernel
theorem dX8_shownSet_2 : decode cX8_shownSet 2 = .ok (.iconst 0, 1) := by decide +kernel
theorem dX8_shownSet_3 : decode cX8_shownSet 3 = .ok (.istore_n 2, 1) := by decide +kernel
theorem dX8_shownSet_4 : decode cX8_shownSet 4 = .ok (.iload_n 2, 1) := by decide +kernel
theorem dX8_shownSet_5 : decode cX8_shownSet 5 = .ok (.aload_n 0, 1) := by decide +kernel
theorem dX8_shownSet_6 : decode cX8_shownSet 6 = .ok (.getfield 21, 3) := by decide +kernel
theorem dX8_shownSet_9 : decode cX8_shownSet 9 = .ok (.getfield 123, 3) := by decide +kernel
theorem dX8_shownSet_12 : decode cX8_shownSet 12 = .ok (.if_icmp .ge 23, 3) := by decide +kernel
theorem dX8_shownSet_15 : decode cX8_shownSet 15 = .ok (.aload_n 0, 1) := by decide +kernel
theorem dX8_shownSet_16 : decode cX8_shownSet 16 = .ok (.iload_n 2, 1) := by decide +kernel
theorem dX8_shownSet_17 : decode cX8_shownSet 17 = .ok (.invokevirtual 126, 3) := by decide +kernel
theorem dX8_shownSet_20 : decode cX8_shownSet 20 = .ok (.ifCond .eq 9, 3) := by decide +kernel
theorem dX8_shownSet_23 : decode cX8_shownSet 23 = .ok (.iload_n 1, 1) := by decide +kernel
theorem dX8_shownSet_24 : decode cX8_shownSet 24 = .ok (.iconst 1, 1) := by decide +kernel
theorem dX8_shownSet_25 : decode cX8_shownSet 25 = .ok (.iload_n 2, 1) := by decide +kernel
theorem dX8_shownSet_26 : decode cX8_shownSet 26 = .ok (.ishl, 1) := by decide +kernel
theorem dX8_shownSet_27 : decode cX8_shownSet 27 = .ok (.ior, 1) := by decide +kernel
theorem dX8_shownSet_28 : decode cX8_shownSet 28 = .ok (.istore_n 1, 1) := by decide +kernel
theorem dX8_shownSet_29 : decode cX8_shownSet 29 = .ok (.iinc 2 1, 3) := by decide +kernel
theorem dX8_shownSet_32 : decode cX8_shownSet 32 = .ok (.goto (-28), 3) := by decide +kernel
theorem dX8_shownSet_35 : decode cX8_shownSet 35 = .ok (.iload_n 1, 1) := by decide +kernel
theorem dX8_shownSet_36 : decode cX8_shownSet 36 = .ok (.ireturn, 1) := by decide +kernel
def F_X8_shownSet_4  : Nat → Int32 → Int32 → eMem → Option (Int32 × eMem)
  | 0, _, _, _ => none
  | n + 1, v1, v2, M =>
    if v2 < (M.1 12 10) then
      (F_X8_isShown v2 M).bind fun q1 =>
      if q1.1 = 0 then
        F_X8_shownSet_4 n v1 (v2 + 1) q1.2
      else
        F_X8_shownSet_4 n (v1 ||| (1 <<< (v2 &&& 31))) (v2 + 1) q1.2
    else
      some (v1, M)
set_option maxRecDepth 100000 in
set_option maxHeartbeats 4000000 in
theorem ev_X8_shownSet_4  (q : (Int32 × eMem))  : ∀ (fuel : Nat) (v1 : Int32) (v2 : Int32) (M : eMem), F_X8_shownSet_4 fuel v1 v2 M = some q → Ev layC 4 m_X8_shownSet 4 [some (.ref 1), some (.int v1), some (.int v2)] [] M (some (.int q.1), q.2) := by
  intro fuel
  induction fuel with
  | zero => intro v1 v2 M h; rw [F_X8_shownSet_4] at h; cases h
  | succ n ih =>
    intro v1 v2 M h
    rw [F_X8_shownSet_4] at h
    refine Ev.iload_n (pc := 4) dX8_shownSet_4 rfl ?_
    refine Ev.aload_n (pc := 5) dX8_shownSet_5 rfl ?_
    refine Ev.getR (pc := 6) dX8_shownSet_6 fl_RX8_21 lC_1 rfl ?_
    refine Ev.getI (pc := 9) dX8_shownSet_9 fl_RX8_123 lC_12 rfl ?_
    refine Ev.icmp_ge (pc := 12) (tgt := 35) dX8_shownSet_12 (by decide) (fun c9 => ?_) (fun c9 => ?_)
    · have h := eF h c9
      refine Ev.iload_n (pc := 35) dX8_shownSet_35 rfl ?_
      obtain rfl := Option.some.inj h
      exact Ev.iret (pc := 36) dX8_shownSet_36 rfl rfl
    · have h := eT h c9
      refine Ev.aload_n (pc := 15) dX8_shownSet_15 rfl ?_
      refine Ev.iload_n (pc := 16) dX8_shownSet_16 rfl ?_
      refine eBk h (fun q1 hq1 h => ?_)
      refine Ev.callV (pc := 17) (as := [.int v2]) (st := []) (z := 0) dX8_shownSet_17 wc_X8_isShown ml_RX8_126 im_X8_isShown se_X8_isShown lC_1 rfl rfl (ev_X8_isShown v2 M _ hq1) rfl rfl (by decide) rfl rfl (Nat.le_of_ble_eq_true rfl) ?_
      refine Ev.if_eq (pc := 20) (tgt := 29) dX8_shownSet_20 (by decide) (fun c9 => ?_) (fun c9 => ?_)
      · have h := eT h c9
        refine Ev.iincv (pc := 29) dX8_shownSet_29 (v := 1) (by decide) rfl (by decide) rfl rfl ?_
        refine Ev.goto (pc := 32) (tgt := 4) dX8_shownSet_32 (by decide) ?_
        exact Ev.fg (ih _ _ _ h) (And.intro rfl (And.intro rfl (And.intro rfl trivial)))
      · have h := eF h c9
        refine Ev.iload_n (pc := 23) dX8_shownSet_23 rfl ?_
        refine Ev.iconst (pc := 24) dX8_shownSet_24 (v := 1) (by decide) ?_
        refine Ev.iload_n (pc := 25) dX8_shownSet_25 rfl ?_
        refine Ev.ishl (pc := 26) dX8_shownSet_26 ?_
        refine Ev.ior (pc := 27) dX8_shownSet_27 ?_
        refine Ev.istore_n (pc := 28) dX8_shownSet_28 (by decide) rfl rfl ?_
        refine Ev.iincv (pc := 29) dX8_shownSet_29 (v := 1) (by decide) rfl (by decide) rfl rfl ?_
        refine Ev.goto (pc := 32) (tgt := 4) dX8_shownSet_32 (by decide) ?_
        exact Ev.fg (ih _ _ _ h) (And.intro rfl (And.intro rfl (And.intro rfl trivial)))
def F_X8_shownSet  (M : eMem) : Option (Int32 × eMem) :=
  F_X8_shownSet_4 eFuel 0 0 M
set_option maxRecDepth 100000 in
set_option maxHeartbeats 4000000 in
theorem ev_X8_shownSet  (M : eMem) (q : (Int32 × eMem)) (h : F_X8_shownSet  M = some q) : Ev layC 4 m_X8_shownSet 0 [some (.ref 1), none, none] [] M (some (.int q.1), q.2) := by
  rw [F_X8_shownSet] at h
  refine Ev.iconst (pc := 0) dX8_shownSet_0 (v := 0) (by decide) ?_
  refine Ev.istore_n (pc := 1) dX8_shownSet_1 (by decide) rfl rfl ?_
  refine Ev.iconst (pc := 2) dX8_shownSet_2 (v := 0) (by decide) ?_
  refine Ev.istore_n (pc := 3) dX8_shownSet_3 (by decide) rfl rfl ?_
  exact Ev.fg (ev_X8_shownSet_4 _ _ _ _ _ h) (And.intro rfl (And.intro rfl (And.intro rfl trivial)))
theorem dX8_eyeOn_0 : decode cX8_eyeOn 0 = .ok (.aload_n 0, 1) := by decide +kernel
theorem dX8_eyeOn_1 : decode cX8_eyeOn 1 = .ok (.getfield 21, 3) := by decide +kernel
theorem dX8_eyeOn_4 : decode cX8_eyeOn 4 = .ok (.getfield 92, 3) := by decide +kernel
theorem dX8_eyeOn_7 : decode cX8_eyeOn 7 = .ok (.iload_n 1, 1) := by decide +kernel
theorem dX8_eyeOn_8 : decode cX8_eyeOn 8 = .ok (.iaload, 1) := by decide +kernel
theorem dX8_eyeOn_9 : decode cX8_eyeOn 9 = .ok (.aload_n 0, 1) := by decide +kernel
theorem dX8_eyeOn_10 : decode cX8_eyeOn 10 = .ok (.getfield 21, 3) := by decide +kernel
theorem dX8_eyeOn_13 : decode cX8_eyeOn 13 = .ok (.getfield 92, 3) := by decide +kernel
theorem dX8_eyeOn_16 : decode cX8_eyeOn 16 = .ok (.iload_n 2, 1) := by decide +kernel
theorem dX8_eyeOn_17 : decode cX8_eyeOn 17 = .ok (.iaload, 1) := by decide +kernel
theorem dX8_eyeOn_18 : decode cX8_eyeOn 18 = .ok (.if_icmp .ne 5, 3) := by decide +kernel
theorem dX8_eyeOn_21 : decode cX8_eyeOn 21 = .ok (.iconst (-1), 1) := by decide +kernel
theorem dX8_eyeOn_22 : decode cX8_eyeOn 22 = .ok (.ireturn, 1) := by decide +kernel
theorem dX8_eyeOn_23 : decode cX8_eyeOn 23 = .ok (.aload_n 0, 1) := by decide +kernel
theorem dX8_eyeOn_24 : decode cX8_eyeOn 24 = .ok (.getfield 21, 3) := by decide +kernel
theorem dX8_eyeOn_27 : decode cX8_eyeOn 27 = .ok (.getfield 98, 3) := by decide +kernel
theorem dX8_eyeOn_30 : decode cX8_eyeOn 30 = .ok (.iload_n 1, 1) := by decide +kernel
theorem dX8_eyeOn_31 : decode cX8_eyeOn 31 = .ok (.iaload, 1) := by decide +kernel
theorem dX8_eyeOn_32 : decode cX8_eyeOn 32 = .ok (.istore_n 3, 1) := by decide +kernel
theorem dX8_eyeOn_33 : decode cX8_eyeOn 33 = .ok (.aload_n 0, 1) := by decide +kernel
theorem dX8_eyeOn_34 : decode cX8_eyeOn 34 = .ok (.getfield 21, 3) := by decide +kernel
theorem dX8_eyeOn_37 : decode cX8_eyeOn 37 = .ok (.getfield 98, 3) := by decide +kernel
theorem dX8_eyeOn_40 : decode cX8_eyeOn 40 = .ok (.iload_n 2, 1) := by decide +kernel
theorem dX8_eyeOn_41 : decode cX8_eyeOn 41 = .ok (.iaload, 1) := by decide +kernel
theorem dX8_eyeOn_42 : decode cX8_eyeOn 42 = .ok (.istore 4, 2) := by decide +kernel
theorem dX8_eyeOn_44 : decode cX8_eyeOn 44 = .ok (.iload_n 3, 1) := by decide +kernel
theorem dX8_eyeOn_45 : decode cX8_eyeOn 45 = .ok (.iconst 2, 1) := by decide +kernel
theorem dX8_eyeOn_46 : decode cX8_eyeOn 46 = .ok (.if_icmp .gt 36, 3) := by decide +kernel
theorem dX8_eyeOn_49 : decode cX8_eyeOn 49 = .ok (.iload 4, 2) := by decide +kernel
theorem dX8_eyeOn_51 : decode cX8_eyeOn 51 = .ok (.iconst 2, 1) := by decide +kernel
theorem dX8_eyeOn_52 : decode cX8_eyeOn 52 = .ok (.if_icmp .gt 30, 3) := by decide +kernel
theorem dX8_eyeOn_55 : decode cX8_eyeOn 55 = .ok (.aload_n 0, 1) := by decide +kernel
theorem dX8_eyeOn_56 : decode cX8_eyeOn 56 = .ok (.getfield 21, 3) := by decide +kernel
theorem dX8_eyeOn_59 : decode cX8_eyeOn 59 = .ok (.getfield 95, 3) := by decide +kernel
theorem dX8_eyeOn_62 : decode cX8_eyeOn 62 = .ok (.iload_n 1, 1) := by decide +kernel
theorem dX8_eyeOn_63 : decode cX8_eyeOn 63 = .ok (.iaload, 1) := by decide +kernel
theorem dX8_eyeOn_64 : decode cX8_eyeOn 64 = .ok (.aload_n 0, 1) := by decide +kernel
theorem dX8_eyeOn_65 : decode cX8_eyeOn 65 = .ok (.getfield 21, 3) := by decide +kernel
theorem dX8_eyeOn_68 : decode cX8_eyeOn 68 = .ok (.getfield 95, 3) := by decide +kernel
theorem dX8_eyeOn_71 : decode cX8_eyeOn 71 = .ok (.iload_n 2, 1) := by decide +kernel
theorem dX8_eyeOn_72 : decode cX8_eyeOn 72 = .ok (.iaload, 1) := by decide +kernel
theorem dX8_eyeOn_73 : decode cX8_eyeOn 73 = .ok (.if_icmp .ne 7, 3) := by decide +kernel
theorem dX8_eyeOn_76 : decode cX8_eyeOn 76 = .ok (.iconst 0, 1) := by decide +kernel
theorem dX8_eyeOn_77 : decode cX8_eyeOn 77 = .ok (.goto 4, 3) := by decide +kernel
theorem dX8_eyeOn_80 : decode cX8_eyeOn 80 = .ok (.iconst (-1), 1) := by decide +kernel
theorem dX8_eyeOn_81 : decode cX8_eyeOn 81 = .ok (.ireturn, 1) := by decide +kernel
theorem dX8_eyeOn_82 : decode cX8_eyeOn 82 = .ok (.iload_n 3, 1) := by decide +kernel
theorem dX8_eyeOn_83 : decode cX8_eyeOn 83 = .ok (.iconst 3, 1) := by decide +kernel
theorem dX8_eyeOn_84 : decode cX8_eyeOn 84 = .ok (.if_icmp .ne 69, 3) := by decide +kernel
theorem dX8_eyeOn_87 : decode cX8_eyeOn 87 = .ok (.iload 4, 2) := by decide +kernel
theorem dX8_eyeOn_89 : decode cX8_eyeOn 89 = .ok (.iconst 3, 1) := by decide +kernel
theorem dX8_eyeOn_90 : decode cX8_eyeOn 90 = .ok (.if_icmp .ne 63, 3) := by decide +kernel
theorem dX8_eyeOn_93 : decode cX8_eyeOn 93 = .ok (.aload_n 0, 1) := by decide +kernel
theorem dX8_eyeOn_94 : decode cX8_eyeOn 94 = .ok (.getfield 21, 3) := by decide +kernel
theorem dX8_eyeOn_97 : decode cX8_eyeOn 97 = .ok (.getfield 130, 3) := by decide +kernel
theorem dX8_eyeOn_100 : decode cX8_eyeOn 100 = .ok (.iload_n 1, 1) := by decide +kernel
theorem dX8_eyeOn_101 : decode cX8_eyeOn 101 = .ok (.iaload, 1) := by decide +kernel
theorem dX8_eyeOn_102 : decode cX8_eyeOn 102 = .ok (.aload_n 0, 1) := by decide +kernel
theorem dX8_eyeOn_103 : decode cX8_eyeOn 103 = .ok (.getfield 21, 3) := by decide +kernel
theorem dX8_eyeOn_106 : decode cX8_eyeOn 106 = .ok (.getfield 165, 3) := by decide +kernel
theorem dX8_eyeOn_109 : decode cX8_eyeOn 109 = .ok (.iload_n 2, 1) := by decide +kernel
theorem dX8_eyeOn_110 : decode cX8_eyeOn 110 = .ok (.iaload, 1) := by decide +kernel
theorem dX8_eyeOn_111 : decode cX8_eyeOn 111 = .ok (.if_icmp .gt 28, 3) := by decide +kernel
theorem dX8_eyeOn_114 : decode cX8_eyeOn 114 = .ok (.aload_n 0, 1) := by decide +kernel
theorem dX8_eyeOn_115 : decode cX8_eyeOn 115 = .ok (.getfield 21, 3) := by decide +kernel
theorem dX8_eyeOn_118 : decode cX8_eyeOn 118 = .ok (.getfield 130, 3) := by decide +kernel
theorem dX8_eyeOn_121 : decode cX8_eyeOn 121 = .ok (.iload_n 2, 1) := by decide +kernel
theorem dX8_eyeOn_122 : decode cX8_eyeOn 122 = .ok (.iaload, 1) := by decide +kernel
theorem dX8_eyeOn_123 : decode cX8_eyeOn 123 = .ok (.aload_n 0, 1) := by decide +kernel
theorem dX8_eyeOn_124 : decode cX8_eyeOn 124 = .ok (.getfield 21, 3) := by decide +kernel
theorem dX8_eyeOn_127 : decode cX8_eyeOn 127 = .ok (.getfield 165, 3) := by decide +kernel
theorem dX8_eyeOn_130 : decode cX8_eyeOn 130 = .ok (.iload_n 1, 1) := by decide +kernel
theorem dX8_eyeOn_131 : decode cX8_eyeOn 131 = .ok (.iaload, 1) := by decide +kernel
theorem dX8_eyeOn_132 : decode cX8_eyeOn 132 = .ok (.if_icmp .gt 7, 3) := by decide +kernel
theorem dX8_eyeOn_135 : decode cX8_eyeOn 135 = .ok (.iconst 1, 1) := by decide +kernel
theorem dX8_eyeOn_136 : decode cX8_eyeOn 136 = .ok (.goto 4, 3) := by decide +kernel
theorem dX8_eyeOn_139 : decode cX8_eyeOn 139 = .ok (.iconst 0, 1) := by decide +kernel
theorem dX8_eyeOn_140 : decode cX8_eyeOn 140 = .ok (.istore 5, 2) := by decide +kernel
theorem dX8_eyeOn_142 : decode cX8_eyeOn 142 = .ok (.iload 5, 2) := by decide +kernel
theorem dX8_eyeOn_144 : decode cX8_eyeOn 144 = .ok (.ifCond .eq 7, 3) := by decide +kernel
theorem dX8_eyeOn_147 : decode cX8_eyeOn 147 = .ok (.iconst 1, 1) := by decide +kernel
theorem dX8_eyeOn_148 : decode cX8_eyeOn 148 = .ok (.goto 4, 3) := by decide +kernel
theorem dX8_eyeOn_151 : decode cX8_eyeOn 151 = .ok (.iconst (-1), 1) := by decide +kernel
theorem dX8_eyeOn_152 : decode cX8_eyeOn 152 = .ok (.ireturn, 1) := by decide +kernel
theorem dX8_eyeOn_153 : decode cX8_eyeOn 153 = .ok (.iload_n 3, 1) := by decide +kernel
theorem dX8_eyeOn_154 : decode cX8_eyeOn 154 = .ok (.iconst 4, 1) := by decide +kernel
theorem dX8_eyeOn_155 : decode cX8_eyeOn 155 = .ok (.if_icmp .ne 13, 3) := by decide +kernel
theorem dX8_eyeOn_158 : decode cX8_eyeOn 158 = .ok (.iload 4, 2) := by decide +kernel
theorem dX8_eyeOn_160 : decode cX8_eyeOn 160 = .ok (.iconst 4, 1) := by decide +kernel
theorem dX8_eyeOn_161 : decode cX8_eyeOn 161 = .ok (.if_icmp .ne 7, 3) := by decide +kernel
theorem dX8_eyeOn_164 : decode cX8_eyeOn 164 = .ok (.iconst 2, 1) := by decide +kernel
theorem dX8_eyeOn_165 : decode cX8_eyeOn 165 = .ok (.goto 4, 3) := by decide +kernel
theorem dX8_eyeOn_168 : decode cX8_eyeOn 168 = .ok (.iconst (-1), 1) := by decide +kernel
theorem dX8_eyeOn_169 : decode cX8_eyeOn 169 = .ok (.ireturn, 1) := by decide +kernel
def F_X8_eyeOn_153  (v3 : Int32) (v4 : Int32) (M : eMem) : Option Int32 :=
  if v3 = 4 then
    if v4 = 4 then
      some 2
    else
      some (-1)
  else
    some (-1)
set_option maxRecDepth 100000 in
set_option maxHeartbeats 4000000 in
theorem ev_X8_eyeOn_153  (q : Int32) (M : eMem)  (v3 : Int32) (v4 : Int32) (h : F_X8_eyeOn_153 v3 v4 M = some q) : Ev layC 0 m_X8_eyeOn 153 [none, none, none, some (.int v3), some (.int v4), none] [] M (some (.int q), M) := by
  rw [F_X8_eyeOn_153] at h
  refine Ev.iload_n (pc := 153) dX8_eyeOn_153 rfl ?_
  refine Ev.iconst (pc := 154) dX8_eyeOn_154 (v := 4) (by decide) ?_
  refine Ev.icmp_ne (pc := 155) (tgt := 168) dX8_eyeOn_155 (by decide) (fun c9 => ?_) (fun c9 => ?_)
  · have h := eF h c9
    refine Ev.iconst (pc := 168) dX8_eyeOn_168 (v := (-1)) (by decide) ?_
    obtain rfl := Option.some.inj h
    exact Ev.iret (pc := 169) dX8_eyeOn_169 rfl rfl
  · have h := eT h c9
    refine Ev.iload (pc := 158) dX8_eyeOn_158 rfl ?_
    refine Ev.iconst (pc := 160) dX8_eyeOn_160 (v := 4) (by decide) ?_
    refine Ev.icmp_ne (pc := 161) (tgt := 168) dX8_eyeOn_161 (by decide) (fun c9 => ?_) (fun c9 => ?_)
    · have h := eF h c9
      refine Ev.iconst (pc := 168) dX8_eyeOn_168 (v := (-1)) (by decide) ?_
      obtain rfl := Option.some.inj h
      exact Ev.iret (pc := 169) dX8_eyeOn_169 rfl rfl
    · have h := eT h c9
      refine Ev.iconst (pc := 164) dX8_eyeOn_164 (v := 2) (by decide) ?_
      refine Ev.goto (pc := 165) (tgt := 169) dX8_eyeOn_165 (by decide) ?_
      obtain rfl := Option.some.inj h
      exact Ev.iret (pc := 169) dX8_eyeOn_169 rfl rfl
def F_X8_eyeOn_140  (s0 : Int32) (M : eMem) : Option Int32 :=
  if s0 = 0 then
    some (-1)
  else
    some 1
set_option maxRecDepth 100000 in
set_option maxHeartbeats 4000000 in
theorem ev_X8_eyeOn_140  (q : Int32) (M : eMem)  (s0 : Int32) (h : F_X8_eyeOn_140 s0 M = some q) : Ev layC 0 m_X8_eyeOn 140 [none, none, none, none, none, none] [.int s0] M (some (.int q), M) := by
  rw [F_X8_eyeOn_140] at h
  refine Ev.istore (pc := 140) dX8_eyeOn_140 (by decide) rfl rfl ?_
  refine Ev.iload (pc := 142) dX8_eyeOn_142 rfl ?_
  refine Ev.if_eq (pc := 144) (tgt := 151) dX8_eyeOn_144 (by decide) (fun c9 => ?_) (fun c9 => ?_)
  · have h := eT h c9
    refine Ev.iconst (pc := 151) dX8_eyeOn_151 (v := (-1)) (by decide) ?_
    obtain rfl := Option.some.inj h
    exact Ev.iret (pc := 152) dX8_eyeOn_152 rfl rfl
  · have h := eF h c9
    refine Ev.iconst (pc := 147) dX8_eyeOn_147 (v := 1) (by decide) ?_
    refine Ev.goto (pc := 148) (tgt := 152) dX8_eyeOn_148 (by decide) ?_
    obtain rfl := Option.some.inj h
    exact Ev.iret (pc := 152) dX8_eyeOn_152 rfl rfl
def F_X8_eyeOn_139   (M : eMem) : Option Int32 :=
  F_X8_eyeOn_140 0 M
set_option maxRecDepth 100000 in
set_option maxHeartbeats 4000000 in
theorem ev_X8_eyeOn_139  (q : Int32) (M : eMem)   (h : F_X8_eyeOn_139 M = some q) : Ev layC 0 m_X8_eyeOn 139 [none, none, none, none, none, none] [] M (some (.int q), M) := by
  rw [F_X8_eyeOn_139] at h
  refine Ev.iconst (pc := 139) dX8_eyeOn_139 (v := 0) (by decide) ?_
  exact Ev.fg (ev_X8_eyeOn_140 _ _ _ h) trivial
def F_X8_eyeOn_82  (v1 : Int32) (v2 : Int32) (v3 : Int32) (v4 : Int32) (M : eMem) : Option Int32 :=
  if v3 = 3 then
    if v4 = 3 then
      eG (eIn v1 20) <|
      eG (eIn v2 20) <|
      if (M.1 17 v2.toNatClampNeg) < (M.1 16 v1.toNatClampNeg) then
        F_X8_eyeOn_139 M
      else
        eG (eIn v2 20) <|
        eG (eIn v1 20) <|
        if (M.1 17 v1.toNatClampNeg) < (M.1 16 v2.toNatClampNeg) then
          F_X8_eyeOn_139 M
        else
          F_X8_eyeOn_140 1 M
    else
      F_X8_eyeOn_153 v3 v4 M
  else
    F_X8_eyeOn_153 v3 v4 M
set_option maxRecDepth 100000 in
set_option maxHeartbeats 4000000 in
theorem ev_X8_eyeOn_82  (q : Int32) (M : eMem)  (v1 : Int32) (v2 : Int32) (v3 : Int32) (v4 : Int32) (h : F_X8_eyeOn_82 v1 v2 v3 v4 M = some q) : Ev layC 0 m_X8_eyeOn 82 [some (.ref 1), some (.int v1), some (.int v2), some (.int v3), some (.int v4), none] [] M (some (.int q), M) := by
  rw [F_X8_eyeOn_82] at h
  refine Ev.iload_n (pc := 82) dX8_eyeOn_82 rfl ?_
  refine Ev.iconst (pc := 83) dX8_eyeOn_83 (v := 3) (by decide) ?_
  refine Ev.icmp_ne (pc := 84) (tgt := 153) dX8_eyeOn_84 (by decide) (fun c9 => ?_) (fun c9 => ?_)
  · have h := eF h c9
    exact Ev.fg (ev_X8_eyeOn_153 _ _ _ _ h) (And.intro rfl (And.intro rfl trivial))
  · have h := eT h c9
    refine Ev.iload (pc := 87) dX8_eyeOn_87 rfl ?_
    refine Ev.iconst (pc := 89) dX8_eyeOn_89 (v := 3) (by decide) ?_
    refine Ev.icmp_ne (pc := 90) (tgt := 153) dX8_eyeOn_90 (by decide) (fun c9 => ?_) (fun c9 => ?_)
    · have h := eF h c9
      exact Ev.fg (ev_X8_eyeOn_153 _ _ _ _ h) (And.intro rfl (And.intro rfl trivial))
    · have h := eT h c9
      refine Ev.aload_n (pc := 93) dX8_eyeOn_93 rfl ?_
      refine Ev.getR (pc := 94) dX8_eyeOn_94 fl_RX8_21 lC_1 rfl ?_
      refine Ev.getR (pc := 97) dX8_eyeOn_97 fl_RX8_130 lC_12 rfl ?_
      refine Ev.iload_n (pc := 100) dX8_eyeOn_100 rfl ?_
      obtain ⟨g9, h⟩ := eGdB h
      refine Ev.ialdj (pc := 101) dX8_eyeOn_101 (j := v1.toNatClampNeg) lC_16 g9 rfl ?_
      refine Ev.aload_n (pc := 102) dX8_eyeOn_102 rfl ?_
      refine Ev.getR (pc := 103) dX8_eyeOn_103 fl_RX8_21 lC_1 rfl ?_
      refine Ev.getR (pc := 106) dX8_eyeOn_106 fl_RX8_165 lC_12 rfl ?_
      refine Ev.iload_n (pc := 109) dX8_eyeOn_109 rfl ?_
      obtain ⟨g9, h⟩ := eGdB h
      refine Ev.ialdj (pc := 110) dX8_eyeOn_110 (j := v2.toNatClampNeg) lC_17 g9 rfl ?_
      refine Ev.icmp_gt (pc := 111) (tgt := 139) dX8_eyeOn_111 (by decide) (fun c9 => ?_) (fun c9 => ?_)
      · have h := eT h c9
        exact Ev.fg (ev_X8_eyeOn_139 _ _ h) trivial
      · have h := eF h c9
        refine Ev.aload_n (pc := 114) dX8_eyeOn_114 rfl ?_
        refine Ev.getR (pc := 115) dX8_eyeOn_115 fl_RX8_21 lC_1 rfl ?_
        refine Ev.getR (pc := 118) dX8_eyeOn_118 fl_RX8_130 lC_12 rfl ?_
        refine Ev.iload_n (pc := 121) dX8_eyeOn_121 rfl ?_
        obtain ⟨g9, h⟩ := eGdB h
        refine Ev.ialdj (pc := 122) dX8_eyeOn_122 (j := v2.toNatClampNeg) lC_16 g9 rfl ?_
        refine Ev.aload_n (pc := 123) dX8_eyeOn_123 rfl ?_
        refine Ev.getR (pc := 124) dX8_eyeOn_124 fl_RX8_21 lC_1 rfl ?_
        refine Ev.getR (pc := 127) dX8_eyeOn_127 fl_RX8_165 lC_12 rfl ?_
        refine Ev.iload_n (pc := 130) dX8_eyeOn_130 rfl ?_
        obtain ⟨g9, h⟩ := eGdB h
        refine Ev.ialdj (pc := 131) dX8_eyeOn_131 (j := v1.toNatClampNeg) lC_17 g9 rfl ?_
        refine Ev.icmp_gt (pc := 132) (tgt := 139) dX8_eyeOn_132 (by decide) (fun c9 => ?_) (fun c9 => ?_)
        · have h := eT h c9
          exact Ev.fg (ev_X8_eyeOn_139 _ _ h) trivial
        · have h := eF h c9
          refine Ev.iconst (pc := 135) dX8_eyeOn_135 (v := 1) (by decide) ?_
          refine Ev.goto (pc := 136) (tgt := 140) dX8_eyeOn_136 (by decide) ?_
          exact Ev.fg (ev_X8_eyeOn_140 _ _ _ h) trivial
def F_X8_eyeOn (x1 : Int32) (x2 : Int32) (M : eMem) : Option Int32 :=
  eG (eIn x1 20) <|
  eG (eIn x2 20) <|
  if (M.1 14 x1.toNatClampNeg) = (M.1 14 x2.toNatClampNeg) then
    some (-1)
  else
    eG (eIn x1 20) <|
    eG (eIn x2 20) <|
    if 2 < (M.1 13 x1.toNatClampNeg) then
      F_X8_eyeOn_82 x1 x2 (M.1 13 x1.toNatClampNeg) (M.1 13 x2.toNatClampNeg) M
    else
      if 2 < (M.1 13 x2.toNatClampNeg) then
        F_X8_eyeOn_82 x1 x2 (M.1 13 x1.toNatClampNeg) (M.1 13 x2.toNatClampNeg) M
      else
        eG (eIn x1 20) <|
        eG (eIn x2 20) <|
        if (M.1 15 x1.toNatClampNeg) = (M.1 15 x2.toNatClampNeg) then
          some 0
        else
          some (-1)
set_option maxRecDepth 100000 in
set_option maxHeartbeats 4000000 in
theorem ev_X8_eyeOn (x1 : Int32) (x2 : Int32) (M : eMem) (q : Int32) (h : F_X8_eyeOn x1 x2 M = some q) : Ev layC 0 m_X8_eyeOn 0 [some (.ref 1), some (.int x1), some (.int x2), none, none, none] [] M (some (.int q), M) := by
  rw [F_X8_eyeOn] at h
  refine Ev.aload_n (pc := 0) dX8_eyeOn_0 rfl ?_
  refine Ev.getR (pc := 1) dX8_eyeOn_1 fl_RX8_21 lC_1 rfl ?_
  refine Ev.getR (pc := 4) dX8_eyeOn_4 fl_RX8_92 lC_12 rfl ?_
  refine Ev.iload_n (pc := 7) dX8_eyeOn_7 rfl ?_
  obtain ⟨g9, h⟩ := eGdB h
  refine Ev.ialdj (pc := 8) dX8_eyeOn_8 (j := x1.toNatClampNeg) lC_14 g9 rfl ?_
  refine Ev.aload_n (pc := 9) dX8_eyeOn_9 rfl ?_
  refine Ev.getR (pc := 10) dX8_eyeOn_10 fl_RX8_21 lC_1 rfl ?_
  refine Ev.getR (pc := 13) dX8_eyeOn_13 fl_RX8_92 lC_12 rfl ?_
  refine Ev.iload_n (pc := 16) dX8_eyeOn_16 rfl ?_
  obtain ⟨g9, h⟩ := eGdB h
  refine Ev.ialdj (pc := 17) dX8_eyeOn_17 (j := x2.toNatClampNeg) lC_14 g9 rfl ?_
  refine Ev.icmp_ne (pc := 18) (tgt := 23) dX8_eyeOn_18 (by decide) (fun c9 => ?_) (fun c9 => ?_)
  · have h := eF h c9
    refine Ev.aload_n (pc := 23) dX8_eyeOn_23 rfl ?_
    refine Ev.getR (pc := 24) dX8_eyeOn_24 fl_RX8_21 lC_1 rfl ?_
    refine Ev.getR (pc := 27) dX8_eyeOn_27 fl_RX8_98 lC_12 rfl ?_
    refine Ev.iload_n (pc := 30) dX8_eyeOn_30 rfl ?_
    obtain ⟨g9, h⟩ := eGdB h
    refine Ev.ialdj (pc := 31) dX8_eyeOn_31 (j := x1.toNatClampNeg) lC_13 g9 rfl ?_
    refine Ev.istore_n (pc := 32) dX8_eyeOn_32 (by decide) rfl rfl ?_
    refine Ev.aload_n (pc := 33) dX8_eyeOn_33 rfl ?_
    refine Ev.getR (pc := 34) dX8_eyeOn_34 fl_RX8_21 lC_1 rfl ?_
    refine Ev.getR (pc := 37) dX8_eyeOn_37 fl_RX8_98 lC_12 rfl ?_
    refine Ev.iload_n (pc := 40) dX8_eyeOn_40 rfl ?_
    obtain ⟨g9, h⟩ := eGdB h
    refine Ev.ialdj (pc := 41) dX8_eyeOn_41 (j := x2.toNatClampNeg) lC_13 g9 rfl ?_
    refine Ev.istore (pc := 42) dX8_eyeOn_42 (by decide) rfl rfl ?_
    refine Ev.iload_n (pc := 44) dX8_eyeOn_44 rfl ?_
    refine Ev.iconst (pc := 45) dX8_eyeOn_45 (v := 2) (by decide) ?_
    refine Ev.icmp_gt (pc := 46) (tgt := 82) dX8_eyeOn_46 (by decide) (fun c9 => ?_) (fun c9 => ?_)
    · have h := eT h c9
      exact Ev.fg (ev_X8_eyeOn_82 _ _ _ _ _ _ h) (And.intro rfl (And.intro rfl (And.intro rfl (And.intro rfl (And.intro rfl trivial)))))
    · have h := eF h c9
      refine Ev.iload (pc := 49) dX8_eyeOn_49 rfl ?_
      refine Ev.iconst (pc := 51) dX8_eyeOn_51 (v := 2) (by decide) ?_
      refine Ev.icmp_gt (pc := 52) (tgt := 82) dX8_eyeOn_52 (by decide) (fun c9 => ?_) (fun c9 => ?_)
      · have h := eT h c9
        exact Ev.fg (ev_X8_eyeOn_82 _ _ _ _ _ _ h) (And.intro rfl (And.intro rfl (And.intro rfl (And.intro rfl (And.intro rfl trivial)))))
      · have h := eF h c9
        refine Ev.aload_n (pc := 55) dX8_eyeOn_55 rfl ?_
        refine Ev.getR (pc := 56) dX8_eyeOn_56 fl_RX8_21 lC_1 rfl ?_
        refine Ev.getR (pc := 59) dX8_eyeOn_59 fl_RX8_95 lC_12 rfl ?_
        refine Ev.iload_n (pc := 62) dX8_eyeOn_62 rfl ?_
        obtain ⟨g9, h⟩ := eGdB h
        refine Ev.ialdj (pc := 63) dX8_eyeOn_63 (j := x1.toNatClampNeg) lC_15 g9 rfl ?_
        refine Ev.aload_n (pc := 64) dX8_eyeOn_64 rfl ?_
        refine Ev.getR (pc := 65) dX8_eyeOn_65 fl_RX8_21 lC_1 rfl ?_
        refine Ev.getR (pc := 68) dX8_eyeOn_68 fl_RX8_95 lC_12 rfl ?_
        refine Ev.iload_n (pc := 71) dX8_eyeOn_71 rfl ?_
        obtain ⟨g9, h⟩ := eGdB h
        refine Ev.ialdj (pc := 72) dX8_eyeOn_72 (j := x2.toNatClampNeg) lC_15 g9 rfl ?_
        refine Ev.icmp_ne (pc := 73) (tgt := 80) dX8_eyeOn_73 (by decide) (fun c9 => ?_) (fun c9 => ?_)
        · have h := eF h c9
          refine Ev.iconst (pc := 80) dX8_eyeOn_80 (v := (-1)) (by decide) ?_
          obtain rfl := Option.some.inj h
          exact Ev.iret (pc := 81) dX8_eyeOn_81 rfl rfl
        · have h := eT h c9
          refine Ev.iconst (pc := 76) dX8_eyeOn_76 (v := 0) (by decide) ?_
          refine Ev.goto (pc := 77) (tgt := 81) dX8_eyeOn_77 (by decide) ?_
          obtain rfl := Option.some.inj h
          exact Ev.iret (pc := 81) dX8_eyeOn_81 rfl rfl
  · have h := eT h c9
    refine Ev.iconst (pc := 21) dX8_eyeOn_21 (v := (-1)) (by decide) ?_
    obtain rfl := Option.some.inj h
    exact Ev.iret (pc := 22) dX8_eyeOn_22 rfl rfl
theorem dX8_collectPairs_0 : decode cX8_collectPairs 0 = .ok (.aload_n 0, 1) := by decide +kernel
theorem dX8_collectPairs_1 : decode cX8_collectPairs 1 = .ok (.invokevirtual 154, 3) := by decide +kernel
theorem dX8_collectPairs_4 : decode cX8_collectPairs 4 = .ok (.istore_n 1, 1) := by decide +kernel
theorem dX8_collectPairs_5 : decode cX8_collectPairs 5 = .ok (.iconst 0, 1) := by decide +kernel
theorem dX8_collectPairs_6 : decode cX8_collectPairs 6 = .ok (.istore_n 2, 1) := by decide +kernel
theorem dX8_collectPairs_7 : decode cX8_collectPairs 7 = .ok (.iconst 0, 1) := by decide +kernel
theorem dX8_collectPairs_8 : decode cX8_collectPairs 8 = .ok (.istore_n 3, 1) := by decide +kernel
theorem dX8_collectPairs_9 : decode cX8_collectPairs 9 = .ok (.iload_n 3, 1) := by decide +kernel
theorem dX8_collectPairs_10 : decode cX8_collectPairs 10 = .ok (.aload_n 0, 1) := by decide +kernel
theorem dX8_collectPairs_11 : decode cX8_collectPairs 11 = .ok (.getfield 21, 3) := by decide +kernel
theorem dX8_collectPairs_14 : decode cX8_collectPairs 14 = .ok (.getfield 123, 3) := by decide +kernel
theorem dX8_collectPairs_17 : decode cX8_collectPairs 17 = .ok (.if_icmp .ge 98, 3) := by decide +kernel
theorem dX8_collectPairs_20 : decode cX8_collectPairs 20 = .ok (.iload_n 3, 1) := by decide +kernel
theorem dX8_collectPairs_21 : decode cX8_collectPairs 21 = .ok (.iconst 1, 1) := by decide +kernel
theorem dX8_collectPairs_22 : decode cX8_collectPairs 22 = .ok (.iadd, 1) := by decide +kernel
theorem dX8_collectPairs_23 : decode cX8_collectPairs 23 = .ok (.istore 4, 2) := by decide +kernel
theorem dX8_collectPairs_25 : decode cX8_collectPairs 25 = .ok (.iload 4, 2) := by decide +kernel
theorem dX8_collectPairs_27 : decode cX8_collectPairs 27 = .ok (.aload_n 0, 1) := by decide +kernel
theorem dX8_collectPairs_28 : decode cX8_collectPairs 28 = .ok (.getfield 21, 3) := by decide +kernel
theorem dX8_collectPairs_31 : decode cX8_collectPairs 31 = .ok (.getfield 123, 3) := by decide +kernel
theorem dX8_collectPairs_34 : decode cX8_collectPairs 34 = .ok (.if_icmp .ge 75, 3) := by decide +kernel
theorem dX8_collectPairs_37 : decode cX8_collectPairs 37 = .ok (.iload_n 1, 1) := by decide +kernel
theorem dX8_collectPairs_38 : decode cX8_collectPairs 38 = .ok (.iload_n 3, 1) := by decide +kernel
theorem dX8_collectPairs_39 : decode cX8_collectPairs 39 = .ok (.ishr, 1) := by decide +kernel
theorem dX8_collectPairs_40 : decode cX8_collectPairs 40 = .ok (.iload_n 1, 1) := by decide +kernel
theorem dX8_collectPairs_41 : decode cX8_collectPairs 41 = .ok (.iload 4, 2) := by decide +kernel
theorem dX8_collectPairs_43 : decode cX8_collectPairs 43 = .ok (.ishr, 1) := by decide +kernel
theorem dX8_collectPairs_44 : decode cX8_collectPairs 44 = .ok (.iand, 1) := by decide +kernel
theorem dX8_collectPairs_45 : decode cX8_collectPairs 45 = .ok (.iconst 1, 1) := by decide +kernel
theorem dX8_collectPairs_46 : decode cX8_collectPairs 46 = .ok (.iand, 1) := by decide +kernel
theorem dX8_collectPairs_47 : decode cX8_collectPairs 47 = .ok (.ifCond .ne 6, 3) := by decide +kernel
theorem dX8_collectPairs_50 : decode cX8_collectPairs 50 = .ok (.goto 53, 3) := by decide +kernel
theorem dX8_collectPairs_53 : decode cX8_collectPairs 53 = .ok (.aload_n 0, 1) := by decide +kernel
theorem dX8_collectPairs_54 : decode cX8_collectPairs 54 = .ok (.iload_n 3, 1) := by decide +kernel
theorem dX8_collectPairs_55 : decode cX8_collectPairs 55 = .ok (.iload 4, 2) := by decide +kernel
theorem dX8_collectPairs_57 : decode cX8_collectPairs 57 = .ok (.invokevirtual 158, 3) := by decide +kernel
theorem dX8_collectPairs_60 : decode cX8_collectPairs 60 = .ok (.istore 5, 2) := by decide +kernel
theorem dX8_collectPairs_62 : decode cX8_collectPairs 62 = .ok (.iload 5, 2) := by decide +kernel
theorem dX8_collectPairs_64 : decode cX8_collectPairs 64 = .ok (.iconst (-1), 1) := by decide +kernel
theorem dX8_collectPairs_65 : decode cX8_collectPairs 65 = .ok (.if_icmp .eq 38, 3) := by decide +kernel
theorem dX8_collectPairs_68 : decode cX8_collectPairs 68 = .ok (.iload_n 2, 1) := by decide +kernel
theorem dX8_collectPairs_69 : decode cX8_collectPairs 69 = .ok (.sipush 190, 3) := by decide +kernel
theorem dX8_collectPairs_72 : decode cX8_collectPairs 72 = .ok (.invokestatic 162, 3) := by decide +kernel
theorem dX8_collectPairs_75 : decode cX8_collectPairs 75 = .ok (.ifCond .ne 6, 3) := by decide +kernel
theorem dX8_collectPairs_78 : decode cX8_collectPairs 78 = .ok (.goto 25, 3) := by decide +kernel
theorem dX8_collectPairs_81 : decode cX8_collectPairs 81 = .ok (.aload_n 0, 1) := by decide +kernel
theorem dX8_collectPairs_82 : decode cX8_collectPairs 82 = .ok (.getfield 50, 3) := by decide +kernel
theorem dX8_collectPairs_85 : decode cX8_collectPairs 85 = .ok (.iload_n 2, 1) := by decide +kernel
theorem dX8_collectPairs_86 : decode cX8_collectPairs 86 = .ok (.iload 5, 2) := by decide +kernel
theorem dX8_collectPairs_88 : decode cX8_collectPairs 88 = .ok (.bipush 20, 2) := by decide +kernel
theorem dX8_collectPairs_90 : decode cX8_collectPairs 90 = .ok (.imul, 1) := by decide +kernel
theorem dX8_collectPairs_91 : decode cX8_collectPairs 91 = .ok (.iload_n 3, 1) := by decide +kernel
theorem dX8_collectPairs_92 : decode cX8_collectPairs 92 = .ok (.iadd, 1) := by decide +kernel
theorem dX8_collectPairs_93 : decode cX8_collectPairs 93 = .ok (.bipush 20, 2) := by decide +kernel
theorem dX8_collectPairs_95 : decode cX8_collectPairs 95 = .ok (.imul, 1) := by decide +kernel
theorem dX8_collectPairs_96 : decode cX8_collectPairs 96 = .ok (.iload 4, 2) := by decide +kernel
theorem dX8_collectPairs_98 : decode cX8_collectPairs 98 = .ok (.iadd, 1) := by decide +kernel
theorem dX8_collectPairs_99 : decode cX8_collectPairs 99 = .ok (.iastore, 1) := by decide +kernel
theorem dX8_collectPairs_100 : decode cX8_collectPairs 100 = .ok (.iinc 2 1, 3) := by decide +kernel
theorem dX8_collectPairs_103 : decode cX8_collectPairs 103 = .ok (.iinc 4 1, 3) := by decide +kernel
theorem dX8_collectPairs_106 : decode cX8_collectPairs 106 = .ok (.goto (-81), 3) := by decide +kernel
theorem dX8_collectPairs_109 : decode cX8_collectPairs 109 = .ok (.iinc 3 1, 3) := by decide +kernel
theorem dX8_collectPairs_112 : decode cX8_collectPairs 112 = .ok (.goto (-103), 3) := by decide +kernel
theorem dX8_collectPairs_115 : decode cX8_collectPairs 115 = .ok (.iload_n 2, 1) := by decide +kernel
theorem dX8_collectPairs_116 : decode cX8_collectPairs 116 = .ok (.ireturn, 1) := by decide +kernel
def F_X8_collectPairs_25 (K109 : Int32 → Int32 → Int32 → eMem → Option (Int32 × eMem)) : Nat → Int32 → Int32 → Int32 → Int32 → eMem → Option (Int32 × eMem)
  | 0, _, _, _, _, _ => none
  | n + 1, v1, v2, v3, v4, M =>
    if v4 < (M.1 12 10) then
      if (((v1 >>> (v3 &&& 31)) &&& (v1 >>> (v4 &&& 31))) &&& 1) = 0 then
        F_X8_collectPairs_25 K109 n v1 v2 v3 (v4 + 1) M
      else
        (F_X8_eyeOn v3 v4 M).bind fun q2 =>
        if q2 = (-1) then
          F_X8_collectPairs_25 K109 n v1 v2 v3 (v4 + 1) M
        else
          (F_X9_isIn v2 190).bind fun q3 =>
          if q3 = 0 then
            F_X8_collectPairs_25 K109 n v1 v2 v3 (v4 + 1) M
          else
            eG (eIn v2 190) <|
            F_X8_collectPairs_25 K109 n v1 (v2 + 1) v3 (v4 + 1) (eI M 54 v2.toNatClampNeg ((((q2 * 20) + v3) * 20) + v4))
    else
      K109 v1 v2 v3 M
set_option maxRecDepth 100000 in
set_option maxHeartbeats 4000000 in
theorem ev_X8_collectPairs_25 (K109 : Int32 → Int32 → Int32 → eMem → Option (Int32 × eMem)) (q : (Int32 × eMem)) (hK109 : ∀ (v1 : Int32) (v2 : Int32) (v3 : Int32) (M : eMem), K109 v1 v2 v3 M = some q → Ev layC 5 m_X8_collectPairs 109 [some (.ref 1), some (.int v1), some (.int v2), some (.int v3), none, none] [] M (some (.int q.1), q.2)) : ∀ (fuel : Nat) (v1 : Int32) (v2 : Int32) (v3 : Int32) (v4 : Int32) (M : eMem), F_X8_collectPairs_25 K109 fuel v1 v2 v3 v4 M = some q → Ev layC 5 m_X8_collectPairs 25 [some (.ref 1), some (.int v1), some (.int v2), some (.int v3), some (.int v4), none] [] M (some (.int q.1), q.2) := by
  intro fuel
  induction fuel with
  | zero => intro v1 v2 v3 v4 M h; rw [F_X8_collectPairs_25] at h; cases h
  | succ n ih =>
    intro v1 v2 v3 v4 M h
    rw [F_X8_collectPairs_25] at h
    refine Ev.iload (pc := 25) dX8_collectPairs_25 rfl ?_
    refine Ev.aload_n (pc := 27) dX8_collectPairs_27 rfl ?_
    refine Ev.getR (pc := 28) dX8_collectPairs_28 fl_RX8_21 lC_1 rfl ?_
    refine Ev.getI (pc := 31) dX8_collectPairs_31 fl_RX8_123 lC_12 rfl ?_
    refine Ev.icmp_ge (pc := 34) (tgt := 109) dX8_collectPairs_34 (by decide) (fun c9 => ?_) (fun c9 => ?_)
    · have h := eF h c9
      exact Ev.fg (hK109 _ _ _ _ h) (And.intro rfl (And.intro rfl (And.intro rfl (And.intro rfl trivial))))
    · have h := eT h c9
      refine Ev.iload_n (pc := 37) dX8_collectPairs_37 rfl ?_
      refine Ev.iload_n (pc := 38) dX8_collectPairs_38 rfl ?_
      refine Ev.ishr (pc := 39) dX8_collectPairs_39 ?_
      refine Ev.iload_n (pc := 40) dX8_collectPairs_40 rfl ?_
      refine Ev.iload (pc := 41) dX8_collectPairs_41 rfl ?_
      refine Ev.ishr (pc := 43) dX8_collectPairs_43 ?_
      refine Ev.iand (pc := 44) dX8_collectPairs_44 ?_
      refine Ev.iconst (pc := 45) dX8_collectPairs_45 (v := 1) (by decide) ?_
      refine Ev.iand (pc := 46) dX8_collectPairs_46 ?_
      refine Ev.if_ne (pc := 47) (tgt := 53) dX8_collectPairs_47 (by decide) (fun c9 => ?_) (fun c9 => ?_)
      · have h := eF h c9
        refine Ev.aload_n (pc := 53) dX8_collectPairs_53 rfl ?_
        refine Ev.iload_n (pc := 54) dX8_collectPairs_54 rfl ?_
        refine Ev.iload (pc := 55) dX8_collectPairs_55 rfl ?_
        refine eBk h (fun q2 hq2 h => ?_)
        refine Ev.callV (pc := 57) (as := [.int v3, .int v4]) (st := []) (z := 3) dX8_collectPairs_57 wc_X8_eyeOn ml_RX8_158 im_X8_eyeOn se_X8_eyeOn lC_1 rfl rfl (ev_X8_eyeOn v3 v4 M _ hq2) rfl rfl (by decide) rfl rfl (Nat.le_of_ble_eq_true rfl) ?_
        refine Ev.istore (pc := 60) dX8_collectPairs_60 (by decide) rfl rfl ?_
        refine Ev.iload (pc := 62) dX8_collectPairs_62 rfl ?_
        refine Ev.iconst (pc := 64) dX8_collectPairs_64 (v := (-1)) (by decide) ?_
        refine Ev.icmp_eq (pc := 65) (tgt := 103) dX8_collectPairs_65 (by decide) (fun c9 => ?_) (fun c9 => ?_)
        · have h := eT h c9
          refine Ev.iincv (pc := 103) dX8_collectPairs_103 (v := 1) (by decide) rfl (by decide) rfl rfl ?_
          refine Ev.goto (pc := 106) (tgt := 25) dX8_collectPairs_106 (by decide) ?_
          exact Ev.fg (ih _ _ _ _ _ h) (And.intro rfl (And.intro rfl (And.intro rfl (And.intro rfl (And.intro rfl trivial)))))
        · have h := eF h c9
          refine Ev.iload_n (pc := 68) dX8_collectPairs_68 rfl ?_
          refine Ev.sipush (pc := 69) dX8_collectPairs_69 (v := 190) (by decide) ?_
          refine eBk h (fun q3 hq3 h => ?_)
          refine Ev.callSN (host := "GhostCoast") (pc := 72) (as := [.int v2, .int 190]) (st := []) (z := 0) dX8_collectPairs_72 wc_X9_isIn mn_RX8_162 sm_X9_isIn (ev_X9_isIn v2 190 M _ hq3) rfl rfl (by decide) rfl rfl (Nat.le_of_ble_eq_true rfl) ?_
          refine Ev.if_ne (pc := 75) (tgt := 81) dX8_collectPairs_75 (by decide) (fun c9 => ?_) (fun c9 => ?_)
          · have h := eF h c9
            refine Ev.aload_n (pc := 81) dX8_collectPairs_81 rfl ?_
            refine Ev.getR (pc := 82) dX8_collectPairs_82 fl_RX8_50 lC_1 rfl ?_
            refine Ev.iload_n (pc := 85) dX8_collectPairs_85 rfl ?_
            refine Ev.iload (pc := 86) dX8_collectPairs_86 rfl ?_
            refine Ev.bipush (pc := 88) dX8_collectPairs_88 (v := 20) (by decide) ?_
            refine Ev.imul (pc := 90) dX8_collectPairs_90 ?_
            refine Ev.iload_n (pc := 91) dX8_collectPairs_91 rfl ?_
            refine Ev.iadd (pc := 92) dX8_collectPairs_92 ?_
            refine Ev.bipush (pc := 93) dX8_collectPairs_93 (v := 20) (by decide) ?_
            refine Ev.imul (pc := 95) dX8_collectPairs_95 ?_
            refine Ev.iload (pc := 96) dX8_collectPairs_96 rfl ?_
            refine Ev.iadd (pc := 98) dX8_collectPairs_98 ?_
            obtain ⟨g9, h⟩ := eGdB h
            refine Ev.iastj (pc := 99) dX8_collectPairs_99 (j := v2.toNatClampNeg) lC_54 g9 rfl ?_
            refine Ev.iincv (pc := 100) dX8_collectPairs_100 (v := 1) (by decide) rfl (by decide) rfl rfl ?_
            refine Ev.iincv (pc := 103) dX8_collectPairs_103 (v := 1) (by decide) rfl (by decide) rfl rfl ?_
            refine Ev.goto (pc := 106) (tgt := 25) dX8_collectPairs_106 (by decide) ?_
            exact Ev.fg (ih _ _ _ _ _ h) (And.intro rfl (And.intro rfl (And.intro rfl (And.intro rfl (And.intro rfl trivial)))))
          · have h := eT h c9
            refine Ev.goto (pc := 78) (tgt := 103) dX8_collectPairs_78 (by decide) ?_
            refine Ev.iincv (pc := 103) dX8_collectPairs_103 (v := 1) (by decide) rfl (by decide) rfl rfl ?_
            refine Ev.goto (pc := 106) (tgt := 25) dX8_collectPairs_106 (by decide) ?_
            exact Ev.fg (ih _ _ _ _ _ h) (And.intro rfl (And.intro rfl (And.intro rfl (And.intro rfl (And.intro rfl trivial)))))
      · have h := eT h c9
        refine Ev.goto (pc := 50) (tgt := 103) dX8_collectPairs_50 (by decide) ?_
        refine Ev.iincv (pc := 103) dX8_collectPairs_103 (v := 1) (by decide) rfl (by decide) rfl rfl ?_
        refine Ev.goto (pc := 106) (tgt := 25) dX8_collectPairs_106 (by decide) ?_
        exact Ev.fg (ih _ _ _ _ _ h) (And.intro rfl (And.intro rfl (And.intro rfl (And.intro rfl (And.intro rfl trivial)))))
def F_X8_collectPairs_9  : Nat → Int32 → Int32 → Int32 → eMem → Option (Int32 × eMem)
  | 0, _, _, _, _ => none
  | n + 1, v1, v2, v3, M =>
    if v3 < (M.1 12 10) then
      F_X8_collectPairs_25
        (fun v1 v2 v3 M =>
          F_X8_collectPairs_9 n v1 v2 (v3 + 1) M)
        eFuel v1 v2 v3 (v3 + 1) M
    else
      some (v2, M)
set_option maxRecDepth 100000 in
set_option maxHeartbeats 4000000 in
theorem ev_X8_collectPairs_9  (q : (Int32 × eMem))  : ∀ (fuel : Nat) (v1 : Int32) (v2 : Int32) (v3 : Int32) (M : eMem), F_X8_collectPairs_9 fuel v1 v2 v3 M = some q → Ev layC 5 m_X8_collectPairs 9 [some (.ref 1), some (.int v1), some (.int v2), some (.int v3), none, none] [] M (some (.int q.1), q.2) := by
  intro fuel
  induction fuel with
  | zero => intro v1 v2 v3 M h; rw [F_X8_collectPairs_9] at h; cases h
  | succ n ih =>
    intro v1 v2 v3 M h
    rw [F_X8_collectPairs_9] at h
    refine Ev.iload_n (pc := 9) dX8_collectPairs_9 rfl ?_
    refine Ev.aload_n (pc := 10) dX8_collectPairs_10 rfl ?_
    refine Ev.getR (pc := 11) dX8_collectPairs_11 fl_RX8_21 lC_1 rfl ?_
    refine Ev.getI (pc := 14) dX8_collectPairs_14 fl_RX8_123 lC_12 rfl ?_
    refine Ev.icmp_ge (pc := 17) (tgt := 115) dX8_collectPairs_17 (by decide) (fun c9 => ?_) (fun c9 => ?_)
    · have h := eF h c9
      refine Ev.iload_n (pc := 115) dX8_collectPairs_115 rfl ?_
      obtain rfl := Option.some.inj h
      exact Ev.iret (pc := 116) dX8_collectPairs_116 rfl rfl
    · have h := eT h c9
      refine Ev.iload_n (pc := 20) dX8_collectPairs_20 rfl ?_
      refine Ev.iconst (pc := 21) dX8_collectPairs_21 (v := 1) (by decide) ?_
      refine Ev.iadd (pc := 22) dX8_collectPairs_22 ?_
      refine Ev.istore (pc := 23) dX8_collectPairs_23 (by decide) rfl rfl ?_
      refine Ev.fg (ev_X8_collectPairs_25 _ _ ?_ _ _ _ _ _ _ h) (And.intro rfl (And.intro rfl (And.intro rfl (And.intro rfl (And.intro rfl trivial)))))
      · intro v1 v2 v3 M h
        refine Ev.iincv (pc := 109) dX8_collectPairs_109 (v := 1) (by decide) rfl (by decide) rfl rfl ?_
        refine Ev.goto (pc := 112) (tgt := 9) dX8_collectPairs_112 (by decide) ?_
        exact Ev.fg (ih _ _ _ _ h) (And.intro rfl (And.intro rfl (And.intro rfl (And.intro rfl trivial))))
def F_X8_collectPairs  (M : eMem) : Option (Int32 × eMem) :=
  (F_X8_shownSet M).bind fun q1 =>
  F_X8_collectPairs_9 eFuel q1.1 0 0 q1.2
set_option maxRecDepth 100000 in
set_option maxHeartbeats 4000000 in
theorem ev_X8_collectPairs  (M : eMem) (q : (Int32 × eMem)) (h : F_X8_collectPairs  M = some q) : Ev layC 5 m_X8_collectPairs 0 [some (.ref 1), none, none, none, none, none] [] M (some (.int q.1), q.2) := by
  rw [F_X8_collectPairs] at h
  refine Ev.aload_n (pc := 0) dX8_collectPairs_0 rfl ?_
  refine eBk h (fun q1 hq1 h => ?_)
  refine Ev.callV (pc := 1) (as := []) (st := []) (z := 2) dX8_collectPairs_1 wc_X8_shownSet ml_RX8_154 im_X8_shownSet se_X8_shownSet lC_1 rfl rfl (ev_X8_shownSet  M _ hq1) rfl rfl (by decide) rfl rfl (Nat.le_of_ble_eq_true rfl) ?_
  refine Ev.istore_n (pc := 4) dX8_collectPairs_4 (by decide) rfl rfl ?_
  refine Ev.iconst (pc := 5) dX8_collectPairs_5 (v := 0) (by decide) ?_
  refine Ev.istore_n (pc := 6) dX8_collectPairs_6 (by decide) rfl rfl ?_
  refine Ev.iconst (pc := 7) dX8_collectPairs_7 (v := 0) (by decide) ?_
  refine Ev.istore_n (pc := 8) dX8_collectPairs_8 (by decide) rfl rfl ?_
  exact Ev.fg (ev_X8_collectPairs_9 _ _ _ _ _ _ h) (And.intro rfl (And.intro rfl (And.intro rfl (And.intro rfl trivial))))
theorem dX8_lesserOf_0 : decode cX8_lesserOf 0 = .ok (.iload_n 0, 1) := by decide +kernel
theorem dX8_lesserOf_1 : decode cX8_lesserOf 1 = .ok (.bipush 20, 2) := by decide +kernel
theorem dX8_lesserOf_3 : decode cX8_lesserOf 3 = .ok (.idiv, 1) := by decide +kernel
theorem dX8_lesserOf_4 : decode cX8_lesserOf 4 = .ok (.bipush 20, 2) := by decide +kernel
theorem dX8_lesserOf_6 : decode cX8_lesserOf 6 = .ok (.irem, 1) := by decide +kernel
theorem dX8_lesserOf_7 : decode cX8_lesserOf 7 = .ok (.ireturn, 1) := by decide +kernel
def F_X8_lesserOf (x0 : Int32) : Option Int32 :=
  some ((x0 / 20) - (x0 / 20) / 20 * 20)
set_option maxRecDepth 100000 in
set_option maxHeartbeats 4000000 in
theorem ev_X8_lesserOf {lay : List eLC} (x0 : Int32) (M : eMem) (q : Int32) (h : F_X8_lesserOf x0 = some q) : Ev lay 0 m_X8_lesserOf 0 [some (.int x0)] [] M (some (.int q), M) := by
  rw [F_X8_lesserOf] at h
  refine Ev.iload_n (pc := 0) dX8_lesserOf_0 rfl ?_
  refine Ev.bipush (pc := 1) dX8_lesserOf_1 (v := 20) (by decide) ?_
  refine Ev.idiv (pc := 3) dX8_lesserOf_3 (by decide) ?_
  refine Ev.bipush (pc := 4) dX8_lesserOf_4 (v := 20) (by decide) ?_
  refine Ev.irem (pc := 6) dX8_lesserOf_6 (by decide) ?_
  obtain rfl := Option.some.inj h
  exact Ev.iret (pc := 7) dX8_lesserOf_7 rfl rfl
theorem dX8_greaterOf_0 : decode cX8_greaterOf 0 = .ok (.iload_n 0, 1) := by decide +kernel
theorem dX8_greaterOf_1 : decode cX8_greaterOf 1 = .ok (.bipush 20, 2) := by decide +kernel
theorem dX8_greaterOf_3 : decode cX8_greaterOf 3 = .ok (.irem, 1) := by decide +kernel
theorem dX8_greaterOf_4 : decode cX8_greaterOf 4 = .ok (.ireturn, 1) := by decide +kernel
def F_X8_greaterOf (x0 : Int32) : Option Int32 :=
  some (x0 - x0 / 20 * 20)
set_option maxRecDepth 100000 in
set_option maxHeartbeats 4000000 in
theorem ev_X8_greaterOf {lay : List eLC} (x0 : Int32) (M : eMem) (q : Int32) (h : F_X8_greaterOf x0 = some q) : Ev lay 0 m_X8_greaterOf 0 [some (.int x0)] [] M (some (.int q), M) := by
  rw [F_X8_greaterOf] at h
  refine Ev.iload_n (pc := 0) dX8_greaterOf_0 rfl ?_
  refine Ev.bipush (pc := 1) dX8_greaterOf_1 (v := 20) (by decide) ?_
  refine Ev.irem (pc := 3) dX8_greaterOf_3 (by decide) ?_
  obtain rfl := Option.some.inj h
  exact Ev.iret (pc := 4) dX8_greaterOf_4 rfl rfl
theorem dX8_eyeOf_0 : decode cX8_eyeOf 0 = .ok (.iload_n 0, 1) := by decide +kernel
theorem dX8_eyeOf_1 : decode cX8_eyeOf 1 = .ok (.sipush 400, 3) := by decide +kernel
theorem dX8_eyeOf_4 : decode cX8_eyeOf 4 = .ok (.idiv, 1) := by decide +kernel
theorem dX8_eyeOf_5 : decode cX8_eyeOf 5 = .ok (.ireturn, 1) := by decide +kernel
def F_X8_eyeOf (x0 : Int32) : Option Int32 :=
  some (x0 / 400)
set_option maxRecDepth 100000 in
set_option maxHeartbeats 4000000 in
theorem ev_X8_eyeOf {lay : List eLC} (x0 : Int32) (M : eMem) (q : Int32) (h : F_X8_eyeOf x0 = some q) : Ev lay 0 m_X8_eyeOf 0 [some (.int x0)] [] M (some (.int q), M) := by
  rw [F_X8_eyeOf] at h
  refine Ev.iload_n (pc := 0) dX8_eyeOf_0 rfl ?_
  refine Ev.sipush (pc := 1) dX8_eyeOf_1 (v := 400) (by decide) ?_
  refine Ev.idiv (pc := 4) dX8_eyeOf_4 (by decide) ?_
  obtain rfl := Option.some.inj h
  exact Ev.iret (pc := 5) dX8_eyeOf_5 rfl rfl
theorem dX9_agree_0 : decode cX9_agree 0 = .ok (.aload_n 0, 1) := by decide +kernel
theorem dX9_agree_1 : decode cX9_agree 1 = .ok (.getfield 12, 3) := by decide +kernel
theorem dX9_agree_4 : decode cX9_agree 4 = .ok (.invokevirtual 326, 3) := by decide +kernel
theorem dX9_agree_7 : decode cX9_agree 7 = .ok (.istore_n 3, 1) := by decide +kernel
theorem dX9_agree_8 : decode cX9_agree 8 = .ok (.iload_n 1, 1) := by decide +kernel
theorem dX9_agree_9 : decode cX9_agree 9 = .ok (.iload_n 3, 1) := by decide +kernel
theorem dX9_agree_10 : decode cX9_agree 10 = .ok (.invokestatic 37, 3) := by decide +kernel
theorem dX9_agree_13 : decode cX9_agree 13 = .ok (.ifCond .ne 10, 3) := by decide +kernel
theorem dX9_agree_16 : decode cX9_agree 16 = .ok (.aload_n 0, 1) := by decide +kernel
theorem dX9_agree_17 : decode cX9_agree 17 = .ok (.ldc 41, 2) := by decide +kernel
theorem dX9_agree_19 : decode cX9_agree 19 = .ok (.invokevirtual 42, 3) := by decide +kernel
theorem dX9_agree_22 : decode cX9_agree 22 = .ok (.ireturn, 1) := by decide +kernel
theorem dX9_agree_23 : decode cX9_agree 23 = .ok (.aload_n 0, 1) := by decide +kernel
theorem dX9_agree_24 : decode cX9_agree 24 = .ok (.getfield 12, 3) := by decide +kernel
theorem dX9_agree_27 : decode cX9_agree 27 = .ok (.getfield 329, 3) := by decide +kernel
theorem dX9_agree_30 : decode cX9_agree 30 = .ok (.iload_n 1, 1) := by decide +kernel
theorem dX9_agree_31 : decode cX9_agree 31 = .ok (.iaload, 1) := by decide +kernel
theorem dX9_agree_32 : decode cX9_agree 32 = .ok (.istore 4, 2) := by decide +kernel
theorem dX9_agree_34 : decode cX9_agree 34 = .ok (.iload_n 2, 1) := by decide +kernel
theorem dX9_agree_35 : decode cX9_agree 35 = .ok (.tableswitch 43 0 2 #[25, 31, 37], 25) := by decide +kernel
theorem dX9_agree_60 : decode cX9_agree 60 = .ok (.iload 4, 2) := by decide +kernel
theorem dX9_agree_62 : decode cX9_agree 62 = .ok (.invokestatic 332, 3) := by decide +kernel
theorem dX9_agree_65 : decode cX9_agree 65 = .ok (.ireturn, 1) := by decide +kernel
theorem dX9_agree_66 : decode cX9_agree 66 = .ok (.iload 4, 2) := by decide +kernel
theorem dX9_agree_68 : decode cX9_agree 68 = .ok (.invokestatic 335, 3) := by decide +kernel
theorem dX9_agree_71 : decode cX9_agree 71 = .ok (.ireturn, 1) := by decide +kernel
theorem dX9_agree_72 : decode cX9_agree 72 = .ok (.iload 4, 2) := by decide +kernel
theorem dX9_agree_74 : decode cX9_agree 74 = .ok (.invokestatic 338, 3) := by decide +kernel
theorem dX9_agree_77 : decode cX9_agree 77 = .ok (.ireturn, 1) := by decide +kernel
theorem dX9_agree_78 : decode cX9_agree 78 = .ok (.aload_n 0, 1) := by decide +kernel
theorem dX9_agree_79 : decode cX9_agree 79 = .ok (.ldc 41, 2) := by decide +kernel
theorem dX9_agree_81 : decode cX9_agree 81 = .ok (.invokevirtual 42, 3) := by decide +kernel
theorem dX9_agree_84 : decode cX9_agree 84 = .ok (.ireturn, 1) := by decide +kernel
def F_X9_agree (x1 : Int32) (x2 : Int32) (M : eMem) : Option (Int32 × eMem) :=
  (F_X8_collectPairs M).bind fun q1 =>
  (F_X9_isIn x1 q1.1).bind fun q2 =>
  if q2 = 0 then
    (F_X9_found (-1000001) q1.2).bind fun q10 =>
    some (q10.1, q10.2)
  else
    eG (eIn x1 190) <|
    if x2 = 0 then
      (F_X8_lesserOf (q1.2.1 54 x1.toNatClampNeg)).bind fun q3 =>
      some (q3, q1.2)
    else
    if x2 = 1 then
      (F_X8_greaterOf (q1.2.1 54 x1.toNatClampNeg)).bind fun q5 =>
      some (q5, q1.2)
    else
    if x2 = 2 then
      (F_X8_eyeOf (q1.2.1 54 x1.toNatClampNeg)).bind fun q7 =>
      some (q7, q1.2)
    else
    (F_X9_found (-1000001) q1.2).bind fun q9 =>
    some (q9.1, q9.2)
set_option maxRecDepth 100000 in
set_option maxHeartbeats 4000000 in
theorem ev_X9_agree (x1 : Int32) (x2 : Int32) (M : eMem) (q : (Int32 × eMem)) (h : F_X9_agree x1 x2 M = some q) : Ev layC 6 m_X9_agree 0 [some (.ref 0), some (.int x1), some (.int x2), none, none] [] M (some (.int q.1), q.2) := by
  rw [F_X9_agree] at h
  refine Ev.aload_n (pc := 0) dX9_agree_0 rfl ?_
  refine Ev.getR (pc := 1) dX9_agree_1 fl_RX9_12 lC_0 rfl ?_
  refine eBk h (fun q1 hq1 h => ?_)
  refine Ev.callV (pc := 4) (as := []) (st := []) (z := 5) dX9_agree_4 wc_X8_collectPairs ml_RX9_326 im_X8_collectPairs se_X8_collectPairs lC_1 rfl rfl (ev_X8_collectPairs  M _ hq1) rfl rfl (by decide) rfl rfl (Nat.le_of_ble_eq_true rfl) ?_
  refine Ev.istore_n (pc := 7) dX9_agree_7 (by decide) rfl rfl ?_
  refine Ev.iload_n (pc := 8) dX9_agree_8 rfl ?_
  refine Ev.iload_n (pc := 9) dX9_agree_9 rfl ?_
  refine eBk h (fun q2 hq2 h => ?_)
  refine Ev.callS (pc := 10) (as := [.int x1, .int q1.1]) (st := []) (z := 0) dX9_agree_10 wc_X9_isIn ml_RX9_37 sm_X9_isIn (ev_X9_isIn x1 q1.1 q1.2 _ hq2) rfl rfl (by decide) rfl rfl (Nat.le_of_ble_eq_true rfl) ?_
  refine Ev.if_ne (pc := 13) (tgt := 23) dX9_agree_13 (by decide) (fun c9 => ?_) (fun c9 => ?_)
  · have h := eF h c9
    refine Ev.aload_n (pc := 23) dX9_agree_23 rfl ?_
    refine Ev.getR (pc := 24) dX9_agree_24 fl_RX9_12 lC_0 rfl ?_
    refine Ev.getR (pc := 27) dX9_agree_27 fl_RX9_329 lC_1 rfl ?_
    refine Ev.iload_n (pc := 30) dX9_agree_30 rfl ?_
    obtain ⟨g9, h⟩ := eGdB h
    refine Ev.ialdj (pc := 31) dX9_agree_31 (j := x1.toNatClampNeg) lC_54 g9 rfl ?_
    refine Ev.istore (pc := 32) dX9_agree_32 (by decide) rfl rfl ?_
    refine Ev.iload_n (pc := 34) dX9_agree_34 rfl ?_
    by_cases cs4 : x2 = 0
    · have h := eT h cs4
      refine Ev.tsIn (pc := 35) (tgt := 60) (off := 25) dX9_agree_35 (by rw [cs4]; decide) (by rw [cs4]; decide) (by rw [cs4]; rfl) (by decide) ?_
      refine Ev.iload (pc := 60) dX9_agree_60 rfl ?_
      refine eBk h (fun q3 hq3 h => ?_)
      refine Ev.callS (pc := 62) (as := [.int (q1.2.1 54 x1.toNatClampNeg)]) (st := []) (z := 0) dX9_agree_62 wc_X8_lesserOf ml_RX9_332 sm_X8_lesserOf (ev_X8_lesserOf (q1.2.1 54 x1.toNatClampNeg) q1.2 _ hq3) rfl rfl (by decide) rfl rfl (Nat.le_of_ble_eq_true rfl) ?_
      obtain rfl := Option.some.inj h
      exact Ev.iret (pc := 65) dX9_agree_65 rfl rfl
    have h := eF h cs4
    by_cases cs6 : x2 = 1
    · have h := eT h cs6
      refine Ev.tsIn (pc := 35) (tgt := 66) (off := 31) dX9_agree_35 (by rw [cs6]; decide) (by rw [cs6]; decide) (by rw [cs6]; rfl) (by decide) ?_
      refine Ev.iload (pc := 66) dX9_agree_66 rfl ?_
      refine eBk h (fun q5 hq5 h => ?_)
      refine Ev.callS (pc := 68) (as := [.int (q1.2.1 54 x1.toNatClampNeg)]) (st := []) (z := 0) dX9_agree_68 wc_X8_greaterOf ml_RX9_335 sm_X8_greaterOf (ev_X8_greaterOf (q1.2.1 54 x1.toNatClampNeg) q1.2 _ hq5) rfl rfl (by decide) rfl rfl (Nat.le_of_ble_eq_true rfl) ?_
      obtain rfl := Option.some.inj h
      exact Ev.iret (pc := 71) dX9_agree_71 rfl rfl
    have h := eF h cs6
    by_cases cs8 : x2 = 2
    · have h := eT h cs8
      refine Ev.tsIn (pc := 35) (tgt := 72) (off := 37) dX9_agree_35 (by rw [cs8]; decide) (by rw [cs8]; decide) (by rw [cs8]; rfl) (by decide) ?_
      refine Ev.iload (pc := 72) dX9_agree_72 rfl ?_
      refine eBk h (fun q7 hq7 h => ?_)
      refine Ev.callS (pc := 74) (as := [.int (q1.2.1 54 x1.toNatClampNeg)]) (st := []) (z := 0) dX9_agree_74 wc_X8_eyeOf ml_RX9_338 sm_X8_eyeOf (ev_X8_eyeOf (q1.2.1 54 x1.toNatClampNeg) q1.2 _ hq7) rfl rfl (by decide) rfl rfl (Nat.le_of_ble_eq_true rfl) ?_
      obtain rfl := Option.some.inj h
      exact Ev.iret (pc := 77) dX9_agree_77 rfl rfl
    have h := eF h cs8
    refine Ev.tsOut (pc := 35) (tgt := 78) dX9_agree_35 (eTsO 3 (by decide) (by decide) (by decide) (by
      intro k hk
      rcases (show k = 0 ∨ k = 1 ∨ k = 2 by omega) with rfl | rfl | rfl
      · exact cs4
      · exact cs6
      · exact cs8
      )) (by decide) ?_
    refine Ev.aload_n (pc := 78) dX9_agree_78 rfl ?_
    refine Ev.ldc (pc := 79) dX9_agree_79 ld_RX9_41 ?_
    refine eBk h (fun q9 hq9 h => ?_)
    refine Ev.callV (pc := 81) (as := [.int (-1000001)]) (st := []) (z := 1) dX9_agree_81 wc_X9_found ml_RX9_42 im_X9_found se_X9_found lC_0 rfl rfl (ev_X9_found (-1000001) q1.2 _ hq9) rfl rfl (by decide) rfl rfl (Nat.le_of_ble_eq_true rfl) ?_
    obtain rfl := Option.some.inj h
    exact Ev.iret (pc := 84) dX9_agree_84 rfl rfl
  · have h := eT h c9
    refine Ev.aload_n (pc := 16) dX9_agree_16 rfl ?_
    refine Ev.ldc (pc := 17) dX9_agree_17 ld_RX9_41 ?_
    refine eBk h (fun q10 hq10 h => ?_)
    refine Ev.callV (pc := 19) (as := [.int (-1000001)]) (st := []) (z := 1) dX9_agree_19 wc_X9_found ml_RX9_42 im_X9_found se_X9_found lC_0 rfl rfl (ev_X9_found (-1000001) q1.2 _ hq10) rfl rfl (by decide) rfl rfl (Nat.le_of_ble_eq_true rfl) ?_
    obtain rfl := Option.some.inj h
    exact Ev.iret (pc := 22) dX9_agree_22 rfl rfl
theorem dX10_eyeOf_0 : decode cX10_eyeOf 0 = .ok (.aload_n 0, 1) := by decide +kernel
theorem dX10_eyeOf_1 : decode cX10_eyeOf 1 = .ok (.iload_n 1, 1) := by decide +kernel
theorem dX10_eyeOf_2 : decode cX10_eyeOf 2 = .ok (.iconst 1, 1) := by decide +kernel
theorem dX10_eyeOf_3 : decode cX10_eyeOf 3 = .ok (.invokevirtual 77, 3) := by decide +kernel
theorem dX10_eyeOf_6 : decode cX10_eyeOf 6 = .ok (.aload_n 0, 1) := by decide +kernel
theorem dX10_eyeOf_7 : decode cX10_eyeOf 7 = .ok (.iload_n 2, 1) := by decide +kernel
theorem dX10_eyeOf_8 : decode cX10_eyeOf 8 = .ok (.iconst 1, 1) := by decide +kernel
theorem dX10_eyeOf_9 : decode cX10_eyeOf 9 = .ok (.invokevirtual 77, 3) := by decide +kernel
theorem dX10_eyeOf_12 : decode cX10_eyeOf 12 = .ok (.if_icmp .eq 19, 3) := by decide +kernel
theorem dX10_eyeOf_15 : decode cX10_eyeOf 15 = .ok (.aload_n 0, 1) := by decide +kernel
theorem dX10_eyeOf_16 : decode cX10_eyeOf 16 = .ok (.iload_n 1, 1) := by decide +kernel
theorem dX10_eyeOf_17 : decode cX10_eyeOf 17 = .ok (.invokevirtual 80, 3) := by decide +kernel
theorem dX10_eyeOf_20 : decode cX10_eyeOf 20 = .ok (.ifCond .eq 11, 3) := by decide +kernel
theorem dX10_eyeOf_23 : decode cX10_eyeOf 23 = .ok (.aload_n 0, 1) := by decide +kernel
theorem dX10_eyeOf_24 : decode cX10_eyeOf 24 = .ok (.iload_n 2, 1) := by decide +kernel
theorem dX10_eyeOf_25 : decode cX10_eyeOf 25 = .ok (.invokevirtual 80, 3) := by decide +kernel
theorem dX10_eyeOf_28 : decode cX10_eyeOf 28 = .ok (.ifCond .ne 5, 3) := by decide +kernel
theorem dX10_eyeOf_31 : decode cX10_eyeOf 31 = .ok (.iconst (-1), 1) := by decide +kernel
theorem dX10_eyeOf_32 : decode cX10_eyeOf 32 = .ok (.ireturn, 1) := by decide +kernel
theorem dX10_eyeOf_33 : decode cX10_eyeOf 33 = .ok (.aload_n 0, 1) := by decide +kernel
theorem dX10_eyeOf_34 : decode cX10_eyeOf 34 = .ok (.iload_n 1, 1) := by decide +kernel
theorem dX10_eyeOf_35 : decode cX10_eyeOf 35 = .ok (.iconst 0, 1) := by decide +kernel
theorem dX10_eyeOf_36 : decode cX10_eyeOf 36 = .ok (.invokevirtual 77, 3) := by decide +kernel
theorem dX10_eyeOf_39 : decode cX10_eyeOf 39 = .ok (.istore_n 3, 1) := by decide +kernel
theorem dX10_eyeOf_40 : decode cX10_eyeOf 40 = .ok (.aload_n 0, 1) := by decide +kernel
theorem dX10_eyeOf_41 : decode cX10_eyeOf 41 = .ok (.iload_n 2, 1) := by decide +kernel
theorem dX10_eyeOf_42 : decode cX10_eyeOf 42 = .ok (.iconst 0, 1) := by decide +kernel
theorem dX10_eyeOf_43 : decode cX10_eyeOf 43 = .ok (.invokevirtual 77, 3) := by decide +kernel
theorem dX10_eyeOf_46 : decode cX10_eyeOf 46 = .ok (.istore 4, 2) := by decide +kernel
theorem dX10_eyeOf_48 : decode cX10_eyeOf 48 = .ok (.iload_n 3, 1) := by decide +kernel
theorem dX10_eyeOf_49 : decode cX10_eyeOf 49 = .ok (.iconst 2, 1) := by decide +kernel
theorem dX10_eyeOf_50 : decode cX10_eyeOf 50 = .ok (.if_icmp .gt 30, 3) := by decide +kernel
theorem dX10_eyeOf_53 : decode cX10_eyeOf 53 = .ok (.iload 4, 2) := by decide +kernel
theorem dX10_eyeOf_55 : decode cX10_eyeOf 55 = .ok (.iconst 2, 1) := by decide +kernel
theorem dX10_eyeOf_56 : decode cX10_eyeOf 56 = .ok (.if_icmp .gt 24, 3) := by decide +kernel
theorem dX10_eyeOf_59 : decode cX10_eyeOf 59 = .ok (.aload_n 0, 1) := by decide +kernel
theorem dX10_eyeOf_60 : decode cX10_eyeOf 60 = .ok (.iload_n 1, 1) := by decide +kernel
theorem dX10_eyeOf_61 : decode cX10_eyeOf 61 = .ok (.iconst 2, 1) := by decide +kernel
theorem dX10_eyeOf_62 : decode cX10_eyeOf 62 = .ok (.invokevirtual 77, 3) := by decide +kernel
theorem dX10_eyeOf_65 : decode cX10_eyeOf 65 = .ok (.aload_n 0, 1) := by decide +kernel
theorem dX10_eyeOf_66 : decode cX10_eyeOf 66 = .ok (.iload_n 2, 1) := by decide +kernel
theorem dX10_eyeOf_67 : decode cX10_eyeOf 67 = .ok (.iconst 2, 1) := by decide +kernel
theorem dX10_eyeOf_68 : decode cX10_eyeOf 68 = .ok (.invokevirtual 77, 3) := by decide +kernel
theorem dX10_eyeOf_71 : decode cX10_eyeOf 71 = .ok (.if_icmp .ne 7, 3) := by decide +kernel
theorem dX10_eyeOf_74 : decode cX10_eyeOf 74 = .ok (.iconst 0, 1) := by decide +kernel
theorem dX10_eyeOf_75 : decode cX10_eyeOf 75 = .ok (.goto 4, 3) := by decide +kernel
theorem dX10_eyeOf_78 : decode cX10_eyeOf 78 = .ok (.iconst (-1), 1) := by decide +kernel
theorem dX10_eyeOf_79 : decode cX10_eyeOf 79 = .ok (.ireturn, 1) := by decide +kernel
theorem dX10_eyeOf_80 : decode cX10_eyeOf 80 = .ok (.iload_n 3, 1) := by decide +kernel
theorem dX10_eyeOf_81 : decode cX10_eyeOf 81 = .ok (.iconst 3, 1) := by decide +kernel
theorem dX10_eyeOf_82 : decode cX10_eyeOf 82 = .ok (.if_icmp .ne 45, 3) := by decide +kernel
theorem dX10_eyeOf_85 : decode cX10_eyeOf 85 = .ok (.iload 4, 2) := by decide +kernel
theorem dX10_eyeOf_87 : decode cX10_eyeOf 87 = .ok (.iconst 3, 1) := by decide +kernel
theorem dX10_eyeOf_88 : decode cX10_eyeOf 88 = .ok (.if_icmp .ne 39, 3) := by decide +kernel
theorem dX10_eyeOf_91 : decode cX10_eyeOf 91 = .ok (.aload_n 0, 1) := by decide +kernel
theorem dX10_eyeOf_92 : decode cX10_eyeOf 92 = .ok (.iload_n 1, 1) := by decide +kernel
theorem dX10_eyeOf_93 : decode cX10_eyeOf 93 = .ok (.iconst 3, 1) := by decide +kernel
theorem dX10_eyeOf_94 : decode cX10_eyeOf 94 = .ok (.invokevirtual 77, 3) := by decide +kernel
theorem dX10_eyeOf_97 : decode cX10_eyeOf 97 = .ok (.aload_n 0, 1) := by decide +kernel
theorem dX10_eyeOf_98 : decode cX10_eyeOf 98 = .ok (.iload_n 2, 1) := by decide +kernel
theorem dX10_eyeOf_99 : decode cX10_eyeOf 99 = .ok (.iconst 4, 1) := by decide +kernel
theorem dX10_eyeOf_100 : decode cX10_eyeOf 100 = .ok (.invokevirtual 77, 3) := by decide +kernel
theorem dX10_eyeOf_103 : decode cX10_eyeOf 103 = .ok (.if_icmp .gt 22, 3) := by decide +kernel
theorem dX10_eyeOf_106 : decode cX10_eyeOf 106 = .ok (.aload_n 0, 1) := by decide +kernel
theorem dX10_eyeOf_107 : decode cX10_eyeOf 107 = .ok (.iload_n 2, 1) := by decide +kernel
theorem dX10_eyeOf_108 : decode cX10_eyeOf 108 = .ok (.iconst 3, 1) := by decide +kernel
theorem dX10_eyeOf_109 : decode cX10_eyeOf 109 = .ok (.invokevirtual 77, 3) := by decide +kernel
theorem dX10_eyeOf_112 : decode cX10_eyeOf 112 = .ok (.aload_n 0, 1) := by decide +kernel
theorem dX10_eyeOf_113 : decode cX10_eyeOf 113 = .ok (.iload_n 1, 1) := by decide +kernel
theorem dX10_eyeOf_114 : decode cX10_eyeOf 114 = .ok (.iconst 4, 1) := by decide +kernel
theorem dX10_eyeOf_115 : decode cX10_eyeOf 115 = .ok (.invokevirtual 77, 3) := by decide +kernel
theorem dX10_eyeOf_118 : decode cX10_eyeOf 118 = .ok (.if_icmp .gt 7, 3) := by decide +kernel
theorem dX10_eyeOf_121 : decode cX10_eyeOf 121 = .ok (.iconst 1, 1) := by decide +kernel
theorem dX10_eyeOf_122 : decode cX10_eyeOf 122 = .ok (.goto 4, 3) := by decide +kernel
theorem dX10_eyeOf_125 : decode cX10_eyeOf 125 = .ok (.iconst (-1), 1) := by decide +kernel
theorem dX10_eyeOf_126 : decode cX10_eyeOf 126 = .ok (.ireturn, 1) := by decide +kernel
theorem dX10_eyeOf_127 : decode cX10_eyeOf 127 = .ok (.iload_n 3, 1) := by decide +kernel
theorem dX10_eyeOf_128 : decode cX10_eyeOf 128 = .ok (.iconst 4, 1) := by decide +kernel
theorem dX10_eyeOf_129 : decode cX10_eyeOf 129 = .ok (.if_icmp .ne 13, 3) := by decide +kernel
theorem dX10_eyeOf_132 : decode cX10_eyeOf 132 = .ok (.iload 4, 2) := by decide +kernel
theorem dX10_eyeOf_134 : decode cX10_eyeOf 134 = .ok (.iconst 4, 1) := by decide +kernel
theorem dX10_eyeOf_135 : decode cX10_eyeOf 135 = .ok (.if_icmp .ne 7, 3) := by decide +kernel
theorem dX10_eyeOf_138 : decode cX10_eyeOf 138 = .ok (.iconst 2, 1) := by decide +kernel
theorem dX10_eyeOf_139 : decode cX10_eyeOf 139 = .ok (.goto 4, 3) := by decide +kernel
theorem dX10_eyeOf_142 : decode cX10_eyeOf 142 = .ok (.iconst (-1), 1) := by decide +kernel
theorem dX10_eyeOf_143 : decode cX10_eyeOf 143 = .ok (.ireturn, 1) := by decide +kernel
def F_X10_eyeOf_127  (v3 : Int32) (v4 : Int32) (M : eMem) : Option Int32 :=
  if v3 = 4 then
    if v4 = 4 then
      some 2
    else
      some (-1)
  else
    some (-1)
set_option maxRecDepth 100000 in
set_option maxHeartbeats 4000000 in
theorem ev_X10_eyeOf_127  (q : Int32) (M : eMem)  (v3 : Int32) (v4 : Int32) (h : F_X10_eyeOf_127 v3 v4 M = some q) : Ev layR 7 m_X10_eyeOf 127 [none, none, none, some (.int v3), some (.int v4)] [] M (some (.int q), M) := by
  rw [F_X10_eyeOf_127] at h
  refine Ev.iload_n (pc := 127) dX10_eyeOf_127 rfl ?_
  refine Ev.iconst (pc := 128) dX10_eyeOf_128 (v := 4) (by decide) ?_
  refine Ev.icmp_ne (pc := 129) (tgt := 142) dX10_eyeOf_129 (by decide) (fun c9 => ?_) (fun c9 => ?_)
  · have h := eF h c9
    refine Ev.iconst (pc := 142) dX10_eyeOf_142 (v := (-1)) (by decide) ?_
    obtain rfl := Option.some.inj h
    exact Ev.iret (pc := 143) dX10_eyeOf_143 rfl rfl
  · have h := eT h c9
    refine Ev.iload (pc := 132) dX10_eyeOf_132 rfl ?_
    refine Ev.iconst (pc := 134) dX10_eyeOf_134 (v := 4) (by decide) ?_
    refine Ev.icmp_ne (pc := 135) (tgt := 142) dX10_eyeOf_135 (by decide) (fun c9 => ?_) (fun c9 => ?_)
    · have h := eF h c9
      refine Ev.iconst (pc := 142) dX10_eyeOf_142 (v := (-1)) (by decide) ?_
      obtain rfl := Option.some.inj h
      exact Ev.iret (pc := 143) dX10_eyeOf_143 rfl rfl
    · have h := eT h c9
      refine Ev.iconst (pc := 138) dX10_eyeOf_138 (v := 2) (by decide) ?_
      refine Ev.goto (pc := 139) (tgt := 143) dX10_eyeOf_139 (by decide) ?_
      obtain rfl := Option.some.inj h
      exact Ev.iret (pc := 143) dX10_eyeOf_143 rfl rfl
def F_X10_eyeOf_80  (v1 : Int32) (v2 : Int32) (v3 : Int32) (v4 : Int32) (M : eMem) : Option Int32 :=
  if v3 = 3 then
    if v4 = 3 then
      (F_X10_show v1 3 M).bind fun q7 =>
      (F_X10_show v2 4 M).bind fun q8 =>
      if q8 < q7 then
        some (-1)
      else
        (F_X10_show v2 3 M).bind fun q9 =>
        (F_X10_show v1 4 M).bind fun q10 =>
        if q10 < q9 then
          some (-1)
        else
          some 1
    else
      F_X10_eyeOf_127 v3 v4 M
  else
    F_X10_eyeOf_127 v3 v4 M
set_option maxRecDepth 100000 in
set_option maxHeartbeats 4000000 in
theorem ev_X10_eyeOf_80  (q : Int32) (M : eMem)  (v1 : Int32) (v2 : Int32) (v3 : Int32) (v4 : Int32) (h : F_X10_eyeOf_80 v1 v2 v3 v4 M = some q) : Ev layR 7 m_X10_eyeOf 80 [some (.ref 0), some (.int v1), some (.int v2), some (.int v3), some (.int v4)] [] M (some (.int q), M) := by
  rw [F_X10_eyeOf_80] at h
  refine Ev.iload_n (pc := 80) dX10_eyeOf_80 rfl ?_
  refine Ev.iconst (pc := 81) dX10_eyeOf_81 (v := 3) (by decide) ?_
  refine Ev.icmp_ne (pc := 82) (tgt := 127) dX10_eyeOf_82 (by decide) (fun c9 => ?_) (fun c9 => ?_)
  · have h := eF h c9
    exact Ev.fg (ev_X10_eyeOf_127 _ _ _ _ h) (And.intro rfl (And.intro rfl trivial))
  · have h := eT h c9
    refine Ev.iload (pc := 85) dX10_eyeOf_85 rfl ?_
    refine Ev.iconst (pc := 87) dX10_eyeOf_87 (v := 3) (by decide) ?_
    refine Ev.icmp_ne (pc := 88) (tgt := 127) dX10_eyeOf_88 (by decide) (fun c9 => ?_) (fun c9 => ?_)
    · have h := eF h c9
      exact Ev.fg (ev_X10_eyeOf_127 _ _ _ _ h) (And.intro rfl (And.intro rfl trivial))
    · have h := eT h c9
      refine Ev.aload_n (pc := 91) dX10_eyeOf_91 rfl ?_
      refine Ev.iload_n (pc := 92) dX10_eyeOf_92 rfl ?_
      refine Ev.iconst (pc := 93) dX10_eyeOf_93 (v := 3) (by decide) ?_
      refine eBk h (fun q7 hq7 h => ?_)
      refine Ev.callV (pc := 94) (as := [.int v1, .int 3]) (st := []) (z := 0) dX10_eyeOf_94 wc_X10_show ml_RX10_77 im_X10_show se_X10_show lR_0 rfl rfl (ev_X10_show v1 3 M _ hq7) rfl rfl (by decide) rfl rfl (Nat.le_of_ble_eq_true rfl) ?_
      refine Ev.aload_n (pc := 97) dX10_eyeOf_97 rfl ?_
      refine Ev.iload_n (pc := 98) dX10_eyeOf_98 rfl ?_
      refine Ev.iconst (pc := 99) dX10_eyeOf_99 (v := 4) (by decide) ?_
      refine eBk h (fun q8 hq8 h => ?_)
      refine Ev.callV (pc := 100) (as := [.int v2, .int 4]) (st := [.int q7]) (z := 0) dX10_eyeOf_100 wc_X10_show ml_RX10_77 im_X10_show se_X10_show lR_0 rfl rfl (ev_X10_show v2 4 M _ hq8) rfl rfl (by decide) rfl rfl (Nat.le_of_ble_eq_true rfl) ?_
      refine Ev.icmp_gt (pc := 103) (tgt := 125) dX10_eyeOf_103 (by decide) (fun c9 => ?_) (fun c9 => ?_)
      · have h := eT h c9
        refine Ev.iconst (pc := 125) dX10_eyeOf_125 (v := (-1)) (by decide) ?_
        obtain rfl := Option.some.inj h
        exact Ev.iret (pc := 126) dX10_eyeOf_126 rfl rfl
      · have h := eF h c9
        refine Ev.aload_n (pc := 106) dX10_eyeOf_106 rfl ?_
        refine Ev.iload_n (pc := 107) dX10_eyeOf_107 rfl ?_
        refine Ev.iconst (pc := 108) dX10_eyeOf_108 (v := 3) (by decide) ?_
        refine eBk h (fun q9 hq9 h => ?_)
        refine Ev.callV (pc := 109) (as := [.int v2, .int 3]) (st := []) (z := 0) dX10_eyeOf_109 wc_X10_show ml_RX10_77 im_X10_show se_X10_show lR_0 rfl rfl (ev_X10_show v2 3 M _ hq9) rfl rfl (by decide) rfl rfl (Nat.le_of_ble_eq_true rfl) ?_
        refine Ev.aload_n (pc := 112) dX10_eyeOf_112 rfl ?_
        refine Ev.iload_n (pc := 113) dX10_eyeOf_113 rfl ?_
        refine Ev.iconst (pc := 114) dX10_eyeOf_114 (v := 4) (by decide) ?_
        refine eBk h (fun q10 hq10 h => ?_)
        refine Ev.callV (pc := 115) (as := [.int v1, .int 4]) (st := [.int q9]) (z := 0) dX10_eyeOf_115 wc_X10_show ml_RX10_77 im_X10_show se_X10_show lR_0 rfl rfl (ev_X10_show v1 4 M _ hq10) rfl rfl (by decide) rfl rfl (Nat.le_of_ble_eq_true rfl) ?_
        refine Ev.icmp_gt (pc := 118) (tgt := 125) dX10_eyeOf_118 (by decide) (fun c9 => ?_) (fun c9 => ?_)
        · have h := eT h c9
          refine Ev.iconst (pc := 125) dX10_eyeOf_125 (v := (-1)) (by decide) ?_
          obtain rfl := Option.some.inj h
          exact Ev.iret (pc := 126) dX10_eyeOf_126 rfl rfl
        · have h := eF h c9
          refine Ev.iconst (pc := 121) dX10_eyeOf_121 (v := 1) (by decide) ?_
          refine Ev.goto (pc := 122) (tgt := 126) dX10_eyeOf_122 (by decide) ?_
          obtain rfl := Option.some.inj h
          exact Ev.iret (pc := 126) dX10_eyeOf_126 rfl rfl
def F_X10_eyeOf (x1 : Int32) (x2 : Int32) (M : eMem) : Option Int32 :=
  (F_X10_show x1 1 M).bind fun q1 =>
  (F_X10_show x2 1 M).bind fun q2 =>
  if q1 = q2 then
    some (-1)
  else
    (F_X10_isShown x1 M).bind fun q3 =>
    if q3 = 0 then
      some (-1)
    else
      (F_X10_isShown x2 M).bind fun q4 =>
      if q4 = 0 then
        some (-1)
      else
        (F_X10_show x1 0 M).bind fun q5 =>
        (F_X10_show x2 0 M).bind fun q6 =>
        if 2 < q5 then
          F_X10_eyeOf_80 x1 x2 q5 q6 M
        else
          if 2 < q6 then
            F_X10_eyeOf_80 x1 x2 q5 q6 M
          else
            (F_X10_show x1 2 M).bind fun q11 =>
            (F_X10_show x2 2 M).bind fun q12 =>
            if q11 = q12 then
              some 0
            else
              some (-1)
set_option maxRecDepth 100000 in
set_option maxHeartbeats 4000000 in
theorem ev_X10_eyeOf (x1 : Int32) (x2 : Int32) (M : eMem) (q : Int32) (h : F_X10_eyeOf x1 x2 M = some q) : Ev layR 7 m_X10_eyeOf 0 [some (.ref 0), some (.int x1), some (.int x2), none, none] [] M (some (.int q), M) := by
  rw [F_X10_eyeOf] at h
  refine Ev.aload_n (pc := 0) dX10_eyeOf_0 rfl ?_
  refine Ev.iload_n (pc := 1) dX10_eyeOf_1 rfl ?_
  refine Ev.iconst (pc := 2) dX10_eyeOf_2 (v := 1) (by decide) ?_
  refine eBk h (fun q1 hq1 h => ?_)
  refine Ev.callV (pc := 3) (as := [.int x1, .int 1]) (st := []) (z := 0) dX10_eyeOf_3 wc_X10_show ml_RX10_77 im_X10_show se_X10_show lR_0 rfl rfl (ev_X10_show x1 1 M _ hq1) rfl rfl (by decide) rfl rfl (Nat.le_of_ble_eq_true rfl) ?_
  refine Ev.aload_n (pc := 6) dX10_eyeOf_6 rfl ?_
  refine Ev.iload_n (pc := 7) dX10_eyeOf_7 rfl ?_
  refine Ev.iconst (pc := 8) dX10_eyeOf_8 (v := 1) (by decide) ?_
  refine eBk h (fun q2 hq2 h => ?_)
  refine Ev.callV (pc := 9) (as := [.int x2, .int 1]) (st := [.int q1]) (z := 0) dX10_eyeOf_9 wc_X10_show ml_RX10_77 im_X10_show se_X10_show lR_0 rfl rfl (ev_X10_show x2 1 M _ hq2) rfl rfl (by decide) rfl rfl (Nat.le_of_ble_eq_true rfl) ?_
  refine Ev.icmp_eq (pc := 12) (tgt := 31) dX10_eyeOf_12 (by decide) (fun c9 => ?_) (fun c9 => ?_)
  · have h := eT h c9
    refine Ev.iconst (pc := 31) dX10_eyeOf_31 (v := (-1)) (by decide) ?_
    obtain rfl := Option.some.inj h
    exact Ev.iret (pc := 32) dX10_eyeOf_32 rfl rfl
  · have h := eF h c9
    refine Ev.aload_n (pc := 15) dX10_eyeOf_15 rfl ?_
    refine Ev.iload_n (pc := 16) dX10_eyeOf_16 rfl ?_
    refine eBk h (fun q3 hq3 h => ?_)
    refine Ev.callV (pc := 17) (as := [.int x1]) (st := []) (z := 0) dX10_eyeOf_17 wc_X10_isShown ml_RX10_80 im_X10_isShown se_X10_isShown lR_0 rfl rfl (ev_X10_isShown x1 M _ hq3) rfl rfl (by decide) rfl rfl (Nat.le_of_ble_eq_true rfl) ?_
    refine Ev.if_eq (pc := 20) (tgt := 31) dX10_eyeOf_20 (by decide) (fun c9 => ?_) (fun c9 => ?_)
    · have h := eT h c9
      refine Ev.iconst (pc := 31) dX10_eyeOf_31 (v := (-1)) (by decide) ?_
      obtain rfl := Option.some.inj h
      exact Ev.iret (pc := 32) dX10_eyeOf_32 rfl rfl
    · have h := eF h c9
      refine Ev.aload_n (pc := 23) dX10_eyeOf_23 rfl ?_
      refine Ev.iload_n (pc := 24) dX10_eyeOf_24 rfl ?_
      refine eBk h (fun q4 hq4 h => ?_)
      refine Ev.callV (pc := 25) (as := [.int x2]) (st := []) (z := 0) dX10_eyeOf_25 wc_X10_isShown ml_RX10_80 im_X10_isShown se_X10_isShown lR_0 rfl rfl (ev_X10_isShown x2 M _ hq4) rfl rfl (by decide) rfl rfl (Nat.le_of_ble_eq_true rfl) ?_
      refine Ev.if_ne (pc := 28) (tgt := 33) dX10_eyeOf_28 (by decide) (fun c9 => ?_) (fun c9 => ?_)
      · have h := eF h c9
        refine Ev.aload_n (pc := 33) dX10_eyeOf_33 rfl ?_
        refine Ev.iload_n (pc := 34) dX10_eyeOf_34 rfl ?_
        refine Ev.iconst (pc := 35) dX10_eyeOf_35 (v := 0) (by decide) ?_
        refine eBk h (fun q5 hq5 h => ?_)
        refine Ev.callV (pc := 36) (as := [.int x1, .int 0]) (st := []) (z := 0) dX10_eyeOf_36 wc_X10_show ml_RX10_77 im_X10_show se_X10_show lR_0 rfl rfl (ev_X10_show x1 0 M _ hq5) rfl rfl (by decide) rfl rfl (Nat.le_of_ble_eq_true rfl) ?_
        refine Ev.istore_n (pc := 39) dX10_eyeOf_39 (by decide) rfl rfl ?_
        refine Ev.aload_n (pc := 40) dX10_eyeOf_40 rfl ?_
        refine Ev.iload_n (pc := 41) dX10_eyeOf_41 rfl ?_
        refine Ev.iconst (pc := 42) dX10_eyeOf_42 (v := 0) (by decide) ?_
        refine eBk h (fun q6 hq6 h => ?_)
        refine Ev.callV (pc := 43) (as := [.int x2, .int 0]) (st := []) (z := 0) dX10_eyeOf_43 wc_X10_show ml_RX10_77 im_X10_show se_X10_show lR_0 rfl rfl (ev_X10_show x2 0 M _ hq6) rfl rfl (by decide) rfl rfl (Nat.le_of_ble_eq_true rfl) ?_
        refine Ev.istore (pc := 46) dX10_eyeOf_46 (by decide) rfl rfl ?_
        refine Ev.iload_n (pc := 48) dX10_eyeOf_48 rfl ?_
        refine Ev.iconst (pc := 49) dX10_eyeOf_49 (v := 2) (by decide) ?_
        refine Ev.icmp_gt (pc := 50) (tgt := 80) dX10_eyeOf_50 (by decide) (fun c9 => ?_) (fun c9 => ?_)
        · have h := eT h c9
          exact Ev.fg (ev_X10_eyeOf_80 _ _ _ _ _ _ h) (And.intro rfl (And.intro rfl (And.intro rfl (And.intro rfl (And.intro rfl trivial)))))
        · have h := eF h c9
          refine Ev.iload (pc := 53) dX10_eyeOf_53 rfl ?_
          refine Ev.iconst (pc := 55) dX10_eyeOf_55 (v := 2) (by decide) ?_
          refine Ev.icmp_gt (pc := 56) (tgt := 80) dX10_eyeOf_56 (by decide) (fun c9 => ?_) (fun c9 => ?_)
          · have h := eT h c9
            exact Ev.fg (ev_X10_eyeOf_80 _ _ _ _ _ _ h) (And.intro rfl (And.intro rfl (And.intro rfl (And.intro rfl (And.intro rfl trivial)))))
          · have h := eF h c9
            refine Ev.aload_n (pc := 59) dX10_eyeOf_59 rfl ?_
            refine Ev.iload_n (pc := 60) dX10_eyeOf_60 rfl ?_
            refine Ev.iconst (pc := 61) dX10_eyeOf_61 (v := 2) (by decide) ?_
            refine eBk h (fun q11 hq11 h => ?_)
            refine Ev.callV (pc := 62) (as := [.int x1, .int 2]) (st := []) (z := 0) dX10_eyeOf_62 wc_X10_show ml_RX10_77 im_X10_show se_X10_show lR_0 rfl rfl (ev_X10_show x1 2 M _ hq11) rfl rfl (by decide) rfl rfl (Nat.le_of_ble_eq_true rfl) ?_
            refine Ev.aload_n (pc := 65) dX10_eyeOf_65 rfl ?_
            refine Ev.iload_n (pc := 66) dX10_eyeOf_66 rfl ?_
            refine Ev.iconst (pc := 67) dX10_eyeOf_67 (v := 2) (by decide) ?_
            refine eBk h (fun q12 hq12 h => ?_)
            refine Ev.callV (pc := 68) (as := [.int x2, .int 2]) (st := [.int q11]) (z := 0) dX10_eyeOf_68 wc_X10_show ml_RX10_77 im_X10_show se_X10_show lR_0 rfl rfl (ev_X10_show x2 2 M _ hq12) rfl rfl (by decide) rfl rfl (Nat.le_of_ble_eq_true rfl) ?_
            refine Ev.icmp_ne (pc := 71) (tgt := 78) dX10_eyeOf_71 (by decide) (fun c9 => ?_) (fun c9 => ?_)
            · have h := eF h c9
              refine Ev.iconst (pc := 78) dX10_eyeOf_78 (v := (-1)) (by decide) ?_
              obtain rfl := Option.some.inj h
              exact Ev.iret (pc := 79) dX10_eyeOf_79 rfl rfl
            · have h := eT h c9
              refine Ev.iconst (pc := 74) dX10_eyeOf_74 (v := 0) (by decide) ?_
              refine Ev.goto (pc := 75) (tgt := 79) dX10_eyeOf_75 (by decide) ?_
              obtain rfl := Option.some.inj h
              exact Ev.iret (pc := 79) dX10_eyeOf_79 rfl rfl
      · have h := eT h c9
        refine Ev.iconst (pc := 31) dX10_eyeOf_31 (v := (-1)) (by decide) ?_
        obtain rfl := Option.some.inj h
        exact Ev.iret (pc := 32) dX10_eyeOf_32 rfl rfl
theorem dX10_pairs_0 : decode cX10_pairs 0 = .ok (.iconst 0, 1) := by decide +kernel
theorem dX10_pairs_1 : decode cX10_pairs 1 = .ok (.istore_n 2, 1) := by decide +kernel
theorem dX10_pairs_2 : decode cX10_pairs 2 = .ok (.iconst 0, 1) := by decide +kernel
theorem dX10_pairs_3 : decode cX10_pairs 3 = .ok (.istore_n 3, 1) := by decide +kernel
theorem dX10_pairs_4 : decode cX10_pairs 4 = .ok (.iload_n 3, 1) := by decide +kernel
theorem dX10_pairs_5 : decode cX10_pairs 5 = .ok (.aload_n 0, 1) := by decide +kernel
theorem dX10_pairs_6 : decode cX10_pairs 6 = .ok (.getfield 7, 3) := by decide +kernel
theorem dX10_pairs_9 : decode cX10_pairs 9 = .ok (.bipush 9, 2) := by decide +kernel
theorem dX10_pairs_11 : decode cX10_pairs 11 = .ok (.iaload, 1) := by decide +kernel
theorem dX10_pairs_12 : decode cX10_pairs 12 = .ok (.if_icmp .ge 80, 3) := by decide +kernel
theorem dX10_pairs_15 : decode cX10_pairs 15 = .ok (.iload_n 3, 1) := by decide +kernel
theorem dX10_pairs_16 : decode cX10_pairs 16 = .ok (.iconst 1, 1) := by decide +kernel
theorem dX10_pairs_17 : decode cX10_pairs 17 = .ok (.iadd, 1) := by decide +kernel
theorem dX10_pairs_18 : decode cX10_pairs 18 = .ok (.istore 4, 2) := by decide +kernel
theorem dX10_pairs_20 : decode cX10_pairs 20 = .ok (.iload 4, 2) := by decide +kernel
theorem dX10_pairs_22 : decode cX10_pairs 22 = .ok (.aload_n 0, 1) := by decide +kernel
theorem dX10_pairs_23 : decode cX10_pairs 23 = .ok (.getfield 7, 3) := by decide +kernel
theorem dX10_pairs_26 : decode cX10_pairs 26 = .ok (.bipush 9, 2) := by decide +kernel
theorem dX10_pairs_28 : decode cX10_pairs 28 = .ok (.iaload, 1) := by decide +kernel
theorem dX10_pairs_29 : decode cX10_pairs 29 = .ok (.if_icmp .ge 57, 3) := by decide +kernel
theorem dX10_pairs_32 : decode cX10_pairs 32 = .ok (.aload_n 0, 1) := by decide +kernel
theorem dX10_pairs_33 : decode cX10_pairs 33 = .ok (.iload_n 3, 1) := by decide +kernel
theorem dX10_pairs_34 : decode cX10_pairs 34 = .ok (.iload 4, 2) := by decide +kernel
theorem dX10_pairs_36 : decode cX10_pairs 36 = .ok (.invokevirtual 237, 3) := by decide +kernel
theorem dX10_pairs_39 : decode cX10_pairs 39 = .ok (.ifCond .lt 41, 3) := by decide +kernel
theorem dX10_pairs_42 : decode cX10_pairs 42 = .ok (.aload_n 0, 1) := by decide +kernel
theorem dX10_pairs_43 : decode cX10_pairs 43 = .ok (.iload_n 2, 1) := by decide +kernel
theorem dX10_pairs_44 : decode cX10_pairs 44 = .ok (.iload_n 1, 1) := by decide +kernel
theorem dX10_pairs_45 : decode cX10_pairs 45 = .ok (.if_icmp .ne 7, 3) := by decide +kernel
theorem dX10_pairs_48 : decode cX10_pairs 48 = .ok (.iload_n 3, 1) := by decide +kernel
theorem dX10_pairs_49 : decode cX10_pairs 49 = .ok (.goto 7, 3) := by decide +kernel
theorem dX10_pairs_52 : decode cX10_pairs 52 = .ok (.aload_n 0, 1) := by decide +kernel
theorem dX10_pairs_53 : decode cX10_pairs 53 = .ok (.getfield 240, 3) := by decide +kernel
theorem dX10_pairs_56 : decode cX10_pairs 56 = .ok (.putfield 240, 3) := by decide +kernel
theorem dX10_pairs_59 : decode cX10_pairs 59 = .ok (.aload_n 0, 1) := by decide +kernel
theorem dX10_pairs_60 : decode cX10_pairs 60 = .ok (.iload_n 2, 1) := by decide +kernel
theorem dX10_pairs_61 : decode cX10_pairs 61 = .ok (.iload_n 1, 1) := by decide +kernel
theorem dX10_pairs_62 : decode cX10_pairs 62 = .ok (.if_icmp .ne 8, 3) := by decide +kernel
theorem dX10_pairs_65 : decode cX10_pairs 65 = .ok (.iload 4, 2) := by decide +kernel
theorem dX10_pairs_67 : decode cX10_pairs 67 = .ok (.goto 7, 3) := by decide +kernel
theorem dX10_pairs_70 : decode cX10_pairs 70 = .ok (.aload_n 0, 1) := by decide +kernel
theorem dX10_pairs_71 : decode cX10_pairs 71 = .ok (.getfield 243, 3) := by decide +kernel
theorem dX10_pairs_74 : decode cX10_pairs 74 = .ok (.putfield 243, 3) := by decide +kernel
theorem dX10_pairs_77 : decode cX10_pairs 77 = .ok (.iinc 2 1, 3) := by decide +kernel
theorem dX10_pairs_80 : decode cX10_pairs 80 = .ok (.iinc 4 1, 3) := by decide +kernel
theorem dX10_pairs_83 : decode cX10_pairs 83 = .ok (.goto (-63), 3) := by decide +kernel
theorem dX10_pairs_86 : decode cX10_pairs 86 = .ok (.iinc 3 1, 3) := by decide +kernel
theorem dX10_pairs_89 : decode cX10_pairs 89 = .ok (.goto (-85), 3) := by decide +kernel
theorem dX10_pairs_92 : decode cX10_pairs 92 = .ok (.iload_n 2, 1) := by decide +kernel
theorem dX10_pairs_93 : decode cX10_pairs 93 = .ok (.ireturn, 1) := by decide +kernel
def F_X10_pairs_56 (rec : Int32 → Int32 → Int32 → Int32 → eMem → Option (Int32 × eMem)) (K86 : Int32 → Int32 → Int32 → eMem → Option (Int32 × eMem)) (v1 : Int32) (v2 : Int32) (v3 : Int32) (v4 : Int32) (s0 : Int32) (M : eMem) : Option (Int32 × eMem) :=
  if v2 = v1 then
    rec v1 (v2 + 1) v3 (v4 + 1) (eI (eI M 0 19 s0) 0 20 v4)
  else
    rec v1 (v2 + 1) v3 (v4 + 1) (eI (eI M 0 19 s0) 0 20 (M.1 0 20))
set_option maxRecDepth 100000 in
set_option maxHeartbeats 4000000 in
theorem ev_X10_pairs_56 (rec : Int32 → Int32 → Int32 → Int32 → eMem → Option (Int32 × eMem)) (K86 : Int32 → Int32 → Int32 → eMem → Option (Int32 × eMem)) (q : (Int32 × eMem)) (hrec : ∀ (v1 : Int32) (v2 : Int32) (v3 : Int32) (v4 : Int32) (M : eMem), rec v1 v2 v3 v4 M = some q → Ev layR 8 m_X10_pairs 20 [some (.ref 0), some (.int v1), some (.int v2), some (.int v3), some (.int v4)] [] M (some (.int q.1), q.2)) (hK86 : ∀ (v1 : Int32) (v2 : Int32) (v3 : Int32) (M : eMem), K86 v1 v2 v3 M = some q → Ev layR 8 m_X10_pairs 86 [some (.ref 0), some (.int v1), some (.int v2), some (.int v3), none] [] M (some (.int q.1), q.2)) (v1 : Int32) (v2 : Int32) (v3 : Int32) (v4 : Int32) (s0 : Int32) (M : eMem) (h : F_X10_pairs_56 rec K86 v1 v2 v3 v4 s0 M = some q) : Ev layR 8 m_X10_pairs 56 [some (.ref 0), some (.int v1), some (.int v2), some (.int v3), some (.int v4)] [.int s0, .ref 0] M (some (.int q.1), q.2) := by
  rw [F_X10_pairs_56] at h
  refine Ev.putI (pc := 56) dX10_pairs_56 fp_RX10_240 lR_0 rfl rfl rfl ?_
  refine Ev.aload_n (pc := 59) dX10_pairs_59 rfl ?_
  refine Ev.iload_n (pc := 60) dX10_pairs_60 rfl ?_
  refine Ev.iload_n (pc := 61) dX10_pairs_61 rfl ?_
  refine Ev.icmp_ne (pc := 62) (tgt := 70) dX10_pairs_62 (by decide) (fun c9 => ?_) (fun c9 => ?_)
  · have h := eF h c9
    refine Ev.aload_n (pc := 70) dX10_pairs_70 rfl ?_
    refine Ev.getIv (pc := 71) dX10_pairs_71 (v := (M.1 0 20)) fl_RX10_243 lR_0 rfl (eI_m (by decide)) ?_
    refine Ev.putI (pc := 74) dX10_pairs_74 fp_RX10_243 lR_0 rfl rfl rfl ?_
    refine Ev.iincv (pc := 77) dX10_pairs_77 (v := 1) (by decide) rfl (by decide) rfl rfl ?_
    refine Ev.iincv (pc := 80) dX10_pairs_80 (v := 1) (by decide) rfl (by decide) rfl rfl ?_
    refine Ev.goto (pc := 83) (tgt := 20) dX10_pairs_83 (by decide) ?_
    exact Ev.fg (hrec _ _ _ _ _ h) (And.intro rfl (And.intro rfl (And.intro rfl (And.intro rfl (And.intro rfl trivial)))))
  · have h := eT h c9
    refine Ev.iload (pc := 65) dX10_pairs_65 rfl ?_
    refine Ev.goto (pc := 67) (tgt := 74) dX10_pairs_67 (by decide) ?_
    refine Ev.putI (pc := 74) dX10_pairs_74 fp_RX10_243 lR_0 rfl rfl rfl ?_
    refine Ev.iincv (pc := 77) dX10_pairs_77 (v := 1) (by decide) rfl (by decide) rfl rfl ?_
    refine Ev.iincv (pc := 80) dX10_pairs_80 (v := 1) (by decide) rfl (by decide) rfl rfl ?_
    refine Ev.goto (pc := 83) (tgt := 20) dX10_pairs_83 (by decide) ?_
    exact Ev.fg (hrec _ _ _ _ _ h) (And.intro rfl (And.intro rfl (And.intro rfl (And.intro rfl (And.intro rfl trivial)))))
def F_X10_pairs_20 (K86 : Int32 → Int32 → Int32 → eMem → Option (Int32 × eMem)) : Nat → Int32 → Int32 → Int32 → Int32 → eMem → Option (Int32 × eMem)
  | 0, _, _, _, _, _ => none
  | n + 1, v1, v2, v3, v4, M =>
    if v4 < (M.1 1 9) then
      (F_X10_eyeOf v3 v4 M).bind fun q1 =>
      if q1 < 0 then
        F_X10_pairs_20 K86 n v1 v2 v3 (v4 + 1) M
      else
        if v2 = v1 then
          F_X10_pairs_56 (fun v1 v2 v3 v4 M => F_X10_pairs_20 K86 n v1 v2 v3 v4 M) K86 v1 v2 v3 v4 v3 M
        else
          F_X10_pairs_56 (fun v1 v2 v3 v4 M => F_X10_pairs_20 K86 n v1 v2 v3 v4 M) K86 v1 v2 v3 v4 (M.1 0 19) M
    else
      K86 v1 v2 v3 M
set_option maxRecDepth 100000 in
set_option maxHeartbeats 4000000 in
theorem ev_X10_pairs_20 (K86 : Int32 → Int32 → Int32 → eMem → Option (Int32 × eMem)) (q : (Int32 × eMem)) (hK86 : ∀ (v1 : Int32) (v2 : Int32) (v3 : Int32) (M : eMem), K86 v1 v2 v3 M = some q → Ev layR 8 m_X10_pairs 86 [some (.ref 0), some (.int v1), some (.int v2), some (.int v3), none] [] M (some (.int q.1), q.2)) : ∀ (fuel : Nat) (v1 : Int32) (v2 : Int32) (v3 : Int32) (v4 : Int32) (M : eMem), F_X10_pairs_20 K86 fuel v1 v2 v3 v4 M = some q → Ev layR 8 m_X10_pairs 20 [some (.ref 0), some (.int v1), some (.int v2), some (.int v3), some (.int v4)] [] M (some (.int q.1), q.2) := by
  intro fuel
  induction fuel with
  | zero => intro v1 v2 v3 v4 M h; rw [F_X10_pairs_20] at h; cases h
  | succ n ih =>
    intro v1 v2 v3 v4 M h
    rw [F_X10_pairs_20] at h
    refine Ev.iload (pc := 20) dX10_pairs_20 rfl ?_
    refine Ev.aload_n (pc := 22) dX10_pairs_22 rfl ?_
    refine Ev.getR (pc := 23) dX10_pairs_23 fl_RX10_7 lR_0 rfl ?_
    refine Ev.bipush (pc := 26) dX10_pairs_26 (v := 9) (by decide) ?_
    refine Ev.ialdj (pc := 28) dX10_pairs_28 (j := 9) lR_1 (by decide) (by decide) ?_
    refine Ev.icmp_ge (pc := 29) (tgt := 86) dX10_pairs_29 (by decide) (fun c9 => ?_) (fun c9 => ?_)
    · have h := eF h c9
      exact Ev.fg (hK86 _ _ _ _ h) (And.intro rfl (And.intro rfl (And.intro rfl (And.intro rfl trivial))))
    · have h := eT h c9
      refine Ev.aload_n (pc := 32) dX10_pairs_32 rfl ?_
      refine Ev.iload_n (pc := 33) dX10_pairs_33 rfl ?_
      refine Ev.iload (pc := 34) dX10_pairs_34 rfl ?_
      refine eBk h (fun q1 hq1 h => ?_)
      refine Ev.callV (pc := 36) (as := [.int v3, .int v4]) (st := []) (z := 2) dX10_pairs_36 wc_X10_eyeOf ml_RX10_237 im_X10_eyeOf se_X10_eyeOf lR_0 rfl rfl (ev_X10_eyeOf v3 v4 M _ hq1) rfl rfl (by decide) rfl rfl (Nat.le_of_ble_eq_true rfl) ?_
      refine Ev.if_lt (pc := 39) (tgt := 80) dX10_pairs_39 (by decide) (fun c9 => ?_) (fun c9 => ?_)
      · have h := eT h c9
        refine Ev.iincv (pc := 80) dX10_pairs_80 (v := 1) (by decide) rfl (by decide) rfl rfl ?_
        refine Ev.goto (pc := 83) (tgt := 20) dX10_pairs_83 (by decide) ?_
        exact Ev.fg (ih _ _ _ _ _ h) (And.intro rfl (And.intro rfl (And.intro rfl (And.intro rfl (And.intro rfl trivial)))))
      · have h := eF h c9
        refine Ev.aload_n (pc := 42) dX10_pairs_42 rfl ?_
        refine Ev.iload_n (pc := 43) dX10_pairs_43 rfl ?_
        refine Ev.iload_n (pc := 44) dX10_pairs_44 rfl ?_
        refine Ev.icmp_ne (pc := 45) (tgt := 52) dX10_pairs_45 (by decide) (fun c9 => ?_) (fun c9 => ?_)
        · have h := eF h c9
          refine Ev.aload_n (pc := 52) dX10_pairs_52 rfl ?_
          refine Ev.getI (pc := 53) dX10_pairs_53 fl_RX10_240 lR_0 rfl ?_
          exact Ev.fg (ev_X10_pairs_56 _ _ _ ih hK86 _ _ _ _ _ _ h) (And.intro rfl (And.intro rfl (And.intro rfl (And.intro rfl (And.intro rfl trivial)))))
        · have h := eT h c9
          refine Ev.iload_n (pc := 48) dX10_pairs_48 rfl ?_
          refine Ev.goto (pc := 49) (tgt := 56) dX10_pairs_49 (by decide) ?_
          exact Ev.fg (ev_X10_pairs_56 _ _ _ ih hK86 _ _ _ _ _ _ h) (And.intro rfl (And.intro rfl (And.intro rfl (And.intro rfl (And.intro rfl trivial)))))
def F_X10_pairs_4  : Nat → Int32 → Int32 → Int32 → eMem → Option (Int32 × eMem)
  | 0, _, _, _, _ => none
  | n + 1, v1, v2, v3, M =>
    if v3 < (M.1 1 9) then
      F_X10_pairs_20
        (fun v1 v2 v3 M =>
          F_X10_pairs_4 n v1 v2 (v3 + 1) M)
        eFuel v1 v2 v3 (v3 + 1) M
    else
      some (v2, M)
set_option maxRecDepth 100000 in
set_option maxHeartbeats 4000000 in
theorem ev_X10_pairs_4  (q : (Int32 × eMem))  : ∀ (fuel : Nat) (v1 : Int32) (v2 : Int32) (v3 : Int32) (M : eMem), F_X10_pairs_4 fuel v1 v2 v3 M = some q → Ev layR 8 m_X10_pairs 4 [some (.ref 0), some (.int v1), some (.int v2), some (.int v3), none] [] M (some (.int q.1), q.2) := by
  intro fuel
  induction fuel with
  | zero => intro v1 v2 v3 M h; rw [F_X10_pairs_4] at h; cases h
  | succ n ih =>
    intro v1 v2 v3 M h
    rw [F_X10_pairs_4] at h
    refine Ev.iload_n (pc := 4) dX10_pairs_4 rfl ?_
    refine Ev.aload_n (pc := 5) dX10_pairs_5 rfl ?_
    refine Ev.getR (pc := 6) dX10_pairs_6 fl_RX10_7 lR_0 rfl ?_
    refine Ev.bipush (pc := 9) dX10_pairs_9 (v := 9) (by decide) ?_
    refine Ev.ialdj (pc := 11) dX10_pairs_11 (j := 9) lR_1 (by decide) (by decide) ?_
    refine Ev.icmp_ge (pc := 12) (tgt := 92) dX10_pairs_12 (by decide) (fun c9 => ?_) (fun c9 => ?_)
    · have h := eF h c9
      refine Ev.iload_n (pc := 92) dX10_pairs_92 rfl ?_
      obtain rfl := Option.some.inj h
      exact Ev.iret (pc := 93) dX10_pairs_93 rfl rfl
    · have h := eT h c9
      refine Ev.iload_n (pc := 15) dX10_pairs_15 rfl ?_
      refine Ev.iconst (pc := 16) dX10_pairs_16 (v := 1) (by decide) ?_
      refine Ev.iadd (pc := 17) dX10_pairs_17 ?_
      refine Ev.istore (pc := 18) dX10_pairs_18 (by decide) rfl rfl ?_
      refine Ev.fg (ev_X10_pairs_20 _ _ ?_ _ _ _ _ _ _ h) (And.intro rfl (And.intro rfl (And.intro rfl (And.intro rfl (And.intro rfl trivial)))))
      · intro v1 v2 v3 M h
        refine Ev.iincv (pc := 86) dX10_pairs_86 (v := 1) (by decide) rfl (by decide) rfl rfl ?_
        refine Ev.goto (pc := 89) (tgt := 4) dX10_pairs_89 (by decide) ?_
        exact Ev.fg (ih _ _ _ _ h) (And.intro rfl (And.intro rfl (And.intro rfl (And.intro rfl trivial))))
def F_X10_pairs (x1 : Int32) (M : eMem) : Option (Int32 × eMem) :=
  F_X10_pairs_4 eFuel x1 0 0 M
set_option maxRecDepth 100000 in
set_option maxHeartbeats 4000000 in
theorem ev_X10_pairs (x1 : Int32) (M : eMem) (q : (Int32 × eMem)) (h : F_X10_pairs x1 M = some q) : Ev layR 8 m_X10_pairs 0 [some (.ref 0), some (.int x1), none, none, none] [] M (some (.int q.1), q.2) := by
  rw [F_X10_pairs] at h
  refine Ev.iconst (pc := 0) dX10_pairs_0 (v := 0) (by decide) ?_
  refine Ev.istore_n (pc := 1) dX10_pairs_1 (by decide) rfl rfl ?_
  refine Ev.iconst (pc := 2) dX10_pairs_2 (v := 0) (by decide) ?_
  refine Ev.istore_n (pc := 3) dX10_pairs_3 (by decide) rfl rfl ?_
  exact Ev.fg (ev_X10_pairs_4 _ _ _ _ _ _ h) (And.intro rfl (And.intro rfl (And.intro rfl (And.intro rfl trivial))))
theorem dX10_agree_0 : decode cX10_agree 0 = .ok (.iload_n 2, 1) := by decide +kernel
theorem dX10_agree_1 : decode cX10_agree 1 = .ok (.iconst 0, 1) := by decide +kernel
theorem dX10_agree_2 : decode cX10_agree 2 = .ok (.iconst 2, 1) := by decide +kernel
theorem dX10_agree_3 : decode cX10_agree 3 = .ok (.invokestatic 58, 3) := by decide +kernel
theorem dX10_agree_6 : decode cX10_agree 6 = .ok (.ifCond .eq 16, 3) := by decide +kernel
theorem dX10_agree_9 : decode cX10_agree 9 = .ok (.iload_n 1, 1) := by decide +kernel
theorem dX10_agree_10 : decode cX10_agree 10 = .ok (.ifCond .lt 12, 3) := by decide +kernel
theorem dX10_agree_13 : decode cX10_agree 13 = .ok (.iload_n 1, 1) := by decide +kernel
theorem dX10_agree_14 : decode cX10_agree 14 = .ok (.aload_n 0, 1) := by decide +kernel
theorem dX10_agree_15 : decode cX10_agree 15 = .ok (.iload_n 1, 1) := by decide +kernel
theorem dX10_agree_16 : decode cX10_agree 16 = .ok (.invokevirtual 246, 3) := by decide +kernel
theorem dX10_agree_19 : decode cX10_agree 19 = .ok (.if_icmp .lt 9, 3) := by decide +kernel
theorem dX10_agree_22 : decode cX10_agree 22 = .ok (.aload_n 0, 1) := by decide +kernel
theorem dX10_agree_23 : decode cX10_agree 23 = .ok (.iconst 1, 1) := by decide +kernel
theorem dX10_agree_24 : decode cX10_agree 24 = .ok (.invokevirtual 66, 3) := by decide +kernel
theorem dX10_agree_27 : decode cX10_agree 27 = .ok (.ireturn, 1) := by decide +kernel
theorem dX10_agree_28 : decode cX10_agree 28 = .ok (.iload_n 2, 1) := by decide +kernel
theorem dX10_agree_29 : decode cX10_agree 29 = .ok (.ifCond .ne 10, 3) := by decide +kernel
theorem dX10_agree_32 : decode cX10_agree 32 = .ok (.aload_n 0, 1) := by decide +kernel
theorem dX10_agree_33 : decode cX10_agree 33 = .ok (.getfield 240, 3) := by decide +kernel
theorem dX10_agree_36 : decode cX10_agree 36 = .ok (.goto 27, 3) := by decide +kernel
theorem dX10_agree_39 : decode cX10_agree 39 = .ok (.iload_n 2, 1) := by decide +kernel
theorem dX10_agree_40 : decode cX10_agree 40 = .ok (.iconst 1, 1) := by decide +kernel
theorem dX10_agree_41 : decode cX10_agree 41 = .ok (.if_icmp .ne 10, 3) := by decide +kernel
theorem dX10_agree_44 : decode cX10_agree 44 = .ok (.aload_n 0, 1) := by decide +kernel
theorem dX10_agree_45 : decode cX10_agree 45 = .ok (.getfield 243, 3) := by decide +kernel
theorem dX10_agree_48 : decode cX10_agree 48 = .ok (.goto 15, 3) := by decide +kernel
theorem dX10_agree_51 : decode cX10_agree 51 = .ok (.aload_n 0, 1) := by decide +kernel
theorem dX10_agree_52 : decode cX10_agree 52 = .ok (.aload_n 0, 1) := by decide +kernel
theorem dX10_agree_53 : decode cX10_agree 53 = .ok (.getfield 240, 3) := by decide +kernel
theorem dX10_agree_56 : decode cX10_agree 56 = .ok (.aload_n 0, 1) := by decide +kernel
theorem dX10_agree_57 : decode cX10_agree 57 = .ok (.getfield 243, 3) := by decide +kernel
theorem dX10_agree_60 : decode cX10_agree 60 = .ok (.invokevirtual 237, 3) := by decide +kernel
theorem dX10_agree_63 : decode cX10_agree 63 = .ok (.ireturn, 1) := by decide +kernel
def F_X10_agree (x1 : Int32) (x2 : Int32) (M : eMem) : Option (Int32 × eMem) :=
  (F_X10_in x2 0 2).bind fun q1 =>
  if q1 = 0 then
    (F_X10_finding 1 M).bind fun q2 =>
    some (q2.1, q2.2)
  else
    if x1 < 0 then
      (F_X10_finding 1 M).bind fun q3 =>
      some (q3.1, q3.2)
    else
      (F_X10_pairs x1 M).bind fun q4 =>
      if x1 < q4.1 then
        if x2 = 0 then
          some ((q4.2.1 0 19), q4.2)
        else
          if x2 = 1 then
            some ((q4.2.1 0 20), q4.2)
          else
            (F_X10_eyeOf (q4.2.1 0 19) (q4.2.1 0 20) q4.2).bind fun q5 =>
            some (q5, q4.2)
      else
        (F_X10_finding 1 q4.2).bind fun q6 =>
        some (q6.1, q6.2)
set_option maxRecDepth 100000 in
set_option maxHeartbeats 4000000 in
theorem ev_X10_agree (x1 : Int32) (x2 : Int32) (M : eMem) (q : (Int32 × eMem)) (h : F_X10_agree x1 x2 M = some q) : Ev layR 9 m_X10_agree 0 [some (.ref 0), some (.int x1), some (.int x2)] [] M (some (.int q.1), q.2) := by
  rw [F_X10_agree] at h
  refine Ev.iload_n (pc := 0) dX10_agree_0 rfl ?_
  refine Ev.iconst (pc := 1) dX10_agree_1 (v := 0) (by decide) ?_
  refine Ev.iconst (pc := 2) dX10_agree_2 (v := 2) (by decide) ?_
  refine eBk h (fun q1 hq1 h => ?_)
  refine Ev.callS (pc := 3) (as := [.int x2, .int 0, .int 2]) (st := []) (z := 0) dX10_agree_3 wc_X10_in ml_RX10_58 sm_X10_in (ev_X10_in x2 0 2 M _ hq1) rfl rfl (by decide) rfl rfl (Nat.le_of_ble_eq_true rfl) ?_
  refine Ev.if_eq (pc := 6) (tgt := 22) dX10_agree_6 (by decide) (fun c9 => ?_) (fun c9 => ?_)
  · have h := eT h c9
    refine Ev.aload_n (pc := 22) dX10_agree_22 rfl ?_
    refine Ev.iconst (pc := 23) dX10_agree_23 (v := 1) (by decide) ?_
    refine eBk h (fun q2 hq2 h => ?_)
    refine Ev.callV (pc := 24) (as := [.int 1]) (st := []) (z := 0) dX10_agree_24 wc_X10_finding ml_RX10_66 im_X10_finding se_X10_finding lR_0 rfl rfl (ev_X10_finding 1 M _ hq2) rfl rfl (by decide) rfl rfl (Nat.le_of_ble_eq_true rfl) ?_
    obtain rfl := Option.some.inj h
    exact Ev.iret (pc := 27) dX10_agree_27 rfl rfl
  · have h := eF h c9
    refine Ev.iload_n (pc := 9) dX10_agree_9 rfl ?_
    refine Ev.if_lt (pc := 10) (tgt := 22) dX10_agree_10 (by decide) (fun c9 => ?_) (fun c9 => ?_)
    · have h := eT h c9
      refine Ev.aload_n (pc := 22) dX10_agree_22 rfl ?_
      refine Ev.iconst (pc := 23) dX10_agree_23 (v := 1) (by decide) ?_
      refine eBk h (fun q3 hq3 h => ?_)
      refine Ev.callV (pc := 24) (as := [.int 1]) (st := []) (z := 0) dX10_agree_24 wc_X10_finding ml_RX10_66 im_X10_finding se_X10_finding lR_0 rfl rfl (ev_X10_finding 1 M _ hq3) rfl rfl (by decide) rfl rfl (Nat.le_of_ble_eq_true rfl) ?_
      obtain rfl := Option.some.inj h
      exact Ev.iret (pc := 27) dX10_agree_27 rfl rfl
    · have h := eF h c9
      refine Ev.iload_n (pc := 13) dX10_agree_13 rfl ?_
      refine Ev.aload_n (pc := 14) dX10_agree_14 rfl ?_
      refine Ev.iload_n (pc := 15) dX10_agree_15 rfl ?_
      refine eBk h (fun q4 hq4 h => ?_)
      refine Ev.callV (pc := 16) (as := [.int x1]) (st := [.int x1]) (z := 3) dX10_agree_16 wc_X10_pairs ml_RX10_246 im_X10_pairs se_X10_pairs lR_0 rfl rfl (ev_X10_pairs x1 M _ hq4) rfl rfl (by decide) rfl rfl (Nat.le_of_ble_eq_true rfl) ?_
      refine Ev.icmp_lt (pc := 19) (tgt := 28) dX10_agree_19 (by decide) (fun c9 => ?_) (fun c9 => ?_)
      · have h := eT h c9
        refine Ev.iload_n (pc := 28) dX10_agree_28 rfl ?_
        refine Ev.if_ne (pc := 29) (tgt := 39) dX10_agree_29 (by decide) (fun c9 => ?_) (fun c9 => ?_)
        · have h := eF h c9
          refine Ev.iload_n (pc := 39) dX10_agree_39 rfl ?_
          refine Ev.iconst (pc := 40) dX10_agree_40 (v := 1) (by decide) ?_
          refine Ev.icmp_ne (pc := 41) (tgt := 51) dX10_agree_41 (by decide) (fun c9 => ?_) (fun c9 => ?_)
          · have h := eF h c9
            refine Ev.aload_n (pc := 51) dX10_agree_51 rfl ?_
            refine Ev.aload_n (pc := 52) dX10_agree_52 rfl ?_
            refine Ev.getI (pc := 53) dX10_agree_53 fl_RX10_240 lR_0 rfl ?_
            refine Ev.aload_n (pc := 56) dX10_agree_56 rfl ?_
            refine Ev.getI (pc := 57) dX10_agree_57 fl_RX10_243 lR_0 rfl ?_
            refine eBk h (fun q5 hq5 h => ?_)
            refine Ev.callV (pc := 60) (as := [.int (q4.2.1 0 19), .int (q4.2.1 0 20)]) (st := []) (z := 2) dX10_agree_60 wc_X10_eyeOf ml_RX10_237 im_X10_eyeOf se_X10_eyeOf lR_0 rfl rfl (ev_X10_eyeOf (q4.2.1 0 19) (q4.2.1 0 20) q4.2 _ hq5) rfl rfl (by decide) rfl rfl (Nat.le_of_ble_eq_true rfl) ?_
            obtain rfl := Option.some.inj h
            exact Ev.iret (pc := 63) dX10_agree_63 rfl rfl
          · have h := eT h c9
            refine Ev.aload_n (pc := 44) dX10_agree_44 rfl ?_
            refine Ev.getI (pc := 45) dX10_agree_45 fl_RX10_243 lR_0 rfl ?_
            refine Ev.goto (pc := 48) (tgt := 63) dX10_agree_48 (by decide) ?_
            obtain rfl := Option.some.inj h
            exact Ev.iret (pc := 63) dX10_agree_63 rfl rfl
        · have h := eT h c9
          refine Ev.aload_n (pc := 32) dX10_agree_32 rfl ?_
          refine Ev.getI (pc := 33) dX10_agree_33 fl_RX10_240 lR_0 rfl ?_
          refine Ev.goto (pc := 36) (tgt := 63) dX10_agree_36 (by decide) ?_
          obtain rfl := Option.some.inj h
          exact Ev.iret (pc := 63) dX10_agree_63 rfl rfl
      · have h := eF h c9
        refine Ev.aload_n (pc := 22) dX10_agree_22 rfl ?_
        refine Ev.iconst (pc := 23) dX10_agree_23 (v := 1) (by decide) ?_
        refine eBk h (fun q6 hq6 h => ?_)
        refine Ev.callV (pc := 24) (as := [.int 1]) (st := []) (z := 0) dX10_agree_24 wc_X10_finding ml_RX10_66 im_X10_finding se_X10_finding lR_0 rfl rfl (ev_X10_finding 1 q4.2 _ hq6) rfl rfl (by decide) rfl rfl (Nat.le_of_ble_eq_true rfl) ?_
        obtain rfl := Option.some.inj h
        exact Ev.iret (pc := 27) dX10_agree_27 rfl rfl
theorem dX3_leaveRoomFor_0 : decode cX3_leaveRoomFor 0 = .ok (.iconst 0, 1) := by decide +kernel
theorem dX3_leaveRoomFor_1 : decode cX3_leaveRoomFor 1 = .ok (.aload_n 0, 1) := by decide +kernel
theorem dX3_leaveRoomFor_2 : decode cX3_leaveRoomFor 2 = .ok (.getfield 24, 3) := by decide +kernel
theorem dX3_leaveRoomFor_5 : decode cX3_leaveRoomFor 5 = .ok (.bipush 12, 2) := by decide +kernel
theorem dX3_leaveRoomFor_7 : decode cX3_leaveRoomFor 7 = .ok (.iload_n 1, 1) := by decide +kernel
theorem dX3_leaveRoomFor_8 : decode cX3_leaveRoomFor 8 = .ok (.isub, 1) := by decide +kernel
theorem dX3_leaveRoomFor_9 : decode cX3_leaveRoomFor 9 = .ok (.invokestatic 69, 3) := by decide +kernel
theorem dX3_leaveRoomFor_12 : decode cX3_leaveRoomFor 12 = .ok (.invokestatic 75, 3) := by decide +kernel
theorem dX3_leaveRoomFor_15 : decode cX3_leaveRoomFor 15 = .ok (.istore_n 2, 1) := by decide +kernel
theorem dX3_leaveRoomFor_16 : decode cX3_leaveRoomFor 16 = .ok (.aload_n 0, 1) := by decide +kernel
theorem dX3_leaveRoomFor_17 : decode cX3_leaveRoomFor 17 = .ok (.getfield 21, 3) := by decide +kernel
theorem dX3_leaveRoomFor_20 : decode cX3_leaveRoomFor 20 = .ok (.iload_n 2, 1) := by decide +kernel
theorem dX3_leaveRoomFor_21 : decode cX3_leaveRoomFor 21 = .ok (.aaload, 1) := by decide +kernel
theorem dX3_leaveRoomFor_22 : decode cX3_leaveRoomFor 22 = .ok (.iconst 0, 1) := by decide +kernel
theorem dX3_leaveRoomFor_23 : decode cX3_leaveRoomFor 23 = .ok (.aload_n 0, 1) := by decide +kernel
theorem dX3_leaveRoomFor_24 : decode cX3_leaveRoomFor 24 = .ok (.getfield 9, 3) := by decide +kernel
theorem dX3_leaveRoomFor_27 : decode cX3_leaveRoomFor 27 = .ok (.iconst 0, 1) := by decide +kernel
theorem dX3_leaveRoomFor_28 : decode cX3_leaveRoomFor 28 = .ok (.iconst 4, 1) := by decide +kernel
theorem dX3_leaveRoomFor_29 : decode cX3_leaveRoomFor 29 = .ok (.invokestatic 45, 3) := by decide +kernel
theorem dX3_leaveRoomFor_32 : decode cX3_leaveRoomFor 32 = .ok (.return_, 1) := by decide +kernel
def F_X3_leaveRoomFor (x1 : Int32) (M : eMem) : Option eMem :=
  eG (eIn (eMax 0 (eMin (M.1 55 2) (12 - x1))) 13) <|
  some (eCpyL M (59 + (eMax 0 (eMin (M.1 55 2) (12 - x1))).toNatClampNeg) 56 0 0 4)
set_option maxRecDepth 100000 in
set_option maxHeartbeats 4000000 in
theorem ev_X3_leaveRoomFor (x1 : Int32) (M : eMem) (q : eMem) (h : F_X3_leaveRoomFor x1 M = some q) : Ev layC 1 m_X3_leaveRoomFor 0 [some (.ref 55), some (.int x1), none] [] M (none, q) := by
  rw [F_X3_leaveRoomFor] at h
  refine Ev.iconst (pc := 0) dX3_leaveRoomFor_0 (v := 0) (by decide) ?_
  refine Ev.aload_n (pc := 1) dX3_leaveRoomFor_1 rfl ?_
  refine Ev.getI (pc := 2) dX3_leaveRoomFor_2 fl_RX3_24 lC_55 rfl ?_
  refine Ev.bipush (pc := 5) dX3_leaveRoomFor_5 (v := 12) (by decide) ?_
  refine Ev.iload_n (pc := 7) dX3_leaveRoomFor_7 rfl ?_
  refine Ev.isub (pc := 8) dX3_leaveRoomFor_8 ?_
  refine Ev.mmin (pc := 9) dX3_leaveRoomFor_9 mm_RX3_69 (by decide) (Nat.le_of_ble_eq_true rfl) ?_
  refine Ev.mmax (pc := 12) dX3_leaveRoomFor_12 mm_RX3_75 (by decide) (Nat.le_of_ble_eq_true rfl) ?_
  refine Ev.istore_n (pc := 15) dX3_leaveRoomFor_15 (by decide) rfl rfl ?_
  refine Ev.aload_n (pc := 16) dX3_leaveRoomFor_16 rfl ?_
  refine Ev.getR (pc := 17) dX3_leaveRoomFor_17 fl_RX3_21 lC_55 rfl ?_
  refine Ev.iload_n (pc := 20) dX3_leaveRoomFor_20 rfl ?_
  obtain ⟨g9, h⟩ := eGdB h
  have gg13 := eIn_lt g9
  refine Ev.aaldj (pc := 21) dX3_leaveRoomFor_21 (z := 59 + (eMax 0 (eMin (M.1 55 2) (12 - x1))).toNatClampNeg) lC_58 (by decide) (eIn_n0 g9) (grC_58 _ gg13) ?_
  refine Ev.iconst (pc := 22) dX3_leaveRoomFor_22 (v := 0) (by decide) ?_
  refine Ev.aload_n (pc := 23) dX3_leaveRoomFor_23 rfl ?_
  refine Ev.getR (pc := 24) dX3_leaveRoomFor_24 fl_RX3_9 lC_55 rfl ?_
  refine Ev.iconst (pc := 27) dX3_leaveRoomFor_27 (v := 0) (by decide) ?_
  refine Ev.iconst (pc := 28) dX3_leaveRoomFor_28 (v := 4) (by decide) ?_
  refine Ev.copyLj (pc := 29) (sp2 := 0) (dp2 := 0) (n2 := 4) dX3_leaveRoomFor_29 sy_RX3_45 (glC_58 _ gg13) lC_56 (by decide) (by decide) (by decide) (by decide) (by decide) (by decide) (by decide) (by decide) (by decide) (Nat.le_of_ble_eq_true rfl) ?_
  obtain rfl := Option.some.inj h
  exact Ev.vret (pc := 32) dX3_leaveRoomFor_32 rfl
