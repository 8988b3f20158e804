theorem dX9_count_0 : decode cX9_count 0 = .ok (.iload_n 1, 1) := by decide +kernel
theorem dX9_count_1 : decode cX9_count 1 = .ok (.tableswitch 234 0 14 #[75, 86, 97, 108, 119, 130, 141, 152, 163, 174, 185, 196, 204, 212, 223], 75) := by decide +kernel
theorem dX9_count_76 : decode cX9_count 76 = .ok (.aload_n 0, 1) := by decide +kernel
theorem dX9_count_77 : decode cX9_count 77 = .ok (.getfield 12, 3) := by decide +kernel
theorem dX9_count_80 : decode cX9_count 80 = .ok (.getfield 46, 3) := by decide +kernel
theorem dX9_count_83 : decode cX9_count 83 = .ok (.getfield 59, 3) := by decide +kernel
theorem dX9_count_86 : decode cX9_count 86 = .ok (.ireturn, 1) := by decide +kernel
theorem dX9_count_87 : decode cX9_count 87 = .ok (.aload_n 0, 1) := by decide +kernel
theorem dX9_count_88 : decode cX9_count 88 = .ok (.getfield 12, 3) := by decide +kernel
theorem dX9_count_91 : decode cX9_count 91 = .ok (.getfield 46, 3) := by decide +kernel
theorem dX9_count_94 : decode cX9_count 94 = .ok (.getfield 68, 3) := by decide +kernel
theorem dX9_count_97 : decode cX9_count 97 = .ok (.ireturn, 1) := by decide +kernel
theorem dX9_count_98 : decode cX9_count 98 = .ok (.aload_n 0, 1) := by decide +kernel
theorem dX9_count_99 : decode cX9_count 99 = .ok (.getfield 12, 3) := by decide +kernel
theorem dX9_count_102 : decode cX9_count 102 = .ok (.getfield 130, 3) := by decide +kernel
theorem dX9_count_105 : decode cX9_count 105 = .ok (.getfield 134, 3) := by decide +kernel
theorem dX9_count_108 : decode cX9_count 108 = .ok (.ireturn, 1) := by decide +kernel
theorem dX9_count_109 : decode cX9_count 109 = .ok (.aload_n 0, 1) := by decide +kernel
theorem dX9_count_110 : decode cX9_count 110 = .ok (.getfield 12, 3) := by decide +kernel
theorem dX9_count_113 : decode cX9_count 113 = .ok (.getfield 212, 3) := by decide +kernel
theorem dX9_count_116 : decode cX9_count 116 = .ok (.getfield 226, 3) := by decide +kernel
theorem dX9_count_119 : decode cX9_count 119 = .ok (.ireturn, 1) := by decide +kernel
theorem dX9_count_120 : decode cX9_count 120 = .ok (.aload_n 0, 1) := by decide +kernel
theorem dX9_count_121 : decode cX9_count 121 = .ok (.getfield 12, 3) := by decide +kernel
theorem dX9_count_124 : decode cX9_count 124 = .ok (.getfield 304, 3) := by decide +kernel
theorem dX9_count_127 : decode cX9_count 127 = .ok (.getfield 308, 3) := by decide +kernel
theorem dX9_count_130 : decode cX9_count 130 = .ok (.ireturn, 1) := by decide +kernel
theorem dX9_count_131 : decode cX9_count 131 = .ok (.aload_n 0, 1) := by decide +kernel
theorem dX9_count_132 : decode cX9_count 132 = .ok (.getfield 12, 3) := by decide +kernel
theorem dX9_count_135 : decode cX9_count 135 = .ok (.getfield 193, 3) := by decide +kernel
theorem dX9_count_138 : decode cX9_count 138 = .ok (.getfield 197, 3) := by decide +kernel
theorem dX9_count_141 : decode cX9_count 141 = .ok (.ireturn, 1) := by decide +kernel
theorem dX9_count_142 : decode cX9_count 142 = .ok (.aload_n 0, 1) := by decide +kernel
theorem dX9_count_143 : decode cX9_count 143 = .ok (.getfield 12, 3) := by decide +kernel
theorem dX9_count_146 : decode cX9_count 146 = .ok (.getfield 193, 3) := by decide +kernel
theorem dX9_count_149 : decode cX9_count 149 = .ok (.getfield 206, 3) := by decide +kernel
theorem dX9_count_152 : decode cX9_count 152 = .ok (.ireturn, 1) := by decide +kernel
theorem dX9_count_153 : decode cX9_count 153 = .ok (.aload_n 0, 1) := by decide +kernel
theorem dX9_count_154 : decode cX9_count 154 = .ok (.getfield 12, 3) := by decide +kernel
theorem dX9_count_157 : decode cX9_count 157 = .ok (.getfield 46, 3) := by decide +kernel
theorem dX9_count_160 : decode cX9_count 160 = .ok (.getfield 99, 3) := by decide +kernel
theorem dX9_count_163 : decode cX9_count 163 = .ok (.ireturn, 1) := by decide +kernel
theorem dX9_count_164 : decode cX9_count 164 = .ok (.aload_n 0, 1) := by decide +kernel
theorem dX9_count_165 : decode cX9_count 165 = .ok (.getfield 12, 3) := by decide +kernel
theorem dX9_count_168 : decode cX9_count 168 = .ok (.getfield 46, 3) := by decide +kernel
theorem dX9_count_171 : decode cX9_count 171 = .ok (.getfield 115, 3) := by decide +kernel
theorem dX9_count_174 : decode cX9_count 174 = .ok (.ireturn, 1) := by decide +kernel
theorem dX9_count_175 : decode cX9_count 175 = .ok (.aload_n 0, 1) := by decide +kernel
theorem dX9_count_176 : decode cX9_count 176 = .ok (.getfield 12, 3) := by decide +kernel
theorem dX9_count_179 : decode cX9_count 179 = .ok (.getfield 46, 3) := by decide +kernel
theorem dX9_count_182 : decode cX9_count 182 = .ok (.getfield 118, 3) := by decide +kernel
theorem dX9_count_185 : decode cX9_count 185 = .ok (.ireturn, 1) := by decide +kernel
theorem dX9_count_186 : decode cX9_count 186 = .ok (.aload_n 0, 1) := by decide +kernel
theorem dX9_count_187 : decode cX9_count 187 = .ok (.getfield 12, 3) := by decide +kernel
theorem dX9_count_190 : decode cX9_count 190 = .ok (.getfield 130, 3) := by decide +kernel
theorem dX9_count_193 : decode cX9_count 193 = .ok (.invokevirtual 409, 3) := by decide +kernel
theorem dX9_count_196 : decode cX9_count 196 = .ok (.ireturn, 1) := by decide +kernel
theorem dX9_count_197 : decode cX9_count 197 = .ok (.aload_n 0, 1) := by decide +kernel
theorem dX9_count_198 : decode cX9_count 198 = .ok (.getfield 12, 3) := by decide +kernel
theorem dX9_count_201 : decode cX9_count 201 = .ok (.invokevirtual 326, 3) := by decide +kernel
theorem dX9_count_204 : decode cX9_count 204 = .ok (.ireturn, 1) := by decide +kernel
theorem dX9_count_205 : decode cX9_count 205 = .ok (.aload_n 0, 1) := by decide +kernel
theorem dX9_count_206 : decode cX9_count 206 = .ok (.getfield 22, 3) := by decide +kernel
theorem dX9_count_209 : decode cX9_count 209 = .ok (.getfield 299, 3) := by decide +kernel
theorem dX9_count_212 : decode cX9_count 212 = .ok (.ireturn, 1) := by decide +kernel
theorem dX9_count_213 : decode cX9_count 213 = .ok (.aload_n 0, 1) := by decide +kernel
theorem dX9_count_214 : decode cX9_count 214 = .ok (.getfield 12, 3) := by decide +kernel
theorem dX9_count_217 : decode cX9_count 217 = .ok (.getfield 212, 3) := by decide +kernel
theorem dX9_count_220 : decode cX9_count 220 = .ok (.getfield 268, 3) := by decide +kernel
theorem dX9_count_223 : decode cX9_count 223 = .ok (.ireturn, 1) := by decide +kernel
theorem dX9_count_224 : decode cX9_count 224 = .ok (.aload_n 0, 1) := by decide +kernel
theorem dX9_count_225 : decode cX9_count 225 = .ok (.getfield 12, 3) := by decide +kernel
theorem dX9_count_228 : decode cX9_count 228 = .ok (.getfield 212, 3) := by decide +kernel
theorem dX9_count_231 : decode cX9_count 231 = .ok (.getfield 289, 3) := by decide +kernel
theorem dX9_count_234 : decode cX9_count 234 = .ok (.ireturn, 1) := by decide +kernel
theorem dX9_count_235 : decode cX9_count 235 = .ok (.aload_n 0, 1) := by decide +kernel
theorem dX9_count_236 : decode cX9_count 236 = .ok (.ldc 41, 2) := by decide +kernel
theorem dX9_count_238 : decode cX9_count 238 = .ok (.invokevirtual 42, 3) := by decide +kernel
theorem dX9_count_241 : decode cX9_count 241 = .ok (.ireturn, 1) := by decide +kernel
def F_X9_count (x1 : Int32) (M : eMem) : Option (Int32 × eMem) :=
  if x1 = 0 then
    some ((M.1 2 4), M)
  else
  if x1 = 1 then
    some ((M.1 2 9), M)
  else
  if x1 = 2 then
    some ((M.1 12 10), M)
  else
  if x1 = 3 then
    some ((M.1 29 7), M)
  else
  if x1 = 4 then
    some ((M.1 40 4), M)
  else
  if x1 = 5 then
    some ((M.1 23 4), M)
  else
  if x1 = 6 then
    some ((M.1 23 6), M)
  else
  if x1 = 7 then
    some ((M.1 2 11), M)
  else
  if x1 = 8 then
    some ((M.1 2 14), M)
  else
  if x1 = 9 then
    some ((M.1 2 15), M)
  else
  if x1 = 10 then
    (F_X5_standing M).bind fun q11 =>
    some (q11, M)
  else
  if x1 = 11 then
    (F_X8_collectPairs M).bind fun q13 =>
    some (q13.1, q13.2)
  else
  if x1 = 12 then
    some ((M.1 145 1), M)
  else
  if x1 = 13 then
    some ((M.1 29 8), M)
  else
  if x1 = 14 then
    some ((M.1 29 9), M)
  else
  (F_X9_found (-1000001) M).bind fun q18 =>
  some (q18.1, q18.2)
set_option maxRecDepth 100000 in
set_option maxHeartbeats 4000000 in
theorem ev_X9_count (x1 : Int32) (M : eMem) (q : (Int32 × eMem)) (h : F_X9_count x1 M = some q) : Ev layC 6 m_X9_count 0 [some (.ref 0), some (.int x1)] [] M (some (.int q.1), q.2) := by
  rw [F_X9_count] at h
  refine Ev.iload_n (pc := 0) dX9_count_0 rfl ?_
  by_cases cs1 : x1 = 0
  · have h := eT h cs1
    refine Ev.tsIn (pc := 1) (tgt := 76) (off := 75) dX9_count_1 (by rw [cs1]; decide) (by rw [cs1]; decide) (by rw [cs1]; rfl) (by decide) ?_
    refine Ev.aload_n (pc := 76) dX9_count_76 rfl ?_
    refine Ev.getR (pc := 77) dX9_count_77 fl_RX9_12 lC_0 rfl ?_
    refine Ev.getR (pc := 80) dX9_count_80 fl_RX9_46 lC_1 rfl ?_
    refine Ev.getI (pc := 83) dX9_count_83 fl_RX9_59 lC_2 rfl ?_
    obtain rfl := Option.some.inj h
    exact Ev.iret (pc := 86) dX9_count_86 rfl rfl
  have h := eF h cs1
  by_cases cs2 : x1 = 1
  · have h := eT h cs2
    refine Ev.tsIn (pc := 1) (tgt := 87) (off := 86) dX9_count_1 (by rw [cs2]; decide) (by rw [cs2]; decide) (by rw [cs2]; rfl) (by decide) ?_
    refine Ev.aload_n (pc := 87) dX9_count_87 rfl ?_
    refine Ev.getR (pc := 88) dX9_count_88 fl_RX9_12 lC_0 rfl ?_
    refine Ev.getR (pc := 91) dX9_count_91 fl_RX9_46 lC_1 rfl ?_
    refine Ev.getI (pc := 94) dX9_count_94 fl_RX9_68 lC_2 rfl ?_
    obtain rfl := Option.some.inj h
    exact Ev.iret (pc := 97) dX9_count_97 rfl rfl
  have h := eF h cs2
  by_cases cs3 : x1 = 2
  · have h := eT h cs3
    refine Ev.tsIn (pc := 1) (tgt := 98) (off := 97) dX9_count_1 (by rw [cs3]; decide) (by rw [cs3]; decide) (by rw [cs3]; rfl) (by decide) ?_
    refine Ev.aload_n (pc := 98) dX9_count_98 rfl ?_
    refine Ev.getR (pc := 99) dX9_count_99 fl_RX9_12 lC_0 rfl ?_
    refine Ev.getR (pc := 102) dX9_count_102 fl_RX9_130 lC_1 rfl ?_
    refine Ev.getI (pc := 105) dX9_count_105 fl_RX9_134 lC_12 rfl ?_
    obtain rfl := Option.some.inj h
    exact Ev.iret (pc := 108) dX9_count_108 rfl rfl
  have h := eF h cs3
  by_cases cs4 : x1 = 3
  · have h := eT h cs4
    refine Ev.tsIn (pc := 1) (tgt := 109) (off := 108) dX9_count_1 (by rw [cs4]; decide) (by rw [cs4]; decide) (by rw [cs4]; rfl) (by decide) ?_
    refine Ev.aload_n (pc := 109) dX9_count_109 rfl ?_
    refine Ev.getR (pc := 110) dX9_count_110 fl_RX9_12 lC_0 rfl ?_
    refine Ev.getR (pc := 113) dX9_count_113 fl_RX9_212 lC_1 rfl ?_
    refine Ev.getI (pc := 116) dX9_count_116 fl_RX9_226 lC_29 rfl ?_
    obtain rfl := Option.some.inj h
    exact Ev.iret (pc := 119) dX9_count_119 rfl rfl
  have h := eF h cs4
  by_cases cs5 : x1 = 4
  · have h := eT h cs5
    refine Ev.tsIn (pc := 1) (tgt := 120) (off := 119) dX9_count_1 (by rw [cs5]; decide) (by rw [cs5]; decide) (by rw [cs5]; rfl) (by decide) ?_
    refine Ev.aload_n (pc := 120) dX9_count_120 rfl ?_
    refine Ev.getR (pc := 121) dX9_count_121 fl_RX9_12 lC_0 rfl ?_
    refine Ev.getR (pc := 124) dX9_count_124 fl_RX9_304 lC_1 rfl ?_
    refine Ev.getI (pc := 127) dX9_count_127 fl_RX9_308 lC_40 rfl ?_
    obtain rfl := Option.some.inj h
    exact Ev.iret (pc := 130) dX9_count_130 rfl rfl
  have h := eF h cs5
  by_cases cs6 : x1 = 5
  · have h := eT h cs6
    refine Ev.tsIn (pc := 1) (tgt := 131) (off := 130) dX9_count_1 (by rw [cs6]; decide) (by rw [cs6]; decide) (by rw [cs6]; rfl) (by decide) ?_
    refine Ev.aload_n (pc := 131) dX9_count_131 rfl ?_
    refine Ev.getR (pc := 132) dX9_count_132 fl_RX9_12 lC_0 rfl ?_
    refine Ev.getR (pc := 135) dX9_count_135 fl_RX9_193 lC_1 rfl ?_
    refine Ev.getI (pc := 138) dX9_count_138 fl_RX9_197 lC_23 rfl ?_
    obtain rfl := Option.some.inj h
    exact Ev.iret (pc := 141) dX9_count_141 rfl rfl
  have h := eF h cs6
  by_cases cs7 : x1 = 6
  · have h := eT h cs7
    refine Ev.tsIn (pc := 1) (tgt := 142) (off := 141) dX9_count_1 (by rw [cs7]; decide) (by rw [cs7]; decide) (by rw [cs7]; rfl) (by decide) ?_
    refine Ev.aload_n (pc := 142) dX9_count_142 rfl ?_
    refine Ev.getR (pc := 143) dX9_count_143 fl_RX9_12 lC_0 rfl ?_
    refine Ev.getR (pc := 146) dX9_count_146 fl_RX9_193 lC_1 rfl ?_
    refine Ev.getI (pc := 149) dX9_count_149 fl_RX9_206 lC_23 rfl ?_
    obtain rfl := Option.some.inj h
    exact Ev.iret (pc := 152) dX9_count_152 rfl rfl
  have h := eF h cs7
  by_cases cs8 : x1 = 7
  · have h := eT h cs8
    refine Ev.tsIn (pc := 1) (tgt := 153) (off := 152) dX9_count_1 (by rw [cs8]; decide) (by rw [cs8]; decide) (by rw [cs8]; rfl) (by decide) ?_
    refine Ev.aload_n (pc := 153) dX9_count_153 rfl ?_
    refine Ev.getR (pc := 154) dX9_count_154 fl_RX9_12 lC_0 rfl ?_
    refine Ev.getR (pc := 157) dX9_count_157 fl_RX9_46 lC_1 rfl ?_
    refine Ev.getI (pc := 160) dX9_count_160 fl_RX9_99 lC_2 rfl ?_
    obtain rfl := Option.some.inj h
    exact Ev.iret (pc := 163) dX9_count_163 rfl rfl
  have h := eF h cs8
  by_cases cs9 : x1 = 8
  · have h := eT h cs9
    refine Ev.tsIn (pc := 1) (tgt := 164) (off := 163) dX9_count_1 (by rw [cs9]; decide) (by rw [cs9]; decide) (by rw [cs9]; rfl) (by decide) ?_
    refine Ev.aload_n (pc := 164) dX9_count_164 rfl ?_
    refine Ev.getR (pc := 165) dX9_count_165 fl_RX9_12 lC_0 rfl ?_
    refine Ev.getR (pc := 168) dX9_count_168 fl_RX9_46 lC_1 rfl ?_
    refine Ev.getI (pc := 171) dX9_count_171 fl_RX9_115 lC_2 rfl ?_
    obtain rfl := Option.some.inj h
    exact Ev.iret (pc := 174) dX9_count_174 rfl rfl
  have h := eF h cs9
  by_cases cs10 : x1 = 9
  · have h := eT h cs10
    refine Ev.tsIn (pc := 1) (tgt := 175) (off := 174) dX9_count_1 (by rw [cs10]; decide) (by rw [cs10]; decide) (by rw [cs10]; rfl) (by decide) ?_
    refine Ev.aload_n (pc := 175) dX9_count_175 rfl ?_
    refine Ev.getR (pc := 176) dX9_count_176 fl_RX9_12 lC_0 rfl ?_
    refine Ev.getR (pc := 179) dX9_count_179 fl_RX9_46 lC_1 rfl ?_
    refine Ev.getI (pc := 182) dX9_count_182 fl_RX9_118 lC_2 rfl ?_
    obtain rfl := Option.some.inj h
    exact Ev.iret (pc := 185) dX9_count_185 rfl rfl
  have h := eF h cs10
  by_cases cs12 : x1 = 10
  · have h := eT h cs12
    refine Ev.tsIn (pc := 1) (tgt := 186) (off := 185) dX9_count_1 (by rw [cs12]; decide) (by rw [cs12]; decide) (by rw [cs12]; rfl) (by decide) ?_
    refine Ev.aload_n (pc := 186) dX9_count_186 rfl ?_
    refine Ev.getR (pc := 187) dX9_count_187 fl_RX9_12 lC_0 rfl ?_
    refine Ev.getR (pc := 190) dX9_count_190 fl_RX9_130 lC_1 rfl ?_
    refine eBk h (fun q11 hq11 h => ?_)
    refine Ev.callV (pc := 193) (as := []) (st := []) (z := 2) dX9_count_193 wc_X5_standing ml_RX9_409 im_X5_standing se_X5_standing lC_12 rfl rfl (ev_X5_standing  M _ hq11) rfl rfl (by decide) rfl rfl (Nat.le_of_ble_eq_true rfl) ?_
    obtain rfl := Option.some.inj h
    exact Ev.iret (pc := 196) dX9_count_196 rfl rfl
  have h := eF h cs12
  by_cases cs14 : x1 = 11
  · have h := eT h cs14
    refine Ev.tsIn (pc := 1) (tgt := 197) (off := 196) dX9_count_1 (by rw [cs14]; decide) (by rw [cs14]; decide) (by rw [cs14]; rfl) (by decide) ?_
    refine Ev.aload_n (pc := 197) dX9_count_197 rfl ?_
    refine Ev.getR (pc := 198) dX9_count_198 fl_RX9_12 lC_0 rfl ?_
    refine eBk h (fun q13 hq13 h => ?_)
    refine Ev.callV (pc := 201) (as := []) (st := []) (z := 5) dX9_count_201 wc_X8_collectPairs ml_RX9_326 im_X8_collectPairs se_X8_collectPairs lC_1 rfl rfl (ev_X8_collectPairs  M _ hq13) rfl rfl (by decide) rfl rfl (Nat.le_of_ble_eq_true rfl) ?_
    obtain rfl := Option.some.inj h
    exact Ev.iret (pc := 204) dX9_count_204 rfl rfl
  have h := eF h cs14
  by_cases cs15 : x1 = 12
  · have h := eT h cs15
    refine Ev.tsIn (pc := 1) (tgt := 205) (off := 204) dX9_count_1 (by rw [cs15]; decide) (by rw [cs15]; decide) (by rw [cs15]; rfl) (by decide) ?_
    refine Ev.aload_n (pc := 205) dX9_count_205 rfl ?_
    refine Ev.getR (pc := 206) dX9_count_206 fl_RX9_22 lC_0 rfl ?_
    refine Ev.getI (pc := 209) dX9_count_209 fl_RX9_299 lC_145 rfl ?_
    obtain rfl := Option.some.inj h
    exact Ev.iret (pc := 212) dX9_count_212 rfl rfl
  have h := eF h cs15
  by_cases cs16 : x1 = 13
  · have h := eT h cs16
    refine Ev.tsIn (pc := 1) (tgt := 213) (off := 212) dX9_count_1 (by rw [cs16]; decide) (by rw [cs16]; decide) (by rw [cs16]; rfl) (by decide) ?_
    refine Ev.aload_n (pc := 213) dX9_count_213 rfl ?_
    refine Ev.getR (pc := 214) dX9_count_214 fl_RX9_12 lC_0 rfl ?_
    refine Ev.getR (pc := 217) dX9_count_217 fl_RX9_212 lC_1 rfl ?_
    refine Ev.getI (pc := 220) dX9_count_220 fl_RX9_268 lC_29 rfl ?_
    obtain rfl := Option.some.inj h
    exact Ev.iret (pc := 223) dX9_count_223 rfl rfl
  have h := eF h cs16
  by_cases cs17 : x1 = 14
  · have h := eT h cs17
    refine Ev.tsIn (pc := 1) (tgt := 224) (off := 223) dX9_count_1 (by rw [cs17]; decide) (by rw [cs17]; decide) (by rw [cs17]; rfl) (by decide) ?_
    refine Ev.aload_n (pc := 224) dX9_count_224 rfl ?_
    refine Ev.getR (pc := 225) dX9_count_225 fl_RX9_12 lC_0 rfl ?_
    refine Ev.getR (pc := 228) dX9_count_228 fl_RX9_212 lC_1 rfl ?_
    refine Ev.getI (pc := 231) dX9_count_231 fl_RX9_289 lC_29 rfl ?_
    obtain rfl := Option.some.inj h
    exact Ev.iret (pc := 234) dX9_count_234 rfl rfl
  have h := eF h cs17
  refine Ev.tsOut (pc := 1) (tgt := 235) dX9_count_1 (eTsO 15 (by decide) (by decide) (by decide) (by
    intro k hk
    rcases (show k = 0 ∨ k = 1 ∨ k = 2 ∨ k = 3 ∨ k = 4 ∨ k = 5 ∨ k = 6 ∨ k = 7 ∨ k = 8 ∨ k = 9 ∨ k = 10 ∨ k = 11 ∨ k = 12 ∨ k = 13 ∨ k = 14 by omega) with rfl | rfl | rfl | rfl | rfl | rfl | rfl | rfl | rfl | rfl | rfl | rfl | rfl | rfl | rfl
    · exact cs1
    · exact cs2
    · exact cs3
    · exact cs4
    · exact cs5
    · exact cs6
    · exact cs7
    · exact cs8
    · exact cs9
    · exact cs10
    · exact cs12
    · exact cs14
    · exact cs15
    · exact cs16
    · exact cs17
    )) (by decide) ?_
  refine Ev.aload_n (pc := 235) dX9_count_235 rfl ?_
  refine Ev.ldc (pc := 236) dX9_count_236 ld_RX9_41 ?_
  refine eBk h (fun q18 hq18 h => ?_)
  refine Ev.callV (pc := 238) (as := [.int (-1000001)]) (st := []) (z := 1) dX9_count_238 wc_X9_found ml_RX9_42 im_X9_found se_X9_found lC_0 rfl rfl (ev_X9_found (-1000001) M _ hq18) rfl rfl (by decide) rfl rfl (Nat.le_of_ble_eq_true rfl) ?_
  obtain rfl := Option.some.inj h
  exact Ev.iret (pc := 241) dX9_count_241 rfl rfl
theorem dX10_count_0 : decode cX10_count 0 = .ok (.iload_n 1, 1) := by decide +kernel
theorem dX10_count_1 : decode cX10_count 1 = .ok (.tableswitch 183 0 14 #[75, 83, 91, 99, 107, 115, 123, 131, 138, 145, 152, 157, 163, 168, 175], 75) := by decide +kernel
theorem dX10_count_76 : decode cX10_count 76 = .ok (.aload_n 0, 1) := by decide +kernel
theorem dX10_count_77 : decode cX10_count 77 = .ok (.getfield 7, 3) := by decide +kernel
theorem dX10_count_80 : decode cX10_count 80 = .ok (.bipush 7, 2) := by decide +kernel
theorem dX10_count_82 : decode cX10_count 82 = .ok (.iaload, 1) := by decide +kernel
theorem dX10_count_83 : decode cX10_count 83 = .ok (.ireturn, 1) := by decide +kernel
theorem dX10_count_84 : decode cX10_count 84 = .ok (.aload_n 0, 1) := by decide +kernel
theorem dX10_count_85 : decode cX10_count 85 = .ok (.getfield 7, 3) := by decide +kernel
theorem dX10_count_88 : decode cX10_count 88 = .ok (.bipush 8, 2) := by decide +kernel
theorem dX10_count_90 : decode cX10_count 90 = .ok (.iaload, 1) := by decide +kernel
theorem dX10_count_91 : decode cX10_count 91 = .ok (.ireturn, 1) := by decide +kernel
theorem dX10_count_92 : decode cX10_count 92 = .ok (.aload_n 0, 1) := by decide +kernel
theorem dX10_count_93 : decode cX10_count 93 = .ok (.getfield 7, 3) := by decide +kernel
theorem dX10_count_96 : decode cX10_count 96 = .ok (.bipush 9, 2) := by decide +kernel
theorem dX10_count_98 : decode cX10_count 98 = .ok (.iaload, 1) := by decide +kernel
theorem dX10_count_99 : decode cX10_count 99 = .ok (.ireturn, 1) := by decide +kernel
theorem dX10_count_100 : decode cX10_count 100 = .ok (.aload_n 0, 1) := by decide +kernel
theorem dX10_count_101 : decode cX10_count 101 = .ok (.getfield 7, 3) := by decide +kernel
theorem dX10_count_104 : decode cX10_count 104 = .ok (.bipush 10, 2) := by decide +kernel
theorem dX10_count_106 : decode cX10_count 106 = .ok (.iaload, 1) := by decide +kernel
theorem dX10_count_107 : decode cX10_count 107 = .ok (.ireturn, 1) := by decide +kernel
theorem dX10_count_108 : decode cX10_count 108 = .ok (.aload_n 0, 1) := by decide +kernel
theorem dX10_count_109 : decode cX10_count 109 = .ok (.getfield 7, 3) := by decide +kernel
theorem dX10_count_112 : decode cX10_count 112 = .ok (.bipush 11, 2) := by decide +kernel
theorem dX10_count_114 : decode cX10_count 114 = .ok (.iaload, 1) := by decide +kernel
theorem dX10_count_115 : decode cX10_count 115 = .ok (.ireturn, 1) := by decide +kernel
theorem dX10_count_116 : decode cX10_count 116 = .ok (.aload_n 0, 1) := by decide +kernel
theorem dX10_count_117 : decode cX10_count 117 = .ok (.getfield 7, 3) := by decide +kernel
theorem dX10_count_120 : decode cX10_count 120 = .ok (.bipush 12, 2) := by decide +kernel
theorem dX10_count_122 : decode cX10_count 122 = .ok (.iaload, 1) := by decide +kernel
theorem dX10_count_123 : decode cX10_count 123 = .ok (.ireturn, 1) := by decide +kernel
theorem dX10_count_124 : decode cX10_count 124 = .ok (.aload_n 0, 1) := by decide +kernel
theorem dX10_count_125 : decode cX10_count 125 = .ok (.getfield 7, 3) := by decide +kernel
theorem dX10_count_128 : decode cX10_count 128 = .ok (.bipush 13, 2) := by decide +kernel
theorem dX10_count_130 : decode cX10_count 130 = .ok (.iaload, 1) := by decide +kernel
theorem dX10_count_131 : decode cX10_count 131 = .ok (.ireturn, 1) := by decide +kernel
theorem dX10_count_132 : decode cX10_count 132 = .ok (.aload_n 0, 1) := by decide +kernel
theorem dX10_count_133 : decode cX10_count 133 = .ok (.getfield 7, 3) := by decide +kernel
theorem dX10_count_136 : decode cX10_count 136 = .ok (.iconst 0, 1) := by decide +kernel
theorem dX10_count_137 : decode cX10_count 137 = .ok (.iaload, 1) := by decide +kernel
theorem dX10_count_138 : decode cX10_count 138 = .ok (.ireturn, 1) := by decide +kernel
theorem dX10_count_139 : decode cX10_count 139 = .ok (.aload_n 0, 1) := by decide +kernel
theorem dX10_count_140 : decode cX10_count 140 = .ok (.getfield 7, 3) := by decide +kernel
theorem dX10_count_143 : decode cX10_count 143 = .ok (.iconst 3, 1) := by decide +kernel
theorem dX10_count_144 : decode cX10_count 144 = .ok (.iaload, 1) := by decide +kernel
theorem dX10_count_145 : decode cX10_count 145 = .ok (.ireturn, 1) := by decide +kernel
theorem dX10_count_146 : decode cX10_count 146 = .ok (.aload_n 0, 1) := by decide +kernel
theorem dX10_count_147 : decode cX10_count 147 = .ok (.getfield 7, 3) := by decide +kernel
theorem dX10_count_150 : decode cX10_count 150 = .ok (.iconst 4, 1) := by decide +kernel
theorem dX10_count_151 : decode cX10_count 151 = .ok (.iaload, 1) := by decide +kernel
theorem dX10_count_152 : decode cX10_count 152 = .ok (.ireturn, 1) := by decide +kernel
theorem dX10_count_153 : decode cX10_count 153 = .ok (.aload_n 0, 1) := by decide +kernel
theorem dX10_count_154 : decode cX10_count 154 = .ok (.invokevirtual 265, 3) := by decide +kernel
theorem dX10_count_157 : decode cX10_count 157 = .ok (.ireturn, 1) := by decide +kernel
theorem dX10_count_158 : decode cX10_count 158 = .ok (.aload_n 0, 1) := by decide +kernel
theorem dX10_count_159 : decode cX10_count 159 = .ok (.iconst (-1), 1) := by decide +kernel
theorem dX10_count_160 : decode cX10_count 160 = .ok (.invokevirtual 246, 3) := by decide +kernel
theorem dX10_count_163 : decode cX10_count 163 = .ok (.ireturn, 1) := by decide +kernel
theorem dX10_count_164 : decode cX10_count 164 = .ok (.aload_n 0, 1) := by decide +kernel
theorem dX10_count_165 : decode cX10_count 165 = .ok (.getfield 179, 3) := by decide +kernel
theorem dX10_count_168 : decode cX10_count 168 = .ok (.ireturn, 1) := by decide +kernel
theorem dX10_count_169 : decode cX10_count 169 = .ok (.aload_n 0, 1) := by decide +kernel
theorem dX10_count_170 : decode cX10_count 170 = .ok (.getfield 7, 3) := by decide +kernel
theorem dX10_count_173 : decode cX10_count 173 = .ok (.iconst 5, 1) := by decide +kernel
theorem dX10_count_174 : decode cX10_count 174 = .ok (.iaload, 1) := by decide +kernel
theorem dX10_count_175 : decode cX10_count 175 = .ok (.ireturn, 1) := by decide +kernel
theorem dX10_count_176 : decode cX10_count 176 = .ok (.aload_n 0, 1) := by decide +kernel
theorem dX10_count_177 : decode cX10_count 177 = .ok (.getfield 7, 3) := by decide +kernel
theorem dX10_count_180 : decode cX10_count 180 = .ok (.bipush 6, 2) := by decide +kernel
theorem dX10_count_182 : decode cX10_count 182 = .ok (.iaload, 1) := by decide +kernel
theorem dX10_count_183 : decode cX10_count 183 = .ok (.ireturn, 1) := by decide +kernel
theorem dX10_count_184 : decode cX10_count 184 = .ok (.aload_n 0, 1) := by decide +kernel
theorem dX10_count_185 : decode cX10_count 185 = .ok (.iconst 1, 1) := by decide +kernel
theorem dX10_count_186 : decode cX10_count 186 = .ok (.invokevirtual 66, 3) := by decide +kernel
theorem dX10_count_189 : decode cX10_count 189 = .ok (.ireturn, 1) := by decide +kernel
def F_X10_count (x1 : Int32) (M : eMem) : Option (Int32 × eMem) :=
  if x1 = 0 then
    some ((M.1 1 7), M)
  else
  if x1 = 1 then
    some ((M.1 1 8), M)
  else
  if x1 = 2 then
    some ((M.1 1 9), M)
  else
  if x1 = 3 then
    some ((M.1 1 10), M)
  else
  if x1 = 4 then
    some ((M.1 1 11), M)
  else
  if x1 = 5 then
    some ((M.1 1 12), M)
  else
  if x1 = 6 then
    some ((M.1 1 13), M)
  else
  if x1 = 7 then
    some ((M.1 1 0), M)
  else
  if x1 = 8 then
    some ((M.1 1 3), M)
  else
  if x1 = 9 then
    some ((M.1 1 4), M)
  else
  if x1 = 10 then
    (F_X10_standing M).bind fun q11 =>
    some (q11, M)
  else
  if x1 = 11 then
    (F_X10_pairs (-1) M).bind fun q13 =>
    some (q13.1, q13.2)
  else
  if x1 = 12 then
    some ((M.1 0 3), M)
  else
  if x1 = 13 then
    some ((M.1 1 5), M)
  else
  if x1 = 14 then
    some ((M.1 1 6), M)
  else
  (F_X10_finding 1 M).bind fun q18 =>
  some (q18.1, q18.2)
set_option maxRecDepth 100000 in
set_option maxHeartbeats 4000000 in
theorem ev_X10_count (x1 : Int32) (M : eMem) (q : (Int32 × eMem)) (h : F_X10_count x1 M = some q) : Ev layR 9 m_X10_count 0 [some (.ref 0), some (.int x1)] [] M (some (.int q.1), q.2) := by
  rw [F_X10_count] at h
  refine Ev.iload_n (pc := 0) dX10_count_0 rfl ?_
  by_cases cs1 : x1 = 0
  · have h := eT h cs1
    refine Ev.tsIn (pc := 1) (tgt := 76) (off := 75) dX10_count_1 (by rw [cs1]; decide) (by rw [cs1]; decide) (by rw [cs1]; rfl) (by decide) ?_
    refine Ev.aload_n (pc := 76) dX10_count_76 rfl ?_
    refine Ev.getR (pc := 77) dX10_count_77 fl_RX10_7 lR_0 rfl ?_
    refine Ev.bipush (pc := 80) dX10_count_80 (v := 7) (by decide) ?_
    refine Ev.ialdj (pc := 82) dX10_count_82 (j := 7) lR_1 (by decide) (by decide) ?_
    obtain rfl := Option.some.inj h
    exact Ev.iret (pc := 83) dX10_count_83 rfl rfl
  have h := eF h cs1
  by_cases cs2 : x1 = 1
  · have h := eT h cs2
    refine Ev.tsIn (pc := 1) (tgt := 84) (off := 83) dX10_count_1 (by rw [cs2]; decide) (by rw [cs2]; decide) (by rw [cs2]; rfl) (by decide) ?_
    refine Ev.aload_n (pc := 84) dX10_count_84 rfl ?_
    refine Ev.getR (pc := 85) dX10_count_85 fl_RX10_7 lR_0 rfl ?_
    refine Ev.bipush (pc := 88) dX10_count_88 (v := 8) (by decide) ?_
    refine Ev.ialdj (pc := 90) dX10_count_90 (j := 8) lR_1 (by decide) (by decide) ?_
    obtain rfl := Option.some.inj h
    exact Ev.iret (pc := 91) dX10_count_91 rfl rfl
  have h := eF h cs2
  by_cases cs3 : x1 = 2
  · have h := eT h cs3
    refine Ev.tsIn (pc := 1) (tgt := 92) (off := 91) dX10_count_1 (by rw [cs3]; decide) (by rw [cs3]; decide) (by rw [cs3]; rfl) (by decide) ?_
    refine Ev.aload_n (pc := 92) dX10_count_92 rfl ?_
    refine Ev.getR (pc := 93) dX10_count_93 fl_RX10_7 lR_0 rfl ?_
    refine Ev.bipush (pc := 96) dX10_count_96 (v := 9) (by decide) ?_
    refine Ev.ialdj (pc := 98) dX10_count_98 (j := 9) lR_1 (by decide) (by decide) ?_
    obtain rfl := Option.some.inj h
    exact Ev.iret (pc := 99) dX10_count_99 rfl rfl
  have h := eF h cs3
  by_cases cs4 : x1 = 3
  · have h := eT h cs4
    refine Ev.tsIn (pc := 1) (tgt := 100) (off := 99) dX10_count_1 (by rw [cs4]; decide) (by rw [cs4]; decide) (by rw [cs4]; rfl) (by decide) ?_
    refine Ev.aload_n (pc := 100) dX10_count_100 rfl ?_
    refine Ev.getR (pc := 101) dX10_count_101 fl_RX10_7 lR_0 rfl ?_
    refine Ev.bipush (pc := 104) dX10_count_104 (v := 10) (by decide) ?_
    refine Ev.ialdj (pc := 106) dX10_count_106 (j := 10) lR_1 (by decide) (by decide) ?_
    obtain rfl := Option.some.inj h
    exact Ev.iret (pc := 107) dX10_count_107 rfl rfl
  have h := eF h cs4
  by_cases cs5 : x1 = 4
  · have h := eT h cs5
    refine Ev.tsIn (pc := 1) (tgt := 108) (off := 107) dX10_count_1 (by rw [cs5]; decide) (by rw [cs5]; decide) (by rw [cs5]; rfl) (by decide) ?_
    refine Ev.aload_n (pc := 108) dX10_count_108 rfl ?_
    refine Ev.getR (pc := 109) dX10_count_109 fl_RX10_7 lR_0 rfl ?_
    refine Ev.bipush (pc := 112) dX10_count_112 (v := 11) (by decide) ?_
    refine Ev.ialdj (pc := 114) dX10_count_114 (j := 11) lR_1 (by decide) (by decide) ?_
    obtain rfl := Option.some.inj h
    exact Ev.iret (pc := 115) dX10_count_115 rfl rfl
  have h := eF h cs5
  by_cases cs6 : x1 = 5
  · have h := eT h cs6
    refine Ev.tsIn (pc := 1) (tgt := 116) (off := 115) dX10_count_1 (by rw [cs6]; decide) (by rw [cs6]; decide) (by rw [cs6]; rfl) (by decide) ?_
    refine Ev.aload_n (pc := 116) dX10_count_116 rfl ?_
    refine Ev.getR (pc := 117) dX10_count_117 fl_RX10_7 lR_0 rfl ?_
    refine Ev.bipush (pc := 120) dX10_count_120 (v := 12) (by decide) ?_
    refine Ev.ialdj (pc := 122) dX10_count_122 (j := 12) lR_1 (by decide) (by decide) ?_
    obtain rfl := Option.some.inj h
    exact Ev.iret (pc := 123) dX10_count_123 rfl rfl
  have h := eF h cs6
  by_cases cs7 : x1 = 6
  · have h := eT h cs7
    refine Ev.tsIn (pc := 1) (tgt := 124) (off := 123) dX10_count_1 (by rw [cs7]; decide) (by rw [cs7]; decide) (by rw [cs7]; rfl) (by decide) ?_
    refine Ev.aload_n (pc := 124) dX10_count_124 rfl ?_
    refine Ev.getR (pc := 125) dX10_count_125 fl_RX10_7 lR_0 rfl ?_
    refine Ev.bipush (pc := 128) dX10_count_128 (v := 13) (by decide) ?_
    refine Ev.ialdj (pc := 130) dX10_count_130 (j := 13) lR_1 (by decide) (by decide) ?_
    obtain rfl := Option.some.inj h
    exact Ev.iret (pc := 131) dX10_count_131 rfl rfl
  have h := eF h cs7
  by_cases cs8 : x1 = 7
  · have h := eT h cs8
    refine Ev.tsIn (pc := 1) (tgt := 132) (off := 131) dX10_count_1 (by rw [cs8]; decide) (by rw [cs8]; decide) (by rw [cs8]; rfl) (by decide) ?_
    refine Ev.aload_n (pc := 132) dX10_count_132 rfl ?_
    refine Ev.getR (pc := 133) dX10_count_133 fl_RX10_7 lR_0 rfl ?_
    refine Ev.iconst (pc := 136) dX10_count_136 (v := 0) (by decide) ?_
    refine Ev.ialdj (pc := 137) dX10_count_137 (j := 0) lR_1 (by decide) (by decide) ?_
    obtain rfl := Option.some.inj h
    exact Ev.iret (pc := 138) dX10_count_138 rfl rfl
  have h := eF h cs8
  by_cases cs9 : x1 = 8
  · have h := eT h cs9
    refine Ev.tsIn (pc := 1) (tgt := 139) (off := 138) dX10_count_1 (by rw [cs9]; decide) (by rw [cs9]; decide) (by rw [cs9]; rfl) (by decide) ?_
    refine Ev.aload_n (pc := 139) dX10_count_139 rfl ?_
    refine Ev.getR (pc := 140) dX10_count_140 fl_RX10_7 lR_0 rfl ?_
    refine Ev.iconst (pc := 143) dX10_count_143 (v := 3) (by decide) ?_
    refine Ev.ialdj (pc := 144) dX10_count_144 (j := 3) lR_1 (by decide) (by decide) ?_
    obtain rfl := Option.some.inj h
    exact Ev.iret (pc := 145) dX10_count_145 rfl rfl
  have h := eF h cs9
  by_cases cs10 : x1 = 9
  · have h := eT h cs10
    refine Ev.tsIn (pc := 1) (tgt := 146) (off := 145) dX10_count_1 (by rw [cs10]; decide) (by rw [cs10]; decide) (by rw [cs10]; rfl) (by decide) ?_
    refine Ev.aload_n (pc := 146) dX10_count_146 rfl ?_
    refine Ev.getR (pc := 147) dX10_count_147 fl_RX10_7 lR_0 rfl ?_
    refine Ev.iconst (pc := 150) dX10_count_150 (v := 4) (by decide) ?_
    refine Ev.ialdj (pc := 151) dX10_count_151 (j := 4) lR_1 (by decide) (by decide) ?_
    obtain rfl := Option.some.inj h
    exact Ev.iret (pc := 152) dX10_count_152 rfl rfl
  have h := eF h cs10
  by_cases cs12 : x1 = 10
  · have h := eT h cs12
    refine Ev.tsIn (pc := 1) (tgt := 153) (off := 152) dX10_count_1 (by rw [cs12]; decide) (by rw [cs12]; decide) (by rw [cs12]; rfl) (by decide) ?_
    refine Ev.aload_n (pc := 153) dX10_count_153 rfl ?_
    refine eBk h (fun q11 hq11 h => ?_)
    refine Ev.callV (pc := 154) (as := []) (st := []) (z := 2) dX10_count_154 wc_X10_standing ml_RX10_265 im_X10_standing se_X10_standing lR_0 rfl rfl (ev_X10_standing  M _ hq11) rfl rfl (by decide) rfl rfl (Nat.le_of_ble_eq_true rfl) ?_
    obtain rfl := Option.some.inj h
    exact Ev.iret (pc := 157) dX10_count_157 rfl rfl
  have h := eF h cs12
  by_cases cs14 : x1 = 11
  · have h := eT h cs14
    refine Ev.tsIn (pc := 1) (tgt := 158) (off := 157) dX10_count_1 (by rw [cs14]; decide) (by rw [cs14]; decide) (by rw [cs14]; rfl) (by decide) ?_
    refine Ev.aload_n (pc := 158) dX10_count_158 rfl ?_
    refine Ev.iconst (pc := 159) dX10_count_159 (v := (-1)) (by decide) ?_
    refine eBk h (fun q13 hq13 h => ?_)
    refine Ev.callV (pc := 160) (as := [.int (-1)]) (st := []) (z := 3) dX10_count_160 wc_X10_pairs ml_RX10_246 im_X10_pairs se_X10_pairs lR_0 rfl rfl (ev_X10_pairs (-1) M _ hq13) rfl rfl (by decide) rfl rfl (Nat.le_of_ble_eq_true rfl) ?_
    obtain rfl := Option.some.inj h
    exact Ev.iret (pc := 163) dX10_count_163 rfl rfl
  have h := eF h cs14
  by_cases cs15 : x1 = 12
  · have h := eT h cs15
    refine Ev.tsIn (pc := 1) (tgt := 164) (off := 163) dX10_count_1 (by rw [cs15]; decide) (by rw [cs15]; decide) (by rw [cs15]; rfl) (by decide) ?_
    refine Ev.aload_n (pc := 164) dX10_count_164 rfl ?_
    refine Ev.getI (pc := 165) dX10_count_165 fl_RX10_179 lR_0 rfl ?_
    obtain rfl := Option.some.inj h
    exact Ev.iret (pc := 168) dX10_count_168 rfl rfl
  have h := eF h cs15
  by_cases cs16 : x1 = 13
  · have h := eT h cs16
    refine Ev.tsIn (pc := 1) (tgt := 169) (off := 168) dX10_count_1 (by rw [cs16]; decide) (by rw [cs16]; decide) (by rw [cs16]; rfl) (by decide) ?_
    refine Ev.aload_n (pc := 169) dX10_count_169 rfl ?_
    refine Ev.getR (pc := 170) dX10_count_170 fl_RX10_7 lR_0 rfl ?_
    refine Ev.iconst (pc := 173) dX10_count_173 (v := 5) (by decide) ?_
    refine Ev.ialdj (pc := 174) dX10_count_174 (j := 5) lR_1 (by decide) (by decide) ?_
    obtain rfl := Option.some.inj h
    exact Ev.iret (pc := 175) dX10_count_175 rfl rfl
  have h := eF h cs16
  by_cases cs17 : x1 = 14
  · have h := eT h cs17
    refine Ev.tsIn (pc := 1) (tgt := 176) (off := 175) dX10_count_1 (by rw [cs17]; decide) (by rw [cs17]; decide) (by rw [cs17]; rfl) (by decide) ?_
    refine Ev.aload_n (pc := 176) dX10_count_176 rfl ?_
    refine Ev.getR (pc := 177) dX10_count_177 fl_RX10_7 lR_0 rfl ?_
    refine Ev.bipush (pc := 180) dX10_count_180 (v := 6) (by decide) ?_
    refine Ev.ialdj (pc := 182) dX10_count_182 (j := 6) lR_1 (by decide) (by decide) ?_
    obtain rfl := Option.some.inj h
    exact Ev.iret (pc := 183) dX10_count_183 rfl rfl
  have h := eF h cs17
  refine Ev.tsOut (pc := 1) (tgt := 184) dX10_count_1 (eTsO 15 (by decide) (by decide) (by decide) (by
    intro k hk
    rcases (show k = 0 ∨ k = 1 ∨ k = 2 ∨ k = 3 ∨ k = 4 ∨ k = 5 ∨ k = 6 ∨ k = 7 ∨ k = 8 ∨ k = 9 ∨ k = 10 ∨ k = 11 ∨ k = 12 ∨ k = 13 ∨ k = 14 by omega) with rfl | rfl | rfl | rfl | rfl | rfl | rfl | rfl | rfl | rfl | rfl | rfl | rfl | rfl | rfl
    · exact cs1
    · exact cs2
    · exact cs3
    · exact cs4
    · exact cs5
    · exact cs6
    · exact cs7
    · exact cs8
    · exact cs9
    · exact cs10
    · exact cs12
    · exact cs14
    · exact cs15
    · exact cs16
    · exact cs17
    )) (by decide) ?_
  refine Ev.aload_n (pc := 184) dX10_count_184 rfl ?_
  refine Ev.iconst (pc := 185) dX10_count_185 (v := 1) (by decide) ?_
  refine eBk h (fun q18 hq18 h => ?_)
  refine Ev.callV (pc := 186) (as := [.int 1]) (st := []) (z := 0) dX10_count_186 wc_X10_finding ml_RX10_66 im_X10_finding se_X10_finding lR_0 rfl rfl (ev_X10_finding 1 M _ hq18) rfl rfl (by decide) rfl rfl (Nat.le_of_ble_eq_true rfl) ?_
  obtain rfl := Option.some.inj h
  exact Ev.iret (pc := 189) dX10_count_189 rfl rfl
theorem dX9_status_0 : decode cX9_status 0 = .ok (.iload_n 1, 1) := by decide +kernel
theorem dX9_status_1 : decode cX9_status 1 = .ok (.bipush 7, 2) := by decide +kernel
theorem dX9_status_3 : decode cX9_status 3 = .ok (.invokestatic 37, 3) := by decide +kernel
theorem dX9_status_6 : decode cX9_status 6 = .ok (.ifCond .eq 10, 3) := by decide +kernel
theorem dX9_status_9 : decode cX9_status 9 = .ok (.aload_n 0, 1) := by decide +kernel
theorem dX9_status_10 : decode cX9_status 10 = .ok (.getfield 33, 3) := by decide +kernel
theorem dX9_status_13 : decode cX9_status 13 = .ok (.iload_n 1, 1) := by decide +kernel
theorem dX9_status_14 : decode cX9_status 14 = .ok (.iaload, 1) := by decide +kernel
theorem dX9_status_15 : decode cX9_status 15 = .ok (.ireturn, 1) := by decide +kernel
theorem dX9_status_16 : decode cX9_status 16 = .ok (.iload_n 1, 1) := by decide +kernel
theorem dX9_status_17 : decode cX9_status 17 = .ok (.iconst (-1), 1) := by decide +kernel
theorem dX9_status_18 : decode cX9_status 18 = .ok (.if_icmp .eq 10, 3) := by decide +kernel
theorem dX9_status_21 : decode cX9_status 21 = .ok (.aload_n 0, 1) := by decide +kernel
theorem dX9_status_22 : decode cX9_status 22 = .ok (.ldc 41, 2) := by decide +kernel
theorem dX9_status_24 : decode cX9_status 24 = .ok (.invokevirtual 42, 3) := by decide +kernel
theorem dX9_status_27 : decode cX9_status 27 = .ok (.ireturn, 1) := by decide +kernel
theorem dX9_status_28 : decode cX9_status 28 = .ok (.iconst 0, 1) := by decide +kernel
theorem dX9_status_29 : decode cX9_status 29 = .ok (.istore_n 2, 1) := by decide +kernel
theorem dX9_status_30 : decode cX9_status 30 = .ok (.aload_n 0, 1) := by decide +kernel
theorem dX9_status_31 : decode cX9_status 31 = .ok (.getfield 33, 3) := by decide +kernel
theorem dX9_status_34 : decode cX9_status 34 = .ok (.astore_n 3, 1) := by decide +kernel
theorem dX9_status_35 : decode cX9_status 35 = .ok (.aload_n 3, 1) := by decide +kernel
theorem dX9_status_36 : decode cX9_status 36 = .ok (.arraylength, 1) := by decide +kernel
theorem dX9_status_37 : decode cX9_status 37 = .ok (.istore 4, 2) := by decide +kernel
theorem dX9_status_39 : decode cX9_status 39 = .ok (.iconst 0, 1) := by decide +kernel
theorem dX9_status_40 : decode cX9_status 40 = .ok (.istore 5, 2) := by decide +kernel
theorem dX9_status_42 : decode cX9_status 42 = .ok (.iload 5, 2) := by decide +kernel
theorem dX9_status_44 : decode cX9_status 44 = .ok (.iload 4, 2) := by decide +kernel
theorem dX9_status_46 : decode cX9_status 46 = .ok (.if_icmp .ge 20, 3) := by decide +kernel
theorem dX9_status_49 : decode cX9_status 49 = .ok (.aload_n 3, 1) := by decide +kernel
theorem dX9_status_50 : decode cX9_status 50 = .ok (.iload 5, 2) := by decide +kernel
theorem dX9_status_52 : decode cX9_status 52 = .ok (.iaload, 1) := by decide +kernel
theorem dX9_status_53 : decode cX9_status 53 = .ok (.istore 6, 2) := by decide +kernel
theorem dX9_status_55 : decode cX9_status 55 = .ok (.iload_n 2, 1) := by decide +kernel
theorem dX9_status_56 : decode cX9_status 56 = .ok (.iload 6, 2) := by decide +kernel
theorem dX9_status_58 : decode cX9_status 58 = .ok (.iadd, 1) := by decide +kernel
theorem dX9_status_59 : decode cX9_status 59 = .ok (.istore_n 2, 1) := by decide +kernel
theorem dX9_status_60 : decode cX9_status 60 = .ok (.iinc 5 1, 3) := by decide +kernel
theorem dX9_status_63 : decode cX9_status 63 = .ok (.goto (-21), 3) := by decide +kernel
theorem dX9_status_66 : decode cX9_status 66 = .ok (.iload_n 2, 1) := by decide +kernel
theorem dX9_status_67 : decode cX9_status 67 = .ok (.ireturn, 1) := by decide +kernel
def F_X9_status_42  : Nat → Int32 → Int32 → Int32 → eMem → Option (Int32 × eMem)
  | 0, _, _, _, _ => none
  | n + 1, v2, v4, v5, M =>
    if v5 < v4 then
      eG (eIn v5 7) <|
      F_X9_status_42 n (v2 + (M.1 155 v5.toNatClampNeg)) v4 (v5 + 1) M
    else
      some (v2, M)
set_option maxRecDepth 100000 in
set_option maxHeartbeats 4000000 in
theorem ev_X9_status_42  (q : (Int32 × eMem))  : ∀ (fuel : Nat) (v2 : Int32) (v4 : Int32) (v5 : Int32) (M : eMem), F_X9_status_42 fuel v2 v4 v5 M = some q → Ev layC 2 m_X9_status 42 [none, none, some (.int v2), some (.ref 155), some (.int v4), some (.int v5), none] [] M (some (.int q.1), q.2) := by
  intro fuel
  induction fuel with
  | zero => intro v2 v4 v5 M h; rw [F_X9_status_42] at h; cases h
  | succ n ih =>
    intro v2 v4 v5 M h
    rw [F_X9_status_42] at h
    refine Ev.iload (pc := 42) dX9_status_42 rfl ?_
    refine Ev.iload (pc := 44) dX9_status_44 rfl ?_
    refine Ev.icmp_ge (pc := 46) (tgt := 66) dX9_status_46 (by decide) (fun c9 => ?_) (fun c9 => ?_)
    · have h := eF h c9
      refine Ev.iload_n (pc := 66) dX9_status_66 rfl ?_
      obtain rfl := Option.some.inj h
      exact Ev.iret (pc := 67) dX9_status_67 rfl rfl
    · have h := eT h c9
      refine Ev.aload_n (pc := 49) dX9_status_49 rfl ?_
      refine Ev.iload (pc := 50) dX9_status_50 rfl ?_
      obtain ⟨g9, h⟩ := eGdB h
      refine Ev.ialdj (pc := 52) dX9_status_52 (j := v5.toNatClampNeg) lC_155 g9 rfl ?_
      refine Ev.istore (pc := 53) dX9_status_53 (by decide) rfl rfl ?_
      refine Ev.iload_n (pc := 55) dX9_status_55 rfl ?_
      refine Ev.iload (pc := 56) dX9_status_56 rfl ?_
      refine Ev.iadd (pc := 58) dX9_status_58 ?_
      refine Ev.istore_n (pc := 59) dX9_status_59 (by decide) rfl rfl ?_
      refine Ev.iincv (pc := 60) dX9_status_60 (v := 1) (by decide) rfl (by decide) rfl rfl ?_
      refine Ev.goto (pc := 63) (tgt := 42) dX9_status_63 (by decide) ?_
      exact Ev.fg (ih _ _ _ _ h) (And.intro rfl (And.intro rfl (And.intro rfl (And.intro rfl trivial))))
def F_X9_status (x1 : Int32) (M : eMem) : Option (Int32 × eMem) :=
  (F_X9_isIn x1 7).bind fun q1 =>
  if q1 = 0 then
    if x1 = (-1) then
      F_X9_status_42 eFuel 0 7 0 M
    else
      (F_X9_found (-1000001) M).bind fun q2 =>
      some (q2.1, q2.2)
  else
    eG (eIn x1 7) <|
    some ((M.1 155 x1.toNatClampNeg), M)
set_option maxRecDepth 100000 in
set_option maxHeartbeats 4000000 in
theorem ev_X9_status (x1 : Int32) (M : eMem) (q : (Int32 × eMem)) (h : F_X9_status x1 M = some q) : Ev layC 2 m_X9_status 0 [some (.ref 0), some (.int x1), none, none, none, none, none] [] M (some (.int q.1), q.2) := by
  rw [F_X9_status] at h
  refine Ev.iload_n (pc := 0) dX9_status_0 rfl ?_
  refine Ev.bipush (pc := 1) dX9_status_1 (v := 7) (by decide) ?_
  refine eBk h (fun q1 hq1 h => ?_)
  refine Ev.callS (pc := 3) (as := [.int x1, .int 7]) (st := []) (z := 0) dX9_status_3 wc_X9_isIn ml_RX9_37 sm_X9_isIn (ev_X9_isIn x1 7 M _ hq1) rfl rfl (by decide) rfl rfl (Nat.le_of_ble_eq_true rfl) ?_
  refine Ev.if_eq (pc := 6) (tgt := 16) dX9_status_6 (by decide) (fun c9 => ?_) (fun c9 => ?_)
  · have h := eT h c9
    refine Ev.iload_n (pc := 16) dX9_status_16 rfl ?_
    refine Ev.iconst (pc := 17) dX9_status_17 (v := (-1)) (by decide) ?_
    refine Ev.icmp_eq (pc := 18) (tgt := 28) dX9_status_18 (by decide) (fun c9 => ?_) (fun c9 => ?_)
    · have h := eT h c9
      refine Ev.iconst (pc := 28) dX9_status_28 (v := 0) (by decide) ?_
      refine Ev.istore_n (pc := 29) dX9_status_29 (by decide) rfl rfl ?_
      refine Ev.aload_n (pc := 30) dX9_status_30 rfl ?_
      refine Ev.getR (pc := 31) dX9_status_31 fl_RX9_33 lC_0 rfl ?_
      refine Ev.astore_n (pc := 34) dX9_status_34 (by decide) rfl rfl ?_
      refine Ev.aload_n (pc := 35) dX9_status_35 rfl ?_
      refine Ev.alen (pc := 36) dX9_status_36 (v := 7) lC_155 (by decide) (by decide) ?_
      refine Ev.istore (pc := 37) dX9_status_37 (by decide) rfl rfl ?_
      refine Ev.iconst (pc := 39) dX9_status_39 (v := 0) (by decide) ?_
      refine Ev.istore (pc := 40) dX9_status_40 (by decide) rfl rfl ?_
      exact Ev.fg (ev_X9_status_42 _ _ _ _ _ _ h) (And.intro rfl (And.intro rfl (And.intro rfl (And.intro rfl trivial))))
    · have h := eF h c9
      refine Ev.aload_n (pc := 21) dX9_status_21 rfl ?_
      refine Ev.ldc (pc := 22) dX9_status_22 ld_RX9_41 ?_
      refine eBk h (fun q2 hq2 h => ?_)
      refine Ev.callV (pc := 24) (as := [.int (-1000001)]) (st := []) (z := 1) dX9_status_24 wc_X9_found ml_RX9_42 im_X9_found se_X9_found lC_0 rfl rfl (ev_X9_found (-1000001) M _ hq2) rfl rfl (by decide) rfl rfl (Nat.le_of_ble_eq_true rfl) ?_
      obtain rfl := Option.some.inj h
      exact Ev.iret (pc := 27) dX9_status_27 rfl rfl
  · have h := eF h c9
    refine Ev.aload_n (pc := 9) dX9_status_9 rfl ?_
    refine Ev.getR (pc := 10) dX9_status_10 fl_RX9_33 lC_0 rfl ?_
    refine Ev.iload_n (pc := 13) dX9_status_13 rfl ?_
    obtain ⟨g9, h⟩ := eGdB h
    refine Ev.ialdj (pc := 14) dX9_status_14 (j := x1.toNatClampNeg) lC_155 g9 rfl ?_
    obtain rfl := Option.some.inj h
    exact Ev.iret (pc := 15) dX9_status_15 rfl rfl
theorem dX10_status_0 : decode cX10_status 0 = .ok (.iload_n 1, 1) := by decide +kernel
theorem dX10_status_1 : decode cX10_status 1 = .ok (.iconst (-1), 1) := by decide +kernel
theorem dX10_status_2 : decode cX10_status 2 = .ok (.bipush 6, 2) := by decide +kernel
theorem dX10_status_4 : decode cX10_status 4 = .ok (.invokestatic 58, 3) := by decide +kernel
theorem dX10_status_7 : decode cX10_status 7 = .ok (.ifCond .ne 9, 3) := by decide +kernel
theorem dX10_status_10 : decode cX10_status 10 = .ok (.aload_n 0, 1) := by decide +kernel
theorem dX10_status_11 : decode cX10_status 11 = .ok (.iconst 1, 1) := by decide +kernel
theorem dX10_status_12 : decode cX10_status 12 = .ok (.invokevirtual 66, 3) := by decide +kernel
theorem dX10_status_15 : decode cX10_status 15 = .ok (.ireturn, 1) := by decide +kernel
theorem dX10_status_16 : decode cX10_status 16 = .ok (.iconst 0, 1) := by decide +kernel
theorem dX10_status_17 : decode cX10_status 17 = .ok (.istore_n 2, 1) := by decide +kernel
theorem dX10_status_18 : decode cX10_status 18 = .ok (.iconst 1, 1) := by decide +kernel
theorem dX10_status_19 : decode cX10_status 19 = .ok (.istore_n 3, 1) := by decide +kernel
theorem dX10_status_20 : decode cX10_status 20 = .ok (.iload_n 3, 1) := by decide +kernel
theorem dX10_status_21 : decode cX10_status 21 = .ok (.bipush 8, 2) := by decide +kernel
theorem dX10_status_23 : decode cX10_status 23 = .ok (.if_icmp .ge 34, 3) := by decide +kernel
theorem dX10_status_26 : decode cX10_status 26 = .ok (.iload_n 2, 1) := by decide +kernel
theorem dX10_status_27 : decode cX10_status 27 = .ok (.iload_n 1, 1) := by decide +kernel
theorem dX10_status_28 : decode cX10_status 28 = .ok (.iconst (-1), 1) := by decide +kernel
theorem dX10_status_29 : decode cX10_status 29 = .ok (.if_icmp .eq 10, 3) := by decide +kernel
theorem dX10_status_32 : decode cX10_status 32 = .ok (.iload_n 1, 1) := by decide +kernel
theorem dX10_status_33 : decode cX10_status 33 = .ok (.iload_n 3, 1) := by decide +kernel
theorem dX10_status_34 : decode cX10_status 34 = .ok (.iconst 1, 1) := by decide +kernel
theorem dX10_status_35 : decode cX10_status 35 = .ok (.isub, 1) := by decide +kernel
theorem dX10_status_36 : decode cX10_status 36 = .ok (.if_icmp .ne 12, 3) := by decide +kernel
theorem dX10_status_39 : decode cX10_status 39 = .ok (.aload_n 0, 1) := by decide +kernel
theorem dX10_status_40 : decode cX10_status 40 = .ok (.getfield 29, 3) := by decide +kernel
theorem dX10_status_43 : decode cX10_status 43 = .ok (.iload_n 3, 1) := by decide +kernel
theorem dX10_status_44 : decode cX10_status 44 = .ok (.iaload, 1) := by decide +kernel
theorem dX10_status_45 : decode cX10_status 45 = .ok (.goto 4, 3) := by decide +kernel
theorem dX10_status_48 : decode cX10_status 48 = .ok (.iconst 0, 1) := by decide +kernel
theorem dX10_status_49 : decode cX10_status 49 = .ok (.iadd, 1) := by decide +kernel
theorem dX10_status_50 : decode cX10_status 50 = .ok (.istore_n 2, 1) := by decide +kernel
theorem dX10_status_51 : decode cX10_status 51 = .ok (.iinc 3 1, 3) := by decide +kernel
theorem dX10_status_54 : decode cX10_status 54 = .ok (.goto (-34), 3) := by decide +kernel
theorem dX10_status_57 : decode cX10_status 57 = .ok (.iload_n 2, 1) := by decide +kernel
theorem dX10_status_58 : decode cX10_status 58 = .ok (.ireturn, 1) := by decide +kernel
def F_X10_status_39 (rec : Int32 → Int32 → Int32 → eMem → Option (Int32 × eMem)) (v1 : Int32) (v3 : Int32) (s0 : Int32) (M : eMem) : Option (Int32 × eMem) :=
  eG (eIn v3 8) <|
  rec v1 (s0 + (M.1 7 v3.toNatClampNeg)) (v3 + 1) M
set_option maxRecDepth 100000 in
set_option maxHeartbeats 4000000 in
theorem ev_X10_status_39 (rec : Int32 → Int32 → Int32 → eMem → Option (Int32 × eMem)) (q : (Int32 × eMem)) (hrec : ∀ (v1 : Int32) (v2 : Int32) (v3 : Int32) (M : eMem), rec v1 v2 v3 M = some q → Ev layR 1 m_X10_status 20 [some (.ref 0), some (.int v1), some (.int v2), some (.int v3)] [] M (some (.int q.1), q.2)) (v1 : Int32) (v3 : Int32) (s0 : Int32) (M : eMem) (h : F_X10_status_39 rec v1 v3 s0 M = some q) : Ev layR 1 m_X10_status 39 [some (.ref 0), some (.int v1), none, some (.int v3)] [.int s0] M (some (.int q.1), q.2) := by
  rw [F_X10_status_39] at h
  refine Ev.aload_n (pc := 39) dX10_status_39 rfl ?_
  refine Ev.getR (pc := 40) dX10_status_40 fl_RX10_29 lR_0 rfl ?_
  refine Ev.iload_n (pc := 43) dX10_status_43 rfl ?_
  obtain ⟨g9, h⟩ := eGdB h
  refine Ev.ialdj (pc := 44) dX10_status_44 (j := v3.toNatClampNeg) lR_7 g9 rfl ?_
  refine Ev.goto (pc := 45) (tgt := 49) dX10_status_45 (by decide) ?_
  refine Ev.iadd (pc := 49) dX10_status_49 ?_
  refine Ev.istore_n (pc := 50) dX10_status_50 (by decide) rfl rfl ?_
  refine Ev.iincv (pc := 51) dX10_status_51 (v := 1) (by decide) rfl (by decide) rfl rfl ?_
  refine Ev.goto (pc := 54) (tgt := 20) dX10_status_54 (by decide) ?_
  exact Ev.fg (hrec _ _ _ _ h) (And.intro rfl (And.intro rfl (And.intro rfl (And.intro rfl trivial))))
def F_X10_status_20  : Nat → Int32 → Int32 → Int32 → eMem → Option (Int32 × eMem)
  | 0, _, _, _, _ => none
  | n + 1, v1, v2, v3, M =>
    if v3 < 8 then
      if v1 = (-1) then
        F_X10_status_39 (fun v1 v2 v3 M => F_X10_status_20 n v1 v2 v3 M) v1 v3 v2 M
      else
        if v1 = (v3 - 1) then
          F_X10_status_39 (fun v1 v2 v3 M => F_X10_status_20 n v1 v2 v3 M) v1 v3 v2 M
        else
          F_X10_status_20 n v1 (v2 + 0) (v3 + 1) M
    else
      some (v2, M)
set_option maxRecDepth 100000 in
set_option maxHeartbeats 4000000 in
theorem ev_X10_status_20  (q : (Int32 × eMem))  : ∀ (fuel : Nat) (v1 : Int32) (v2 : Int32) (v3 : Int32) (M : eMem), F_X10_status_20 fuel v1 v2 v3 M = some q → Ev layR 1 m_X10_status 20 [some (.ref 0), some (.int v1), some (.int v2), some (.int v3)] [] M (some (.int q.1), q.2) := by
  intro fuel
  induction fuel with
  | zero => intro v1 v2 v3 M h; rw [F_X10_status_20] at h; cases h
  | succ n ih =>
    intro v1 v2 v3 M h
    rw [F_X10_status_20] at h
    refine Ev.iload_n (pc := 20) dX10_status_20 rfl ?_
    refine Ev.bipush (pc := 21) dX10_status_21 (v := 8) (by decide) ?_
    refine Ev.icmp_ge (pc := 23) (tgt := 57) dX10_status_23 (by decide) (fun c9 => ?_) (fun c9 => ?_)
    · have h := eF h c9
      refine Ev.iload_n (pc := 57) dX10_status_57 rfl ?_
      obtain rfl := Option.some.inj h
      exact Ev.iret (pc := 58) dX10_status_58 rfl rfl
    · have h := eT h c9
      refine Ev.iload_n (pc := 26) dX10_status_26 rfl ?_
      refine Ev.iload_n (pc := 27) dX10_status_27 rfl ?_
      refine Ev.iconst (pc := 28) dX10_status_28 (v := (-1)) (by decide) ?_
      refine Ev.icmp_eq (pc := 29) (tgt := 39) dX10_status_29 (by decide) (fun c9 => ?_) (fun c9 => ?_)
      · have h := eT h c9
        exact Ev.fg (ev_X10_status_39 _ _ ih _ _ _ _ h) (And.intro rfl (And.intro rfl (And.intro rfl trivial)))
      · have h := eF h c9
        refine Ev.iload_n (pc := 32) dX10_status_32 rfl ?_
        refine Ev.iload_n (pc := 33) dX10_status_33 rfl ?_
        refine Ev.iconst (pc := 34) dX10_status_34 (v := 1) (by decide) ?_
        refine Ev.isub (pc := 35) dX10_status_35 ?_
        refine Ev.icmp_ne (pc := 36) (tgt := 48) dX10_status_36 (by decide) (fun c9 => ?_) (fun c9 => ?_)
        · have h := eF h c9
          refine Ev.iconst (pc := 48) dX10_status_48 (v := 0) (by decide) ?_
          refine Ev.iadd (pc := 49) dX10_status_49 ?_
          refine Ev.istore_n (pc := 50) dX10_status_50 (by decide) rfl rfl ?_
          refine Ev.iincv (pc := 51) dX10_status_51 (v := 1) (by decide) rfl (by decide) rfl rfl ?_
          refine Ev.goto (pc := 54) (tgt := 20) dX10_status_54 (by decide) ?_
          exact Ev.fg (ih _ _ _ _ h) (And.intro rfl (And.intro rfl (And.intro rfl (And.intro rfl trivial))))
        · have h := eT h c9
          exact Ev.fg (ev_X10_status_39 _ _ ih _ _ _ _ h) (And.intro rfl (And.intro rfl (And.intro rfl trivial)))
def F_X10_status (x1 : Int32) (M : eMem) : Option (Int32 × eMem) :=
  (F_X10_in x1 (-1) 6).bind fun q1 =>
  if q1 = 0 then
    (F_X10_finding 1 M).bind fun q2 =>
    some (q2.1, q2.2)
  else
    F_X10_status_20 eFuel x1 0 1 M
set_option maxRecDepth 100000 in
set_option maxHeartbeats 4000000 in
theorem ev_X10_status (x1 : Int32) (M : eMem) (q : (Int32 × eMem)) (h : F_X10_status x1 M = some q) : Ev layR 1 m_X10_status 0 [some (.ref 0), some (.int x1), none, none] [] M (some (.int q.1), q.2) := by
  rw [F_X10_status] at h
  refine Ev.iload_n (pc := 0) dX10_status_0 rfl ?_
  refine Ev.iconst (pc := 1) dX10_status_1 (v := (-1)) (by decide) ?_
  refine Ev.bipush (pc := 2) dX10_status_2 (v := 6) (by decide) ?_
  refine eBk h (fun q1 hq1 h => ?_)
  refine Ev.callS (pc := 4) (as := [.int x1, .int (-1), .int 6]) (st := []) (z := 0) dX10_status_4 wc_X10_in ml_RX10_58 sm_X10_in (ev_X10_in x1 (-1) 6 M _ hq1) rfl rfl (by decide) rfl rfl (Nat.le_of_ble_eq_true rfl) ?_
  refine Ev.if_ne (pc := 7) (tgt := 16) dX10_status_7 (by decide) (fun c9 => ?_) (fun c9 => ?_)
  · have h := eF h c9
    refine Ev.iconst (pc := 16) dX10_status_16 (v := 0) (by decide) ?_
    refine Ev.istore_n (pc := 17) dX10_status_17 (by decide) rfl rfl ?_
    refine Ev.iconst (pc := 18) dX10_status_18 (v := 1) (by decide) ?_
    refine Ev.istore_n (pc := 19) dX10_status_19 (by decide) rfl rfl ?_
    exact Ev.fg (ev_X10_status_20 _ _ _ _ _ _ h) (And.intro rfl (And.intro rfl (And.intro rfl (And.intro rfl trivial))))
  · have h := eT h c9
    refine Ev.aload_n (pc := 10) dX10_status_10 rfl ?_
    refine Ev.iconst (pc := 11) dX10_status_11 (v := 1) (by decide) ?_
    refine eBk h (fun q2 hq2 h => ?_)
    refine Ev.callV (pc := 12) (as := [.int 1]) (st := []) (z := 0) dX10_status_12 wc_X10_finding ml_RX10_66 im_X10_finding se_X10_finding lR_0 rfl rfl (ev_X10_finding 1 M _ hq2) rfl rfl (by decide) rfl rfl (Nat.le_of_ble_eq_true rfl) ?_
    obtain rfl := Option.some.inj h
    exact Ev.iret (pc := 15) dX10_status_15 rfl rfl
