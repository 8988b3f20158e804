theorem dX10_film_0 : decode cX10_film 0 = .ok (.iload_n 1, 1) := by decide +kernel
theorem dX10_film_1 : decode cX10_film 1 = .ok (.invokestatic 134, 3) := by decide +kernel
theorem dX10_film_4 : decode cX10_film 4 = .ok (.ifCond .eq 17, 3) := by decide +kernel
theorem dX10_film_7 : decode cX10_film 7 = .ok (.iload_n 2, 1) := by decide +kernel
theorem dX10_film_8 : decode cX10_film 8 = .ok (.iconst 0, 1) := by decide +kernel
theorem dX10_film_9 : decode cX10_film 9 = .ok (.aload_n 0, 1) := by decide +kernel
theorem dX10_film_10 : decode cX10_film 10 = .ok (.getfield 7, 3) := by decide +kernel
theorem dX10_film_13 : decode cX10_film 13 = .ok (.iconst 0, 1) := by decide +kernel
theorem dX10_film_14 : decode cX10_film 14 = .ok (.iaload, 1) := by decide +kernel
theorem dX10_film_15 : decode cX10_film 15 = .ok (.invokestatic 58, 3) := by decide +kernel
theorem dX10_film_18 : decode cX10_film 18 = .ok (.ifCond .ne 9, 3) := by decide +kernel
theorem dX10_film_21 : decode cX10_film 21 = .ok (.aload_n 0, 1) := by decide +kernel
theorem dX10_film_22 : decode cX10_film 22 = .ok (.iconst 1, 1) := by decide +kernel
theorem dX10_film_23 : decode cX10_film 23 = .ok (.invokevirtual 66, 3) := by decide +kernel
theorem dX10_film_26 : decode cX10_film 26 = .ok (.ireturn, 1) := by decide +kernel
theorem dX10_film_27 : decode cX10_film 27 = .ok (.aload_n 0, 1) := by decide +kernel
theorem dX10_film_28 : decode cX10_film 28 = .ok (.getfield 20, 3) := by decide +kernel
theorem dX10_film_31 : decode cX10_film 31 = .ok (.iload_n 1, 1) := by decide +kernel
theorem dX10_film_32 : decode cX10_film 32 = .ok (.iaload, 1) := by decide +kernel
theorem dX10_film_33 : decode cX10_film 33 = .ok (.ifCond .ne 10, 3) := by decide +kernel
theorem dX10_film_36 : decode cX10_film 36 = .ok (.aload_n 0, 1) := by decide +kernel
theorem dX10_film_37 : decode cX10_film 37 = .ok (.bipush 6, 2) := by decide +kernel
theorem dX10_film_39 : decode cX10_film 39 = .ok (.invokevirtual 66, 3) := by decide +kernel
theorem dX10_film_42 : decode cX10_film 42 = .ok (.ireturn, 1) := by decide +kernel
theorem dX10_film_43 : decode cX10_film 43 = .ok (.aload_n 0, 1) := by decide +kernel
theorem dX10_film_44 : decode cX10_film 44 = .ok (.getfield 23, 3) := by decide +kernel
theorem dX10_film_47 : decode cX10_film 47 = .ok (.iload_n 1, 1) := by decide +kernel
theorem dX10_film_48 : decode cX10_film 48 = .ok (.iaload, 1) := by decide +kernel
theorem dX10_film_49 : decode cX10_film 49 = .ok (.aload_n 0, 1) := by decide +kernel
theorem dX10_film_50 : decode cX10_film 50 = .ok (.getfield 7, 3) := by decide +kernel
theorem dX10_film_53 : decode cX10_film 53 = .ok (.bipush 9, 2) := by decide +kernel
theorem dX10_film_55 : decode cX10_film 55 = .ok (.iaload, 1) := by decide +kernel
theorem dX10_film_56 : decode cX10_film 56 = .ok (.if_icmp .gt 7, 3) := by decide +kernel
theorem dX10_film_59 : decode cX10_film 59 = .ok (.iconst 1, 1) := by decide +kernel
theorem dX10_film_60 : decode cX10_film 60 = .ok (.goto 4, 3) := by decide +kernel
theorem dX10_film_63 : decode cX10_film 63 = .ok (.iconst 0, 1) := by decide +kernel
theorem dX10_film_64 : decode cX10_film 64 = .ok (.istore_n 3, 1) := by decide +kernel
theorem dX10_film_65 : decode cX10_film 65 = .ok (.iconst 0, 1) := by decide +kernel
theorem dX10_film_66 : decode cX10_film 66 = .ok (.istore 4, 2) := by decide +kernel
theorem dX10_film_68 : decode cX10_film 68 = .ok (.iconst 0, 1) := by decide +kernel
theorem dX10_film_69 : decode cX10_film 69 = .ok (.istore 5, 2) := by decide +kernel
theorem dX10_film_71 : decode cX10_film 71 = .ok (.iload 5, 2) := by decide +kernel
theorem dX10_film_73 : decode cX10_film 73 = .ok (.aload_n 0, 1) := by decide +kernel
theorem dX10_film_74 : decode cX10_film 74 = .ok (.getfield 23, 3) := by decide +kernel
theorem dX10_film_77 : decode cX10_film 77 = .ok (.iload_n 1, 1) := by decide +kernel
theorem dX10_film_78 : decode cX10_film 78 = .ok (.iaload, 1) := by decide +kernel
theorem dX10_film_79 : decode cX10_film 79 = .ok (.if_icmp .ge 84, 3) := by decide +kernel
theorem dX10_film_82 : decode cX10_film 82 = .ok (.aload_n 0, 1) := by decide +kernel
theorem dX10_film_83 : decode cX10_film 83 = .ok (.getfield 26, 3) := by decide +kernel
theorem dX10_film_86 : decode cX10_film 86 = .ok (.bipush 20, 2) := by decide +kernel
theorem dX10_film_88 : decode cX10_film 88 = .ok (.iload_n 1, 1) := by decide +kernel
theorem dX10_film_89 : decode cX10_film 89 = .ok (.imul, 1) := by decide +kernel
theorem dX10_film_90 : decode cX10_film 90 = .ok (.iload 5, 2) := by decide +kernel
theorem dX10_film_92 : decode cX10_film 92 = .ok (.iadd, 1) := by decide +kernel
theorem dX10_film_93 : decode cX10_film 93 = .ok (.iaload, 1) := by decide +kernel
theorem dX10_film_94 : decode cX10_film 94 = .ok (.istore 6, 2) := by decide +kernel
theorem dX10_film_96 : decode cX10_film 96 = .ok (.iload_n 3, 1) := by decide +kernel
theorem dX10_film_97 : decode cX10_film 97 = .ok (.ifCond .eq 36, 3) := by decide +kernel
theorem dX10_film_100 : decode cX10_film 100 = .ok (.iload 6, 2) := by decide +kernel
theorem dX10_film_102 : decode cX10_film 102 = .ok (.iconst 0, 1) := by decide +kernel
theorem dX10_film_103 : decode cX10_film 103 = .ok (.iconst 2, 1) := by decide +kernel
theorem dX10_film_104 : decode cX10_film 104 = .ok (.invokestatic 58, 3) := by decide +kernel
theorem dX10_film_107 : decode cX10_film 107 = .ok (.ifCond .ne 22, 3) := by decide +kernel
theorem dX10_film_110 : decode cX10_film 110 = .ok (.aload_n 0, 1) := by decide +kernel
theorem dX10_film_111 : decode cX10_film 111 = .ok (.getfield 20, 3) := by decide +kernel
theorem dX10_film_114 : decode cX10_film 114 = .ok (.iload_n 1, 1) := by decide +kernel
theorem dX10_film_115 : decode cX10_film 115 = .ok (.iaload, 1) := by decide +kernel
theorem dX10_film_116 : decode cX10_film 116 = .ok (.bipush 32, 2) := by decide +kernel
theorem dX10_film_118 : decode cX10_film 118 = .ok (.if_icmp .ne 15, 3) := by decide +kernel
theorem dX10_film_121 : decode cX10_film 121 = .ok (.iload 6, 2) := by decide +kernel
theorem dX10_film_123 : decode cX10_film 123 = .ok (.sipush 999, 3) := by decide +kernel
theorem dX10_film_126 : decode cX10_film 126 = .ok (.if_icmp .ne 7, 3) := by decide +kernel
theorem dX10_film_129 : decode cX10_film 129 = .ok (.iconst 1, 1) := by decide +kernel
theorem dX10_film_130 : decode cX10_film 130 = .ok (.goto 4, 3) := by decide +kernel
theorem dX10_film_133 : decode cX10_film 133 = .ok (.iconst 0, 1) := by decide +kernel
theorem dX10_film_134 : decode cX10_film 134 = .ok (.istore_n 3, 1) := by decide +kernel
theorem dX10_film_135 : decode cX10_film 135 = .ok (.iload 4, 2) := by decide +kernel
theorem dX10_film_137 : decode cX10_film 137 = .ok (.iload 6, 2) := by decide +kernel
theorem dX10_film_139 : decode cX10_film 139 = .ok (.iconst 1, 1) := by decide +kernel
theorem dX10_film_140 : decode cX10_film 140 = .ok (.if_icmp .eq 9, 3) := by decide +kernel
theorem dX10_film_143 : decode cX10_film 143 = .ok (.iload 6, 2) := by decide +kernel
theorem dX10_film_145 : decode cX10_film 145 = .ok (.iconst 2, 1) := by decide +kernel
theorem dX10_film_146 : decode cX10_film 146 = .ok (.if_icmp .ne 7, 3) := by decide +kernel
theorem dX10_film_149 : decode cX10_film 149 = .ok (.iconst 1, 1) := by decide +kernel
theorem dX10_film_150 : decode cX10_film 150 = .ok (.goto 4, 3) := by decide +kernel
theorem dX10_film_153 : decode cX10_film 153 = .ok (.iconst 0, 1) := by decide +kernel
theorem dX10_film_154 : decode cX10_film 154 = .ok (.iadd, 1) := by decide +kernel
theorem dX10_film_155 : decode cX10_film 155 = .ok (.istore 4, 2) := by decide +kernel
theorem dX10_film_157 : decode cX10_film 157 = .ok (.iinc 5 1, 3) := by decide +kernel
theorem dX10_film_160 : decode cX10_film 160 = .ok (.goto (-89), 3) := by decide +kernel
theorem dX10_film_163 : decode cX10_film 163 = .ok (.iload_n 3, 1) := by decide +kernel
theorem dX10_film_164 : decode cX10_film 164 = .ok (.ifCond .ne 9, 3) := by decide +kernel
theorem dX10_film_167 : decode cX10_film 167 = .ok (.aload_n 0, 1) := by decide +kernel
theorem dX10_film_168 : decode cX10_film 168 = .ok (.iconst 1, 1) := by decide +kernel
theorem dX10_film_169 : decode cX10_film 169 = .ok (.invokevirtual 66, 3) := by decide +kernel
theorem dX10_film_172 : decode cX10_film 172 = .ok (.ireturn, 1) := by decide +kernel
theorem dX10_film_173 : decode cX10_film 173 = .ok (.aload_n 0, 1) := by decide +kernel
theorem dX10_film_174 : decode cX10_film 174 = .ok (.getfield 7, 3) := by decide +kernel
theorem dX10_film_177 : decode cX10_film 177 = .ok (.bipush 10, 2) := by decide +kernel
theorem dX10_film_179 : decode cX10_film 179 = .ok (.iaload, 1) := by decide +kernel
theorem dX10_film_180 : decode cX10_film 180 = .ok (.iload 4, 2) := by decide +kernel
theorem dX10_film_182 : decode cX10_film 182 = .ok (.iadd, 1) := by decide +kernel
theorem dX10_film_183 : decode cX10_film 183 = .ok (.bipush 90, 2) := by decide +kernel
theorem dX10_film_185 : decode cX10_film 185 = .ok (.if_icmp .le 9, 3) := by decide +kernel
theorem dX10_film_188 : decode cX10_film 188 = .ok (.aload_n 0, 1) := by decide +kernel
theorem dX10_film_189 : decode cX10_film 189 = .ok (.iconst 2, 1) := by decide +kernel
theorem dX10_film_190 : decode cX10_film 190 = .ok (.invokevirtual 66, 3) := by decide +kernel
theorem dX10_film_193 : decode cX10_film 193 = .ok (.ireturn, 1) := by decide +kernel
theorem dX10_film_194 : decode cX10_film 194 = .ok (.iconst 0, 1) := by decide +kernel
theorem dX10_film_195 : decode cX10_film 195 = .ok (.istore 5, 2) := by decide +kernel
theorem dX10_film_197 : decode cX10_film 197 = .ok (.iload 5, 2) := by decide +kernel
theorem dX10_film_199 : decode cX10_film 199 = .ok (.aload_n 0, 1) := by decide +kernel
theorem dX10_film_200 : decode cX10_film 200 = .ok (.getfield 23, 3) := by decide +kernel
theorem dX10_film_203 : decode cX10_film 203 = .ok (.iload_n 1, 1) := by decide +kernel
theorem dX10_film_204 : decode cX10_film 204 = .ok (.iaload, 1) := by decide +kernel
theorem dX10_film_205 : decode cX10_film 205 = .ok (.if_icmp .ge 69, 3) := by decide +kernel
theorem dX10_film_208 : decode cX10_film 208 = .ok (.aload_n 0, 1) := by decide +kernel
theorem dX10_film_209 : decode cX10_film 209 = .ok (.getfield 26, 3) := by decide +kernel
theorem dX10_film_212 : decode cX10_film 212 = .ok (.bipush 20, 2) := by decide +kernel
theorem dX10_film_214 : decode cX10_film 214 = .ok (.iload_n 1, 1) := by decide +kernel
theorem dX10_film_215 : decode cX10_film 215 = .ok (.imul, 1) := by decide +kernel
theorem dX10_film_216 : decode cX10_film 216 = .ok (.iload 5, 2) := by decide +kernel
theorem dX10_film_218 : decode cX10_film 218 = .ok (.iadd, 1) := by decide +kernel
theorem dX10_film_219 : decode cX10_film 219 = .ok (.iaload, 1) := by decide +kernel
theorem dX10_film_220 : decode cX10_film 220 = .ok (.istore 6, 2) := by decide +kernel
theorem dX10_film_222 : decode cX10_film 222 = .ok (.iload 6, 2) := by decide +kernel
theorem dX10_film_224 : decode cX10_film 224 = .ok (.iconst 1, 1) := by decide +kernel
theorem dX10_film_225 : decode cX10_film 225 = .ok (.if_icmp .eq 9, 3) := by decide +kernel
theorem dX10_film_228 : decode cX10_film 228 = .ok (.iload 6, 2) := by decide +kernel
theorem dX10_film_230 : decode cX10_film 230 = .ok (.iconst 2, 1) := by decide +kernel
theorem dX10_film_231 : decode cX10_film 231 = .ok (.if_icmp .ne 37, 3) := by decide +kernel
theorem dX10_film_234 : decode cX10_film 234 = .ok (.aload_n 0, 1) := by decide +kernel
theorem dX10_film_235 : decode cX10_film 235 = .ok (.iconst 5, 1) := by decide +kernel
theorem dX10_film_236 : decode cX10_film 236 = .ok (.aload_n 0, 1) := by decide +kernel
theorem dX10_film_237 : decode cX10_film 237 = .ok (.iload 5, 2) := by decide +kernel
theorem dX10_film_239 : decode cX10_film 239 = .ok (.iconst 1, 1) := by decide +kernel
theorem dX10_film_240 : decode cX10_film 240 = .ok (.invokevirtual 77, 3) := by decide +kernel
theorem dX10_film_243 : decode cX10_film 243 = .ok (.iload 6, 2) := by decide +kernel
theorem dX10_film_245 : decode cX10_film 245 = .ok (.iconst 1, 1) := by decide +kernel
theorem dX10_film_246 : decode cX10_film 246 = .ok (.if_icmp .ne 7, 3) := by decide +kernel
theorem dX10_film_249 : decode cX10_film 249 = .ok (.iconst 1, 1) := by decide +kernel
theorem dX10_film_250 : decode cX10_film 250 = .ok (.goto 4, 3) := by decide +kernel
theorem dX10_film_253 : decode cX10_film 253 = .ok (.iconst 0, 1) := by decide +kernel
theorem dX10_film_254 : decode cX10_film 254 = .ok (.iload_n 2, 1) := by decide +kernel
theorem dX10_film_255 : decode cX10_film 255 = .ok (.aload_n 0, 1) := by decide +kernel
theorem dX10_film_256 : decode cX10_film 256 = .ok (.getfield 7, 3) := by decide +kernel
theorem dX10_film_259 : decode cX10_film 259 = .ok (.iconst 0, 1) := by decide +kernel
theorem dX10_film_260 : decode cX10_film 260 = .ok (.iaload, 1) := by decide +kernel
theorem dX10_film_261 : decode cX10_film 261 = .ok (.iload 5, 2) := by decide +kernel
theorem dX10_film_263 : decode cX10_film 263 = .ok (.invokevirtual 130, 3) := by decide +kernel
theorem dX10_film_266 : decode cX10_film 266 = .ok (.istore 7, 2) := by decide +kernel
theorem dX10_film_268 : decode cX10_film 268 = .ok (.iinc 5 1, 3) := by decide +kernel
theorem dX10_film_271 : decode cX10_film 271 = .ok (.goto (-74), 3) := by decide +kernel
theorem dX10_film_274 : decode cX10_film 274 = .ok (.iload 4, 2) := by decide +kernel
theorem dX10_film_276 : decode cX10_film 276 = .ok (.ireturn, 1) := by decide +kernel
def F_X10_film_149 (rec : Int32 → Int32 → Int32 → Int32 → Int32 → eMem → Option (Int32 × eMem)) (K163 : Int32 → Int32 → Int32 → Int32 → eMem → Option (Int32 × eMem)) (v1 : Int32) (v2 : Int32) (v3 : Int32) (v5 : Int32) (s0 : Int32) (M : eMem) : Option (Int32 × eMem) :=
  rec v1 v2 v3 (s0 + 1) (v5 + 1) M
set_option maxRecDepth 100000 in
set_option maxHeartbeats 4000000 in
theorem ev_X10_film_149 (rec : Int32 → Int32 → Int32 → Int32 → Int32 → eMem → Option (Int32 × eMem)) (K163 : Int32 → Int32 → Int32 → Int32 → eMem → Option (Int32 × eMem)) (q : (Int32 × eMem)) (hrec : ∀ (v1 : Int32) (v2 : Int32) (v3 : Int32) (v4 : Int32) (v5 : Int32) (M : eMem), rec v1 v2 v3 v4 v5 M = some q → Ev layR 2 m_X10_film 71 [some (.ref 0), some (.int v1), some (.int v2), some (.int v3), some (.int v4), some (.int v5), none, none] [] M (some (.int q.1), q.2)) (hK163 : ∀ (v1 : Int32) (v2 : Int32) (v3 : Int32) (v4 : Int32) (M : eMem), K163 v1 v2 v3 v4 M = some q → Ev layR 2 m_X10_film 163 [some (.ref 0), some (.int v1), some (.int v2), some (.int v3), some (.int v4), none, none, none] [] M (some (.int q.1), q.2)) (v1 : Int32) (v2 : Int32) (v3 : Int32) (v5 : Int32) (s0 : Int32) (M : eMem) (h : F_X10_film_149 rec K163 v1 v2 v3 v5 s0 M = some q) : Ev layR 2 m_X10_film 149 [some (.ref 0), some (.int v1), some (.int v2), some (.int v3), none, some (.int v5), none, none] [.int s0] M (some (.int q.1), q.2) := by
  rw [F_X10_film_149] at h
  refine Ev.iconst (pc := 149) dX10_film_149 (v := 1) (by decide) ?_
  refine Ev.goto (pc := 150) (tgt := 154) dX10_film_150 (by decide) ?_
  refine Ev.iadd (pc := 154) dX10_film_154 ?_
  refine Ev.istore (pc := 155) dX10_film_155 (by decide) rfl rfl ?_
  refine Ev.iincv (pc := 157) dX10_film_157 (v := 1) (by decide) rfl (by decide) rfl rfl ?_
  refine Ev.goto (pc := 160) (tgt := 71) dX10_film_160 (by decide) ?_
  exact Ev.fg (hrec _ _ _ _ _ _ h) (And.intro rfl (And.intro rfl (And.intro rfl (And.intro rfl (And.intro rfl (And.intro rfl trivial))))))
def F_X10_film_134 (rec : Int32 → Int32 → Int32 → Int32 → Int32 → eMem → Option (Int32 × eMem)) (K163 : Int32 → Int32 → Int32 → Int32 → eMem → Option (Int32 × eMem)) (v1 : Int32) (v2 : Int32) (v4 : Int32) (v5 : Int32) (v6 : Int32) (s0 : Int32) (M : eMem) : Option (Int32 × eMem) :=
  if v6 = 1 then
    F_X10_film_149 (fun v1 v2 v3 v4 v5 M => rec v1 v2 v3 v4 v5 M) K163 v1 v2 s0 v5 v4 M
  else
    if v6 = 2 then
      F_X10_film_149 (fun v1 v2 v3 v4 v5 M => rec v1 v2 v3 v4 v5 M) K163 v1 v2 s0 v5 v4 M
    else
      rec v1 v2 s0 (v4 + 0) (v5 + 1) M
set_option maxRecDepth 100000 in
set_option maxHeartbeats 4000000 in
theorem ev_X10_film_134 (rec : Int32 → Int32 → Int32 → Int32 → Int32 → eMem → Option (Int32 × eMem)) (K163 : Int32 → Int32 → Int32 → Int32 → eMem → Option (Int32 × eMem)) (q : (Int32 × eMem)) (hrec : ∀ (v1 : Int32) (v2 : Int32) (v3 : Int32) (v4 : Int32) (v5 : Int32) (M : eMem), rec v1 v2 v3 v4 v5 M = some q → Ev layR 2 m_X10_film 71 [some (.ref 0), some (.int v1), some (.int v2), some (.int v3), some (.int v4), some (.int v5), none, none] [] M (some (.int q.1), q.2)) (hK163 : ∀ (v1 : Int32) (v2 : Int32) (v3 : Int32) (v4 : Int32) (M : eMem), K163 v1 v2 v3 v4 M = some q → Ev layR 2 m_X10_film 163 [some (.ref 0), some (.int v1), some (.int v2), some (.int v3), some (.int v4), none, none, none] [] M (some (.int q.1), q.2)) (v1 : Int32) (v2 : Int32) (v4 : Int32) (v5 : Int32) (v6 : Int32) (s0 : Int32) (M : eMem) (h : F_X10_film_134 rec K163 v1 v2 v4 v5 v6 s0 M = some q) : Ev layR 2 m_X10_film 134 [some (.ref 0), some (.int v1), some (.int v2), none, some (.int v4), some (.int v5), some (.int v6), none] [.int s0] M (some (.int q.1), q.2) := by
  rw [F_X10_film_134] at h
  refine Ev.istore_n (pc := 134) dX10_film_134 (by decide) rfl rfl ?_
  refine Ev.iload (pc := 135) dX10_film_135 rfl ?_
  refine Ev.iload (pc := 137) dX10_film_137 rfl ?_
  refine Ev.iconst (pc := 139) dX10_film_139 (v := 1) (by decide) ?_
  refine Ev.icmp_eq (pc := 140) (tgt := 149) dX10_film_140 (by decide) (fun c9 => ?_) (fun c9 => ?_)
  · have h := eT h c9
    exact Ev.fg (ev_X10_film_149 _ _ _ hrec hK163 _ _ _ _ _ _ h) (And.intro rfl (And.intro rfl (And.intro rfl (And.intro rfl (And.intro rfl trivial)))))
  · have h := eF h c9
    refine Ev.iload (pc := 143) dX10_film_143 rfl ?_
    refine Ev.iconst (pc := 145) dX10_film_145 (v := 2) (by decide) ?_
    refine Ev.icmp_ne (pc := 146) (tgt := 153) dX10_film_146 (by decide) (fun c9 => ?_) (fun c9 => ?_)
    · have h := eF h c9
      refine Ev.iconst (pc := 153) dX10_film_153 (v := 0) (by decide) ?_
      refine Ev.iadd (pc := 154) dX10_film_154 ?_
      refine Ev.istore (pc := 155) dX10_film_155 (by decide) rfl rfl ?_
      refine Ev.iincv (pc := 157) dX10_film_157 (v := 1) (by decide) rfl (by decide) rfl rfl ?_
      refine Ev.goto (pc := 160) (tgt := 71) dX10_film_160 (by decide) ?_
      exact Ev.fg (hrec _ _ _ _ _ _ h) (And.intro rfl (And.intro rfl (And.intro rfl (And.intro rfl (And.intro rfl (And.intro rfl trivial))))))
    · have h := eT h c9
      exact Ev.fg (ev_X10_film_149 _ _ _ hrec hK163 _ _ _ _ _ _ h) (And.intro rfl (And.intro rfl (And.intro rfl (And.intro rfl (And.intro rfl trivial)))))
def F_X10_film_133 (rec : Int32 → Int32 → Int32 → Int32 → Int32 → eMem → Option (Int32 × eMem)) (K163 : Int32 → Int32 → Int32 → Int32 → eMem → Option (Int32 × eMem)) (v1 : Int32) (v2 : Int32) (v4 : Int32) (v5 : Int32) (v6 : Int32) (M : eMem) : Option (Int32 × eMem) :=
  F_X10_film_134 (fun v1 v2 v3 v4 v5 M => rec v1 v2 v3 v4 v5 M) K163 v1 v2 v4 v5 v6 0 M
set_option maxRecDepth 100000 in
set_option maxHeartbeats 4000000 in
theorem ev_X10_film_133 (rec : Int32 → Int32 → Int32 → Int32 → Int32 → eMem → Option (Int32 × eMem)) (K163 : Int32 → Int32 → Int32 → Int32 → eMem → Option (Int32 × eMem)) (q : (Int32 × eMem)) (hrec : ∀ (v1 : Int32) (v2 : Int32) (v3 : Int32) (v4 : Int32) (v5 : Int32) (M : eMem), rec v1 v2 v3 v4 v5 M = some q → Ev layR 2 m_X10_film 71 [some (.ref 0), some (.int v1), some (.int v2), some (.int v3), some (.int v4), some (.int v5), none, none] [] M (some (.int q.1), q.2)) (hK163 : ∀ (v1 : Int32) (v2 : Int32) (v3 : Int32) (v4 : Int32) (M : eMem), K163 v1 v2 v3 v4 M = some q → Ev layR 2 m_X10_film 163 [some (.ref 0), some (.int v1), some (.int v2), some (.int v3), some (.int v4), none, none, none] [] M (some (.int q.1), q.2)) (v1 : Int32) (v2 : Int32) (v4 : Int32) (v5 : Int32) (v6 : Int32) (M : eMem) (h : F_X10_film_133 rec K163 v1 v2 v4 v5 v6 M = some q) : Ev layR 2 m_X10_film 133 [some (.ref 0), some (.int v1), some (.int v2), none, some (.int v4), some (.int v5), some (.int v6), none] [] M (some (.int q.1), q.2) := by
  rw [F_X10_film_133] at h
  refine Ev.iconst (pc := 133) dX10_film_133 (v := 0) (by decide) ?_
  exact Ev.fg (ev_X10_film_134 _ _ _ hrec hK163 _ _ _ _ _ _ _ h) (And.intro rfl (And.intro rfl (And.intro rfl (And.intro rfl (And.intro rfl (And.intro rfl trivial))))))
def F_X10_film_129 (rec : Int32 → Int32 → Int32 → Int32 → Int32 → eMem → Option (Int32 × eMem)) (K163 : Int32 → Int32 → Int32 → Int32 → eMem → Option (Int32 × eMem)) (v1 : Int32) (v2 : Int32) (v4 : Int32) (v5 : Int32) (v6 : Int32) (M : eMem) : Option (Int32 × eMem) :=
  F_X10_film_134 (fun v1 v2 v3 v4 v5 M => rec v1 v2 v3 v4 v5 M) K163 v1 v2 v4 v5 v6 1 M
set_option maxRecDepth 100000 in
set_option maxHeartbeats 4000000 in
theorem ev_X10_film_129 (rec : Int32 → Int32 → Int32 → Int32 → Int32 → eMem → Option (Int32 × eMem)) (K163 : Int32 → Int32 → Int32 → Int32 → eMem → Option (Int32 × eMem)) (q : (Int32 × eMem)) (hrec : ∀ (v1 : Int32) (v2 : Int32) (v3 : Int32) (v4 : Int32) (v5 : Int32) (M : eMem), rec v1 v2 v3 v4 v5 M = some q → Ev layR 2 m_X10_film 71 [some (.ref 0), some (.int v1), some (.int v2), some (.int v3), some (.int v4), some (.int v5), none, none] [] M (some (.int q.1), q.2)) (hK163 : ∀ (v1 : Int32) (v2 : Int32) (v3 : Int32) (v4 : Int32) (M : eMem), K163 v1 v2 v3 v4 M = some q → Ev layR 2 m_X10_film 163 [some (.ref 0), some (.int v1), some (.int v2), some (.int v3), some (.int v4), none, none, none] [] M (some (.int q.1), q.2)) (v1 : Int32) (v2 : Int32) (v4 : Int32) (v5 : Int32) (v6 : Int32) (M : eMem) (h : F_X10_film_129 rec K163 v1 v2 v4 v5 v6 M = some q) : Ev layR 2 m_X10_film 129 [some (.ref 0), some (.int v1), some (.int v2), none, some (.int v4), some (.int v5), some (.int v6), none] [] M (some (.int q.1), q.2) := by
  rw [F_X10_film_129] at h
  refine Ev.iconst (pc := 129) dX10_film_129 (v := 1) (by decide) ?_
  refine Ev.goto (pc := 130) (tgt := 134) dX10_film_130 (by decide) ?_
  exact Ev.fg (ev_X10_film_134 _ _ _ hrec hK163 _ _ _ _ _ _ _ h) (And.intro rfl (And.intro rfl (And.intro rfl (And.intro rfl (And.intro rfl (And.intro rfl trivial))))))
def F_X10_film_71 (K163 : Int32 → Int32 → Int32 → Int32 → eMem → Option (Int32 × eMem)) : Nat → Int32 → Int32 → Int32 → Int32 → Int32 → eMem → Option (Int32 × eMem)
  | 0, _, _, _, _, _, _ => none
  | n + 1, v1, v2, v3, v4, v5, M =>
    eG (eIn v1 4) <|
    if v5 < (M.1 5 v1.toNatClampNeg) then
      eG (eIn ((20 * v1) + v5) 80) <|
      if v3 = 0 then
        F_X10_film_133 (fun v1 v2 v3 v4 v5 M => F_X10_film_71 K163 n v1 v2 v3 v4 v5 M) K163 v1 v2 v4 v5 (M.1 6 ((20 * v1) + v5).toNatClampNeg) M
      else
        (F_X10_in (M.1 6 ((20 * v1) + v5).toNatClampNeg) 0 2).bind fun q4 =>
        if q4 = 0 then
          eG (eIn v1 4) <|
          if (M.1 4 v1.toNatClampNeg) = 32 then
            if (M.1 6 ((20 * v1) + v5).toNatClampNeg) = 999 then
              F_X10_film_129 (fun v1 v2 v3 v4 v5 M => F_X10_film_71 K163 n v1 v2 v3 v4 v5 M) K163 v1 v2 v4 v5 (M.1 6 ((20 * v1) + v5).toNatClampNeg) M
            else
              F_X10_film_133 (fun v1 v2 v3 v4 v5 M => F_X10_film_71 K163 n v1 v2 v3 v4 v5 M) K163 v1 v2 v4 v5 (M.1 6 ((20 * v1) + v5).toNatClampNeg) M
          else
            F_X10_film_133 (fun v1 v2 v3 v4 v5 M => F_X10_film_71 K163 n v1 v2 v3 v4 v5 M) K163 v1 v2 v4 v5 (M.1 6 ((20 * v1) + v5).toNatClampNeg) M
        else
          F_X10_film_129 (fun v1 v2 v3 v4 v5 M => F_X10_film_71 K163 n v1 v2 v3 v4 v5 M) K163 v1 v2 v4 v5 (M.1 6 ((20 * v1) + v5).toNatClampNeg) M
    else
      K163 v1 v2 v3 v4 M
set_option maxRecDepth 100000 in
set_option maxHeartbeats 4000000 in
theorem ev_X10_film_71 (K163 : Int32 → Int32 → Int32 → Int32 → eMem → Option (Int32 × eMem)) (q : (Int32 × eMem)) (hK163 : ∀ (v1 : Int32) (v2 : Int32) (v3 : Int32) (v4 : Int32) (M : eMem), K163 v1 v2 v3 v4 M = some q → Ev layR 2 m_X10_film 163 [some (.ref 0), some (.int v1), some (.int v2), some (.int v3), some (.int v4), none, none, none] [] M (some (.int q.1), q.2)) : ∀ (fuel : Nat) (v1 : Int32) (v2 : Int32) (v3 : Int32) (v4 : Int32) (v5 : Int32) (M : eMem), F_X10_film_71 K163 fuel v1 v2 v3 v4 v5 M = some q → Ev layR 2 m_X10_film 71 [some (.ref 0), some (.int v1), some (.int v2), some (.int v3), some (.int v4), some (.int v5), none, none] [] M (some (.int q.1), q.2) := by
  intro fuel
  induction fuel with
  | zero => intro v1 v2 v3 v4 v5 M h; rw [F_X10_film_71] at h; cases h
  | succ n ih =>
    intro v1 v2 v3 v4 v5 M h
    rw [F_X10_film_71] at h
    refine Ev.iload (pc := 71) dX10_film_71 rfl ?_
    refine Ev.aload_n (pc := 73) dX10_film_73 rfl ?_
    refine Ev.getR (pc := 74) dX10_film_74 fl_RX10_23 lR_0 rfl ?_
    refine Ev.iload_n (pc := 77) dX10_film_77 rfl ?_
    obtain ⟨g9, h⟩ := eGdB h
    refine Ev.ialdj (pc := 78) dX10_film_78 (j := v1.toNatClampNeg) lR_5 g9 rfl ?_
    refine Ev.icmp_ge (pc := 79) (tgt := 163) dX10_film_79 (by decide) (fun c9 => ?_) (fun c9 => ?_)
    · have h := eF h c9
      exact Ev.fg (hK163 _ _ _ _ _ h) (And.intro rfl (And.intro rfl (And.intro rfl (And.intro rfl (And.intro rfl trivial)))))
    · have h := eT h c9
      refine Ev.aload_n (pc := 82) dX10_film_82 rfl ?_
      refine Ev.getR (pc := 83) dX10_film_83 fl_RX10_26 lR_0 rfl ?_
      refine Ev.bipush (pc := 86) dX10_film_86 (v := 20) (by decide) ?_
      refine Ev.iload_n (pc := 88) dX10_film_88 rfl ?_
      refine Ev.imul (pc := 89) dX10_film_89 ?_
      refine Ev.iload (pc := 90) dX10_film_90 rfl ?_
      refine Ev.iadd (pc := 92) dX10_film_92 ?_
      obtain ⟨g9, h⟩ := eGdB h
      refine Ev.ialdj (pc := 93) dX10_film_93 (j := ((20 * v1) + v5).toNatClampNeg) lR_6 g9 rfl ?_
      refine Ev.istore (pc := 94) dX10_film_94 (by decide) rfl rfl ?_
      refine Ev.iload_n (pc := 96) dX10_film_96 rfl ?_
      refine Ev.if_eq (pc := 97) (tgt := 133) dX10_film_97 (by decide) (fun c9 => ?_) (fun c9 => ?_)
      · have h := eT h c9
        exact Ev.fg (ev_X10_film_133 _ _ _ ih hK163 _ _ _ _ _ _ h) (And.intro rfl (And.intro rfl (And.intro rfl (And.intro rfl (And.intro rfl (And.intro rfl trivial))))))
      · have h := eF h c9
        refine Ev.iload (pc := 100) dX10_film_100 rfl ?_
        refine Ev.iconst (pc := 102) dX10_film_102 (v := 0) (by decide) ?_
        refine Ev.iconst (pc := 103) dX10_film_103 (v := 2) (by decide) ?_
        refine eBk h (fun q4 hq4 h => ?_)
        refine Ev.callS (pc := 104) (as := [.int (M.1 6 ((20 * v1) + v5).toNatClampNeg), .int 0, .int 2]) (st := []) (z := 0) dX10_film_104 wc_X10_in ml_RX10_58 sm_X10_in (ev_X10_in (M.1 6 ((20 * v1) + v5).toNatClampNeg) 0 2 M _ hq4) rfl rfl (by decide) rfl rfl (Nat.le_of_ble_eq_true rfl) ?_
        refine Ev.if_ne (pc := 107) (tgt := 129) dX10_film_107 (by decide) (fun c9 => ?_) (fun c9 => ?_)
        · have h := eF h c9
          exact Ev.fg (ev_X10_film_129 _ _ _ ih hK163 _ _ _ _ _ _ h) (And.intro rfl (And.intro rfl (And.intro rfl (And.intro rfl (And.intro rfl (And.intro rfl trivial))))))
        · have h := eT h c9
          refine Ev.aload_n (pc := 110) dX10_film_110 rfl ?_
          refine Ev.getR (pc := 111) dX10_film_111 fl_RX10_20 lR_0 rfl ?_
          refine Ev.iload_n (pc := 114) dX10_film_114 rfl ?_
          obtain ⟨g9, h⟩ := eGdB h
          refine Ev.ialdj (pc := 115) dX10_film_115 (j := v1.toNatClampNeg) lR_4 g9 rfl ?_
          refine Ev.bipush (pc := 116) dX10_film_116 (v := 32) (by decide) ?_
          refine Ev.icmp_ne (pc := 118) (tgt := 133) dX10_film_118 (by decide) (fun c9 => ?_) (fun c9 => ?_)
          · have h := eF h c9
            exact Ev.fg (ev_X10_film_133 _ _ _ ih hK163 _ _ _ _ _ _ h) (And.intro rfl (And.intro rfl (And.intro rfl (And.intro rfl (And.intro rfl (And.intro rfl trivial))))))
          · have h := eT h c9
            refine Ev.iload (pc := 121) dX10_film_121 rfl ?_
            refine Ev.sipush (pc := 123) dX10_film_123 (v := 999) (by decide) ?_
            refine Ev.icmp_ne (pc := 126) (tgt := 133) dX10_film_126 (by decide) (fun c9 => ?_) (fun c9 => ?_)
            · have h := eF h c9
              exact Ev.fg (ev_X10_film_133 _ _ _ ih hK163 _ _ _ _ _ _ h) (And.intro rfl (And.intro rfl (And.intro rfl (And.intro rfl (And.intro rfl (And.intro rfl trivial))))))
            · have h := eT h c9
              exact Ev.fg (ev_X10_film_129 _ _ _ ih hK163 _ _ _ _ _ _ h) (And.intro rfl (And.intro rfl (And.intro rfl (And.intro rfl (And.intro rfl (And.intro rfl trivial))))))
def F_X10_film_254 (rec : Int32 → Int32 → Int32 → Int32 → eMem → Option (Int32 × eMem)) (v1 : Int32) (v2 : Int32) (v4 : Int32) (v5 : Int32) (s0 : Int32) (s1 : Int32) (s2 : Int32) (M : eMem) : Option (Int32 × eMem) :=
  (F_X10_comes s2 s1 s0 v2 (M.1 1 0) v5 M).bind fun q6 =>
  rec v1 v2 v4 (v5 + 1) q6.2
set_option maxRecDepth 100000 in
set_option maxHeartbeats 4000000 in
theorem ev_X10_film_254 (rec : Int32 → Int32 → Int32 → Int32 → eMem → Option (Int32 × eMem)) (q : (Int32 × eMem)) (hrec : ∀ (v1 : Int32) (v2 : Int32) (v4 : Int32) (v5 : Int32) (M : eMem), rec v1 v2 v4 v5 M = some q → Ev layR 2 m_X10_film 197 [some (.ref 0), some (.int v1), some (.int v2), none, some (.int v4), some (.int v5), none, none] [] M (some (.int q.1), q.2)) (v1 : Int32) (v2 : Int32) (v4 : Int32) (v5 : Int32) (s0 : Int32) (s1 : Int32) (s2 : Int32) (M : eMem) (h : F_X10_film_254 rec v1 v2 v4 v5 s0 s1 s2 M = some q) : Ev layR 2 m_X10_film 254 [some (.ref 0), some (.int v1), some (.int v2), none, some (.int v4), some (.int v5), none, none] [.int s0, .int s1, .int s2, .ref 0] M (some (.int q.1), q.2) := by
  rw [F_X10_film_254] at h
  refine Ev.iload_n (pc := 254) dX10_film_254 rfl ?_
  refine Ev.aload_n (pc := 255) dX10_film_255 rfl ?_
  refine Ev.getR (pc := 256) dX10_film_256 fl_RX10_7 lR_0 rfl ?_
  refine Ev.iconst (pc := 259) dX10_film_259 (v := 0) (by decide) ?_
  refine Ev.ialdj (pc := 260) dX10_film_260 (j := 0) lR_1 (by decide) (by decide) ?_
  refine Ev.iload (pc := 261) dX10_film_261 rfl ?_
  refine eBk h (fun q6 hq6 h => ?_)
  refine Ev.callV (pc := 263) (as := [.int s2, .int s1, .int s0, .int v2, .int (M.1 1 0), .int v5]) (st := []) (z := 1) dX10_film_263 wc_X10_comes ml_RX10_130 im_X10_comes se_X10_comes lR_0 rfl rfl (ev_X10_comes s2 s1 s0 v2 (M.1 1 0) v5 M _ hq6) rfl rfl (by decide) rfl rfl (Nat.le_of_ble_eq_true rfl) ?_
  refine Ev.istore (pc := 266) dX10_film_266 (by decide) rfl rfl ?_
  refine Ev.iincv (pc := 268) dX10_film_268 (v := 1) (by decide) rfl (by decide) rfl rfl ?_
  refine Ev.goto (pc := 271) (tgt := 197) dX10_film_271 (by decide) ?_
  exact Ev.fg (hrec _ _ _ _ _ h) (And.intro rfl (And.intro rfl (And.intro rfl (And.intro rfl (And.intro rfl trivial)))))
def F_X10_film_234 (rec : Int32 → Int32 → Int32 → Int32 → eMem → Option (Int32 × eMem)) (v1 : Int32) (v2 : Int32) (v4 : Int32) (v5 : Int32) (v6 : Int32) (M : eMem) : Option (Int32 × eMem) :=
  (F_X10_show v5 1 M).bind fun q5 =>
  if v6 = 1 then
    F_X10_film_254 (fun v1 v2 v4 v5 M => rec v1 v2 v4 v5 M) v1 v2 v4 v5 1 q5 5 M
  else
    F_X10_film_254 (fun v1 v2 v4 v5 M => rec v1 v2 v4 v5 M) v1 v2 v4 v5 0 q5 5 M
set_option maxRecDepth 100000 in
set_option maxHeartbeats 4000000 in
theorem ev_X10_film_234 (rec : Int32 → Int32 → Int32 → Int32 → eMem → Option (Int32 × eMem)) (q : (Int32 × eMem)) (hrec : ∀ (v1 : Int32) (v2 : Int32) (v4 : Int32) (v5 : Int32) (M : eMem), rec v1 v2 v4 v5 M = some q → Ev layR 2 m_X10_film 197 [some (.ref 0), some (.int v1), some (.int v2), none, some (.int v4), some (.int v5), none, none] [] M (some (.int q.1), q.2)) (v1 : Int32) (v2 : Int32) (v4 : Int32) (v5 : Int32) (v6 : Int32) (M : eMem) (h : F_X10_film_234 rec v1 v2 v4 v5 v6 M = some q) : Ev layR 2 m_X10_film 234 [some (.ref 0), some (.int v1), some (.int v2), none, some (.int v4), some (.int v5), some (.int v6), none] [] M (some (.int q.1), q.2) := by
  rw [F_X10_film_234] at h
  refine Ev.aload_n (pc := 234) dX10_film_234 rfl ?_
  refine Ev.iconst (pc := 235) dX10_film_235 (v := 5) (by decide) ?_
  refine Ev.aload_n (pc := 236) dX10_film_236 rfl ?_
  refine Ev.iload (pc := 237) dX10_film_237 rfl ?_
  refine Ev.iconst (pc := 239) dX10_film_239 (v := 1) (by decide) ?_
  refine eBk h (fun q5 hq5 h => ?_)
  refine Ev.callV (pc := 240) (as := [.int v5, .int 1]) (st := [.int 5, .ref 0]) (z := 0) dX10_film_240 wc_X10_show ml_RX10_77 im_X10_show se_X10_show lR_0 rfl rfl (ev_X10_show v5 1 M _ hq5) rfl rfl (by decide) rfl rfl (Nat.le_of_ble_eq_true rfl) ?_
  refine Ev.iload (pc := 243) dX10_film_243 rfl ?_
  refine Ev.iconst (pc := 245) dX10_film_245 (v := 1) (by decide) ?_
  refine Ev.icmp_ne (pc := 246) (tgt := 253) dX10_film_246 (by decide) (fun c9 => ?_) (fun c9 => ?_)
  · have h := eF h c9
    refine Ev.iconst (pc := 253) dX10_film_253 (v := 0) (by decide) ?_
    exact Ev.fg (ev_X10_film_254 _ _ hrec _ _ _ _ _ _ _ _ h) (And.intro rfl (And.intro rfl (And.intro rfl (And.intro rfl (And.intro rfl trivial)))))
  · have h := eT h c9
    refine Ev.iconst (pc := 249) dX10_film_249 (v := 1) (by decide) ?_
    refine Ev.goto (pc := 250) (tgt := 254) dX10_film_250 (by decide) ?_
    exact Ev.fg (ev_X10_film_254 _ _ hrec _ _ _ _ _ _ _ _ h) (And.intro rfl (And.intro rfl (And.intro rfl (And.intro rfl (And.intro rfl trivial)))))
def F_X10_film_197  : Nat → Int32 → Int32 → Int32 → Int32 → eMem → Option (Int32 × eMem)
  | 0, _, _, _, _, _ => none
  | n + 1, v1, v2, v4, v5, M =>
    eG (eIn v1 4) <|
    if v5 < (M.1 5 v1.toNatClampNeg) then
      eG (eIn ((20 * v1) + v5) 80) <|
      if (M.1 6 ((20 * v1) + v5).toNatClampNeg) = 1 then
        F_X10_film_234 (fun v1 v2 v4 v5 M => F_X10_film_197 n v1 v2 v4 v5 M) v1 v2 v4 v5 (M.1 6 ((20 * v1) + v5).toNatClampNeg) M
      else
        if (M.1 6 ((20 * v1) + v5).toNatClampNeg) = 2 then
          F_X10_film_234 (fun v1 v2 v4 v5 M => F_X10_film_197 n v1 v2 v4 v5 M) v1 v2 v4 v5 (M.1 6 ((20 * v1) + v5).toNatClampNeg) M
        else
          F_X10_film_197 n v1 v2 v4 (v5 + 1) M
    else
      some (v4, M)
set_option maxRecDepth 100000 in
set_option maxHeartbeats 4000000 in
theorem ev_X10_film_197  (q : (Int32 × eMem))  : ∀ (fuel : Nat) (v1 : Int32) (v2 : Int32) (v4 : Int32) (v5 : Int32) (M : eMem), F_X10_film_197 fuel v1 v2 v4 v5 M = some q → Ev layR 2 m_X10_film 197 [some (.ref 0), some (.int v1), some (.int v2), none, some (.int v4), some (.int v5), none, none] [] M (some (.int q.1), q.2) := by
  intro fuel
  induction fuel with
  | zero => intro v1 v2 v4 v5 M h; rw [F_X10_film_197] at h; cases h
  | succ n ih =>
    intro v1 v2 v4 v5 M h
    rw [F_X10_film_197] at h
    refine Ev.iload (pc := 197) dX10_film_197 rfl ?_
    refine Ev.aload_n (pc := 199) dX10_film_199 rfl ?_
    refine Ev.getR (pc := 200) dX10_film_200 fl_RX10_23 lR_0 rfl ?_
    refine Ev.iload_n (pc := 203) dX10_film_203 rfl ?_
    obtain ⟨g9, h⟩ := eGdB h
    refine Ev.ialdj (pc := 204) dX10_film_204 (j := v1.toNatClampNeg) lR_5 g9 rfl ?_
    refine Ev.icmp_ge (pc := 205) (tgt := 274) dX10_film_205 (by decide) (fun c9 => ?_) (fun c9 => ?_)
    · have h := eF h c9
      refine Ev.iload (pc := 274) dX10_film_274 rfl ?_
      obtain rfl := Option.some.inj h
      exact Ev.iret (pc := 276) dX10_film_276 rfl rfl
    · have h := eT h c9
      refine Ev.aload_n (pc := 208) dX10_film_208 rfl ?_
      refine Ev.getR (pc := 209) dX10_film_209 fl_RX10_26 lR_0 rfl ?_
      refine Ev.bipush (pc := 212) dX10_film_212 (v := 20) (by decide) ?_
      refine Ev.iload_n (pc := 214) dX10_film_214 rfl ?_
      refine Ev.imul (pc := 215) dX10_film_215 ?_
      refine Ev.iload (pc := 216) dX10_film_216 rfl ?_
      refine Ev.iadd (pc := 218) dX10_film_218 ?_
      obtain ⟨g9, h⟩ := eGdB h
      refine Ev.ialdj (pc := 219) dX10_film_219 (j := ((20 * v1) + v5).toNatClampNeg) lR_6 g9 rfl ?_
      refine Ev.istore (pc := 220) dX10_film_220 (by decide) rfl rfl ?_
      refine Ev.iload (pc := 222) dX10_film_222 rfl ?_
      refine Ev.iconst (pc := 224) dX10_film_224 (v := 1) (by decide) ?_
      refine Ev.icmp_eq (pc := 225) (tgt := 234) dX10_film_225 (by decide) (fun c9 => ?_) (fun c9 => ?_)
      · have h := eT h c9
        exact Ev.fg (ev_X10_film_234 _ _ ih _ _ _ _ _ _ h) (And.intro rfl (And.intro rfl (And.intro rfl (And.intro rfl (And.intro rfl (And.intro rfl trivial))))))
      · have h := eF h c9
        refine Ev.iload (pc := 228) dX10_film_228 rfl ?_
        refine Ev.iconst (pc := 230) dX10_film_230 (v := 2) (by decide) ?_
        refine Ev.icmp_ne (pc := 231) (tgt := 268) dX10_film_231 (by decide) (fun c9 => ?_) (fun c9 => ?_)
        · have h := eF h c9
          refine Ev.iincv (pc := 268) dX10_film_268 (v := 1) (by decide) rfl (by decide) rfl rfl ?_
          refine Ev.goto (pc := 271) (tgt := 197) dX10_film_271 (by decide) ?_
          exact Ev.fg (ih _ _ _ _ _ h) (And.intro rfl (And.intro rfl (And.intro rfl (And.intro rfl (And.intro rfl trivial)))))
        · have h := eT h c9
          exact Ev.fg (ev_X10_film_234 _ _ ih _ _ _ _ _ _ h) (And.intro rfl (And.intro rfl (And.intro rfl (And.intro rfl (And.intro rfl (And.intro rfl trivial))))))
def F_X10_film_64  (v1 : Int32) (v2 : Int32) (s0 : Int32) (M : eMem) : Option (Int32 × eMem) :=
  F_X10_film_71
    (fun v1 v2 v3 v4 M =>
      if v3 = 0 then
        (F_X10_finding 1 M).bind fun q8 =>
        some (q8.1, q8.2)
      else
        if 90 < ((M.1 1 10) + v4) then
          (F_X10_finding 2 M).bind fun q7 =>
          some (q7.1, q7.2)
        else
          F_X10_film_197 eFuel v1 v2 v4 0 M)
    eFuel v1 v2 s0 0 0 M
set_option maxRecDepth 100000 in
set_option maxHeartbeats 4000000 in
theorem ev_X10_film_64  (q : (Int32 × eMem))  (v1 : Int32) (v2 : Int32) (s0 : Int32) (M : eMem) (h : F_X10_film_64 v1 v2 s0 M = some q) : Ev layR 2 m_X10_film 64 [some (.ref 0), some (.int v1), some (.int v2), none, none, none, none, none] [.int s0] M (some (.int q.1), q.2) := by
  rw [F_X10_film_64] at h
  refine Ev.istore_n (pc := 64) dX10_film_64 (by decide) rfl rfl ?_
  refine Ev.iconst (pc := 65) dX10_film_65 (v := 0) (by decide) ?_
  refine Ev.istore (pc := 66) dX10_film_66 (by decide) rfl rfl ?_
  refine Ev.iconst (pc := 68) dX10_film_68 (v := 0) (by decide) ?_
  refine Ev.istore (pc := 69) dX10_film_69 (by decide) rfl rfl ?_
  refine Ev.fg (ev_X10_film_71 _ _ ?_ _ _ _ _ _ _ _ h) (And.intro rfl (And.intro rfl (And.intro rfl (And.intro rfl (And.intro rfl (And.intro rfl trivial))))))
  · intro v1 v2 v3 v4 M h
    refine Ev.iload_n (pc := 163) dX10_film_163 rfl ?_
    refine Ev.if_ne (pc := 164) (tgt := 173) dX10_film_164 (by decide) (fun c9 => ?_) (fun c9 => ?_)
    · have h := eF h c9
      refine Ev.aload_n (pc := 173) dX10_film_173 rfl ?_
      refine Ev.getR (pc := 174) dX10_film_174 fl_RX10_7 lR_0 rfl ?_
      refine Ev.bipush (pc := 177) dX10_film_177 (v := 10) (by decide) ?_
      refine Ev.ialdj (pc := 179) dX10_film_179 (j := 10) lR_1 (by decide) (by decide) ?_
      refine Ev.iload (pc := 180) dX10_film_180 rfl ?_
      refine Ev.iadd (pc := 182) dX10_film_182 ?_
      refine Ev.bipush (pc := 183) dX10_film_183 (v := 90) (by decide) ?_
      refine Ev.icmp_le (pc := 185) (tgt := 194) dX10_film_185 (by decide) (fun c9 => ?_) (fun c9 => ?_)
      · have h := eF h c9
        refine Ev.iconst (pc := 194) dX10_film_194 (v := 0) (by decide) ?_
        refine Ev.istore (pc := 195) dX10_film_195 (by decide) rfl rfl ?_
        exact Ev.fg (ev_X10_film_197 _ _ _ _ _ _ _ h) (And.intro rfl (And.intro rfl (And.intro rfl (And.intro rfl (And.intro rfl trivial)))))
      · have h := eT h c9
        refine Ev.aload_n (pc := 188) dX10_film_188 rfl ?_
        refine Ev.iconst (pc := 189) dX10_film_189 (v := 2) (by decide) ?_
        refine eBk h (fun q7 hq7 h => ?_)
        refine Ev.callV (pc := 190) (as := [.int 2]) (st := []) (z := 0) dX10_film_190 wc_X10_finding ml_RX10_66 im_X10_finding se_X10_finding lR_0 rfl rfl (ev_X10_finding 2 M _ hq7) rfl rfl (by decide) rfl rfl (Nat.le_of_ble_eq_true rfl) ?_
        obtain rfl := Option.some.inj h
        exact Ev.iret (pc := 193) dX10_film_193 rfl rfl
    · have h := eT h c9
      refine Ev.aload_n (pc := 167) dX10_film_167 rfl ?_
      refine Ev.iconst (pc := 168) dX10_film_168 (v := 1) (by decide) ?_
      refine eBk h (fun q8 hq8 h => ?_)
      refine Ev.callV (pc := 169) (as := [.int 1]) (st := []) (z := 0) dX10_film_169 wc_X10_finding ml_RX10_66 im_X10_finding se_X10_finding lR_0 rfl rfl (ev_X10_finding 1 M _ hq8) rfl rfl (by decide) rfl rfl (Nat.le_of_ble_eq_true rfl) ?_
      obtain rfl := Option.some.inj h
      exact Ev.iret (pc := 172) dX10_film_172 rfl rfl
def F_X10_film (x1 : Int32) (x2 : Int32) (M : eMem) : Option (Int32 × eMem) :=
  (F_X10_isSheet x1).bind fun q1 =>
  if q1 = 0 then
    (F_X10_finding 1 M).bind fun q2 =>
    some (q2.1, q2.2)
  else
    (F_X10_in x2 0 (M.1 1 0)).bind fun q3 =>
    if q3 = 0 then
      (F_X10_finding 1 M).bind fun q10 =>
      some (q10.1, q10.2)
    else
      eG (eIn x1 4) <|
      if (M.1 4 x1.toNatClampNeg) = 0 then
        (F_X10_finding 6 M).bind fun q9 =>
        some (q9.1, q9.2)
      else
        eG (eIn x1 4) <|
        if (M.1 1 9) < (M.1 5 x1.toNatClampNeg) then
          F_X10_film_64 x1 x2 0 M
        else
          F_X10_film_64 x1 x2 1 M
set_option maxRecDepth 100000 in
set_option maxHeartbeats 4000000 in
theorem ev_X10_film (x1 : Int32) (x2 : Int32) (M : eMem) (q : (Int32 × eMem)) (h : F_X10_film x1 x2 M = some q) : Ev layR 2 m_X10_film 0 [some (.ref 0), some (.int x1), some (.int x2), none, none, none, none, none] [] M (some (.int q.1), q.2) := by
  rw [F_X10_film] at h
  refine Ev.iload_n (pc := 0) dX10_film_0 rfl ?_
  refine eBk h (fun q1 hq1 h => ?_)
  refine Ev.callS (pc := 1) (as := [.int x1]) (st := []) (z := 0) dX10_film_1 wc_X10_isSheet ml_RX10_134 sm_X10_isSheet (ev_X10_isSheet x1 M _ hq1) rfl rfl (by decide) rfl rfl (Nat.le_of_ble_eq_true rfl) ?_
  refine Ev.if_eq (pc := 4) (tgt := 21) dX10_film_4 (by decide) (fun c9 => ?_) (fun c9 => ?_)
  · have h := eT h c9
    refine Ev.aload_n (pc := 21) dX10_film_21 rfl ?_
    refine Ev.iconst (pc := 22) dX10_film_22 (v := 1) (by decide) ?_
    refine eBk h (fun q2 hq2 h => ?_)
    refine Ev.callV (pc := 23) (as := [.int 1]) (st := []) (z := 0) dX10_film_23 wc_X10_finding ml_RX10_66 im_X10_finding se_X10_finding lR_0 rfl rfl (ev_X10_finding 1 M _ hq2) rfl rfl (by decide) rfl rfl (Nat.le_of_ble_eq_true rfl) ?_
    obtain rfl := Option.some.inj h
    exact Ev.iret (pc := 26) dX10_film_26 rfl rfl
  · have h := eF h c9
    refine Ev.iload_n (pc := 7) dX10_film_7 rfl ?_
    refine Ev.iconst (pc := 8) dX10_film_8 (v := 0) (by decide) ?_
    refine Ev.aload_n (pc := 9) dX10_film_9 rfl ?_
    refine Ev.getR (pc := 10) dX10_film_10 fl_RX10_7 lR_0 rfl ?_
    refine Ev.iconst (pc := 13) dX10_film_13 (v := 0) (by decide) ?_
    refine Ev.ialdj (pc := 14) dX10_film_14 (j := 0) lR_1 (by decide) (by decide) ?_
    refine eBk h (fun q3 hq3 h => ?_)
    refine Ev.callS (pc := 15) (as := [.int x2, .int 0, .int (M.1 1 0)]) (st := []) (z := 0) dX10_film_15 wc_X10_in ml_RX10_58 sm_X10_in (ev_X10_in x2 0 (M.1 1 0) M _ hq3) rfl rfl (by decide) rfl rfl (Nat.le_of_ble_eq_true rfl) ?_
    refine Ev.if_ne (pc := 18) (tgt := 27) dX10_film_18 (by decide) (fun c9 => ?_) (fun c9 => ?_)
    · have h := eF h c9
      refine Ev.aload_n (pc := 27) dX10_film_27 rfl ?_
      refine Ev.getR (pc := 28) dX10_film_28 fl_RX10_20 lR_0 rfl ?_
      refine Ev.iload_n (pc := 31) dX10_film_31 rfl ?_
      obtain ⟨g9, h⟩ := eGdB h
      refine Ev.ialdj (pc := 32) dX10_film_32 (j := x1.toNatClampNeg) lR_4 g9 rfl ?_
      refine Ev.if_ne (pc := 33) (tgt := 43) dX10_film_33 (by decide) (fun c9 => ?_) (fun c9 => ?_)
      · have h := eF h c9
        refine Ev.aload_n (pc := 43) dX10_film_43 rfl ?_
        refine Ev.getR (pc := 44) dX10_film_44 fl_RX10_23 lR_0 rfl ?_
        refine Ev.iload_n (pc := 47) dX10_film_47 rfl ?_
        obtain ⟨g9, h⟩ := eGdB h
        refine Ev.ialdj (pc := 48) dX10_film_48 (j := x1.toNatClampNeg) lR_5 g9 rfl ?_
        refine Ev.aload_n (pc := 49) dX10_film_49 rfl ?_
        refine Ev.getR (pc := 50) dX10_film_50 fl_RX10_7 lR_0 rfl ?_
        refine Ev.bipush (pc := 53) dX10_film_53 (v := 9) (by decide) ?_
        refine Ev.ialdj (pc := 55) dX10_film_55 (j := 9) lR_1 (by decide) (by decide) ?_
        refine Ev.icmp_gt (pc := 56) (tgt := 63) dX10_film_56 (by decide) (fun c9 => ?_) (fun c9 => ?_)
        · have h := eT h c9
          refine Ev.iconst (pc := 63) dX10_film_63 (v := 0) (by decide) ?_
          exact Ev.fg (ev_X10_film_64 _ _ _ _ _ h) (And.intro rfl (And.intro rfl (And.intro rfl trivial)))
        · have h := eF h c9
          refine Ev.iconst (pc := 59) dX10_film_59 (v := 1) (by decide) ?_
          refine Ev.goto (pc := 60) (tgt := 64) dX10_film_60 (by decide) ?_
          exact Ev.fg (ev_X10_film_64 _ _ _ _ _ h) (And.intro rfl (And.intro rfl (And.intro rfl trivial)))
      · have h := eT h c9
        refine Ev.aload_n (pc := 36) dX10_film_36 rfl ?_
        refine Ev.bipush (pc := 37) dX10_film_37 (v := 6) (by decide) ?_
        refine eBk h (fun q9 hq9 h => ?_)
        refine Ev.callV (pc := 39) (as := [.int 6]) (st := []) (z := 0) dX10_film_39 wc_X10_finding ml_RX10_66 im_X10_finding se_X10_finding lR_0 rfl rfl (ev_X10_finding 6 M _ hq9) rfl rfl (by decide) rfl rfl (Nat.le_of_ble_eq_true rfl) ?_
        obtain rfl := Option.some.inj h
        exact Ev.iret (pc := 42) dX10_film_42 rfl rfl
    · have h := eT h c9
      refine Ev.aload_n (pc := 21) dX10_film_21 rfl ?_
      refine Ev.iconst (pc := 22) dX10_film_22 (v := 1) (by decide) ?_
      refine eBk h (fun q10 hq10 h => ?_)
      refine Ev.callV (pc := 23) (as := [.int 1]) (st := []) (z := 0) dX10_film_23 wc_X10_finding ml_RX10_66 im_X10_finding se_X10_finding lR_0 rfl rfl (ev_X10_finding 1 M _ hq10) rfl rfl (by decide) rfl rfl (Nat.le_of_ble_eq_true rfl) ?_
      obtain rfl := Option.some.inj h
      exact Ev.iret (pc := 26) dX10_film_26 rfl rfl
theorem dX1_credit_0 : decode cX1_credit 0 = .ok (.aload_n 0, 1) := by decide +kernel
theorem dX1_credit_1 : decode cX1_credit 1 = .ok (.getfield 9, 3) := by decide +kernel
theorem dX1_credit_4 : decode cX1_credit 4 = .ok (.iload_n 1, 1) := by decide +kernel
theorem dX1_credit_5 : decode cX1_credit 5 = .ok (.iaload, 1) := by decide +kernel
theorem dX1_credit_6 : decode cX1_credit 6 = .ok (.tableswitch 63 1 4 #[30, 34, 34, 32], 30) := by decide +kernel
theorem dX1_credit_36 : decode cX1_credit 36 = .ok (.iconst 1, 1) := by decide +kernel
theorem dX1_credit_37 : decode cX1_credit 37 = .ok (.ireturn, 1) := by decide +kernel
theorem dX1_credit_38 : decode cX1_credit 38 = .ok (.iconst 3, 1) := by decide +kernel
theorem dX1_credit_39 : decode cX1_credit 39 = .ok (.ireturn, 1) := by decide +kernel
theorem dX1_credit_40 : decode cX1_credit 40 = .ok (.aload_n 2, 1) := by decide +kernel
theorem dX1_credit_41 : decode cX1_credit 41 = .ok (.aload_n 0, 1) := by decide +kernel
theorem dX1_credit_42 : decode cX1_credit 42 = .ok (.getfield 28, 3) := by decide +kernel
theorem dX1_credit_45 : decode cX1_credit 45 = .ok (.iload_n 1, 1) := by decide +kernel
theorem dX1_credit_46 : decode cX1_credit 46 = .ok (.iaload, 1) := by decide +kernel
theorem dX1_credit_47 : decode cX1_credit 47 = .ok (.invokevirtual 55, 3) := by decide +kernel
theorem dX1_credit_50 : decode cX1_credit 50 = .ok (.ifCond .eq 17, 3) := by decide +kernel
theorem dX1_credit_53 : decode cX1_credit 53 = .ok (.aload_n 2, 1) := by decide +kernel
theorem dX1_credit_54 : decode cX1_credit 54 = .ok (.getfield 61, 3) := by decide +kernel
theorem dX1_credit_57 : decode cX1_credit 57 = .ok (.aload_n 0, 1) := by decide +kernel
theorem dX1_credit_58 : decode cX1_credit 58 = .ok (.getfield 28, 3) := by decide +kernel
theorem dX1_credit_61 : decode cX1_credit 61 = .ok (.iload_n 1, 1) := by decide +kernel
theorem dX1_credit_62 : decode cX1_credit 62 = .ok (.iaload, 1) := by decide +kernel
theorem dX1_credit_63 : decode cX1_credit 63 = .ok (.iaload, 1) := by decide +kernel
theorem dX1_credit_64 : decode cX1_credit 64 = .ok (.goto 4, 3) := by decide +kernel
theorem dX1_credit_67 : decode cX1_credit 67 = .ok (.iconst 0, 1) := by decide +kernel
theorem dX1_credit_68 : decode cX1_credit 68 = .ok (.ireturn, 1) := by decide +kernel
theorem dX1_credit_69 : decode cX1_credit 69 = .ok (.iconst 2, 1) := by decide +kernel
theorem dX1_credit_70 : decode cX1_credit 70 = .ok (.ireturn, 1) := by decide +kernel
def F_X1_credit (x1 : Int32) (M : eMem) : Option Int32 :=
  eG (eIn x1 90) <|
  if (M.1 30 x1.toNatClampNeg) = 1 then
    some 1
  else
  if (M.1 30 x1.toNatClampNeg) = 2 then
    eG (eIn x1 90) <|
    (F_X5_has (M.1 35 x1.toNatClampNeg) M).bind fun q2 =>
    if q2 = 0 then
      some 0
    else
      eG (eIn x1 90) <|
      eG (eIn (M.1 35 x1.toNatClampNeg) 20) <|
      some (M.1 16 (M.1 35 x1.toNatClampNeg).toNatClampNeg)
  else
  if (M.1 30 x1.toNatClampNeg) = 3 then
    eG (eIn x1 90) <|
    (F_X5_has (M.1 35 x1.toNatClampNeg) M).bind fun q4 =>
    if q4 = 0 then
      some 0
    else
      eG (eIn x1 90) <|
      eG (eIn (M.1 35 x1.toNatClampNeg) 20) <|
      some (M.1 16 (M.1 35 x1.toNatClampNeg).toNatClampNeg)
  else
  if (M.1 30 x1.toNatClampNeg) = 4 then
    some 3
  else
  some 2
set_option maxRecDepth 100000 in
set_option maxHeartbeats 4000000 in
theorem ev_X1_credit (x1 : Int32) (M : eMem) (q : Int32) (h : F_X1_credit x1 M = some q) : Ev layC 2 m_X1_credit 0 [some (.ref 29), some (.int x1), some (.ref 12)] [] M (some (.int q), M) := by
  rw [F_X1_credit] at h
  refine Ev.aload_n (pc := 0) dX1_credit_0 rfl ?_
  refine Ev.getR (pc := 1) dX1_credit_1 fl_RX1_9 lC_29 rfl ?_
  refine Ev.iload_n (pc := 4) dX1_credit_4 rfl ?_
  obtain ⟨g9, h⟩ := eGdB h
  refine Ev.ialdj (pc := 5) dX1_credit_5 (j := x1.toNatClampNeg) lC_30 g9 rfl ?_
  by_cases cs1 : (M.1 30 x1.toNatClampNeg) = 1
  · have h := eT h cs1
    refine Ev.tsIn (pc := 6) (tgt := 36) (off := 30) dX1_credit_6 (by rw [cs1]; decide) (by rw [cs1]; decide) (by rw [cs1]; rfl) (by decide) ?_
    refine Ev.iconst (pc := 36) dX1_credit_36 (v := 1) (by decide) ?_
    obtain rfl := Option.some.inj h
    exact Ev.iret (pc := 37) dX1_credit_37 rfl rfl
  have h := eF h cs1
  by_cases cs3 : (M.1 30 x1.toNatClampNeg) = 2
  · have h := eT h cs3
    refine Ev.tsIn (pc := 6) (tgt := 40) (off := 34) dX1_credit_6 (by rw [cs3]; decide) (by rw [cs3]; decide) (by rw [cs3]; rfl) (by decide) ?_
    refine Ev.aload_n (pc := 40) dX1_credit_40 rfl ?_
    refine Ev.aload_n (pc := 41) dX1_credit_41 rfl ?_
    refine Ev.getR (pc := 42) dX1_credit_42 fl_RX1_28 lC_29 rfl ?_
    refine Ev.iload_n (pc := 45) dX1_credit_45 rfl ?_
    obtain ⟨g9, h⟩ := eGdB h
    refine Ev.ialdj (pc := 46) dX1_credit_46 (j := x1.toNatClampNeg) lC_35 g9 rfl ?_
    refine eBk h (fun q2 hq2 h => ?_)
    refine Ev.callV (pc := 47) (as := [.int (M.1 35 x1.toNatClampNeg)]) (st := []) (z := 0) dX1_credit_47 wc_X5_has ml_RX1_55 im_X5_has se_X5_has lC_12 rfl rfl (ev_X5_has (M.1 35 x1.toNatClampNeg) M _ hq2) rfl rfl (by decide) rfl rfl (Nat.le_of_ble_eq_true rfl) ?_
    refine Ev.if_eq (pc := 50) (tgt := 67) dX1_credit_50 (by decide) (fun c9 => ?_) (fun c9 => ?_)
    · have h := eT h c9
      refine Ev.iconst (pc := 67) dX1_credit_67 (v := 0) (by decide) ?_
      obtain rfl := Option.some.inj h
      exact Ev.iret (pc := 68) dX1_credit_68 rfl rfl
    · have h := eF h c9
      refine Ev.aload_n (pc := 53) dX1_credit_53 rfl ?_
      refine Ev.getR (pc := 54) dX1_credit_54 fl_RX1_61 lC_12 rfl ?_
      refine Ev.aload_n (pc := 57) dX1_credit_57 rfl ?_
      refine Ev.getR (pc := 58) dX1_credit_58 fl_RX1_28 lC_29 rfl ?_
      refine Ev.iload_n (pc := 61) dX1_credit_61 rfl ?_
      obtain ⟨g9, h⟩ := eGdB h
      refine Ev.ialdj (pc := 62) dX1_credit_62 (j := x1.toNatClampNeg) lC_35 g9 rfl ?_
      obtain ⟨g9, h⟩ := eGdB h
      refine Ev.ialdj (pc := 63) dX1_credit_63 (j := (M.1 35 x1.toNatClampNeg).toNatClampNeg) lC_16 g9 rfl ?_
      refine Ev.goto (pc := 64) (tgt := 68) dX1_credit_64 (by decide) ?_
      obtain rfl := Option.some.inj h
      exact Ev.iret (pc := 68) dX1_credit_68 rfl rfl
  have h := eF h cs3
  by_cases cs5 : (M.1 30 x1.toNatClampNeg) = 3
  · have h := eT h cs5
    refine Ev.tsIn (pc := 6) (tgt := 40) (off := 34) dX1_credit_6 (by rw [cs5]; decide) (by rw [cs5]; decide) (by rw [cs5]; rfl) (by decide) ?_
    refine Ev.aload_n (pc := 40) dX1_credit_40 rfl ?_
    refine Ev.aload_n (pc := 41) dX1_credit_41 rfl ?_
    refine Ev.getR (pc := 42) dX1_credit_42 fl_RX1_28 lC_29 rfl ?_
    refine Ev.iload_n (pc := 45) dX1_credit_45 rfl ?_
    obtain ⟨g9, h⟩ := eGdB h
    refine Ev.ialdj (pc := 46) dX1_credit_46 (j := x1.toNatClampNeg) lC_35 g9 rfl ?_
    refine eBk h (fun q4 hq4 h => ?_)
    refine Ev.callV (pc := 47) (as := [.int (M.1 35 x1.toNatClampNeg)]) (st := []) (z := 0) dX1_credit_47 wc_X5_has ml_RX1_55 im_X5_has se_X5_has lC_12 rfl rfl (ev_X5_has (M.1 35 x1.toNatClampNeg) M _ hq4) rfl rfl (by decide) rfl rfl (Nat.le_of_ble_eq_true rfl) ?_
    refine Ev.if_eq (pc := 50) (tgt := 67) dX1_credit_50 (by decide) (fun c9 => ?_) (fun c9 => ?_)
    · have h := eT h c9
      refine Ev.iconst (pc := 67) dX1_credit_67 (v := 0) (by decide) ?_
      obtain rfl := Option.some.inj h
      exact Ev.iret (pc := 68) dX1_credit_68 rfl rfl
    · have h := eF h c9
      refine Ev.aload_n (pc := 53) dX1_credit_53 rfl ?_
      refine Ev.getR (pc := 54) dX1_credit_54 fl_RX1_61 lC_12 rfl ?_
      refine Ev.aload_n (pc := 57) dX1_credit_57 rfl ?_
      refine Ev.getR (pc := 58) dX1_credit_58 fl_RX1_28 lC_29 rfl ?_
      refine Ev.iload_n (pc := 61) dX1_credit_61 rfl ?_
      obtain ⟨g9, h⟩ := eGdB h
      refine Ev.ialdj (pc := 62) dX1_credit_62 (j := x1.toNatClampNeg) lC_35 g9 rfl ?_
      obtain ⟨g9, h⟩ := eGdB h
      refine Ev.ialdj (pc := 63) dX1_credit_63 (j := (M.1 35 x1.toNatClampNeg).toNatClampNeg) lC_16 g9 rfl ?_
      refine Ev.goto (pc := 64) (tgt := 68) dX1_credit_64 (by decide) ?_
      obtain rfl := Option.some.inj h
      exact Ev.iret (pc := 68) dX1_credit_68 rfl rfl
  have h := eF h cs5
  by_cases cs6 : (M.1 30 x1.toNatClampNeg) = 4
  · have h := eT h cs6
    refine Ev.tsIn (pc := 6) (tgt := 38) (off := 32) dX1_credit_6 (by rw [cs6]; decide) (by rw [cs6]; decide) (by rw [cs6]; rfl) (by decide) ?_
    refine Ev.iconst (pc := 38) dX1_credit_38 (v := 3) (by decide) ?_
    obtain rfl := Option.some.inj h
    exact Ev.iret (pc := 39) dX1_credit_39 rfl rfl
  have h := eF h cs6
  refine Ev.tsOut (pc := 6) (tgt := 69) dX1_credit_6 (eTsO 4 (by decide) (by decide) (by decide) (by
    intro k hk
    rcases (show k = 0 ∨ k = 1 ∨ k = 2 ∨ k = 3 by omega) with rfl | rfl | rfl | rfl
    · exact cs1
    · exact cs3
    · exact cs5
    · exact cs6
    )) (by decide) ?_
  refine Ev.iconst (pc := 69) dX1_credit_69 (v := 2) (by decide) ?_
  obtain rfl := Option.some.inj h
  exact Ev.iret (pc := 70) dX1_credit_70 rfl rfl
theorem dX9_report_0 : decode cX9_report 0 = .ok (.aload_n 0, 1) := by decide +kernel
theorem dX9_report_1 : decode cX9_report 1 = .ok (.getfield 12, 3) := by decide +kernel
theorem dX9_report_4 : decode cX9_report 4 = .ok (.getfield 212, 3) := by decide +kernel
theorem dX9_report_7 : decode cX9_report 7 = .ok (.astore_n 3, 1) := by decide +kernel
theorem dX9_report_8 : decode cX9_report 8 = .ok (.iload_n 1, 1) := by decide +kernel
theorem dX9_report_9 : decode cX9_report 9 = .ok (.aload_n 3, 1) := by decide +kernel
theorem dX9_report_10 : decode cX9_report 10 = .ok (.getfield 226, 3) := by decide +kernel
theorem dX9_report_13 : decode cX9_report 13 = .ok (.invokestatic 37, 3) := by decide +kernel
theorem dX9_report_16 : decode cX9_report 16 = .ok (.ifCond .ne 10, 3) := by decide +kernel
theorem dX9_report_19 : decode cX9_report 19 = .ok (.aload_n 0, 1) := by decide +kernel
theorem dX9_report_20 : decode cX9_report 20 = .ok (.ldc 41, 2) := by decide +kernel
theorem dX9_report_22 : decode cX9_report 22 = .ok (.invokevirtual 42, 3) := by decide +kernel
theorem dX9_report_25 : decode cX9_report 25 = .ok (.ireturn, 1) := by decide +kernel
theorem dX9_report_26 : decode cX9_report 26 = .ok (.iload_n 2, 1) := by decide +kernel
theorem dX9_report_27 : decode cX9_report 27 = .ok (.tableswitch 123 0 7 #[45, 52, 59, 74, 81, 88, 95, 110], 45) := by decide +kernel
theorem dX9_report_72 : decode cX9_report 72 = .ok (.aload_n 3, 1) := by decide +kernel
theorem dX9_report_73 : decode cX9_report 73 = .ok (.getfield 245, 3) := by decide +kernel
theorem dX9_report_76 : decode cX9_report 76 = .ok (.iload_n 1, 1) := by decide +kernel
theorem dX9_report_77 : decode cX9_report 77 = .ok (.iaload, 1) := by decide +kernel
theorem dX9_report_78 : decode cX9_report 78 = .ok (.ireturn, 1) := by decide +kernel
theorem dX9_report_79 : decode cX9_report 79 = .ok (.aload_n 3, 1) := by decide +kernel
theorem dX9_report_80 : decode cX9_report 80 = .ok (.getfield 248, 3) := by decide +kernel
theorem dX9_report_83 : decode cX9_report 83 = .ok (.iload_n 1, 1) := by decide +kernel
theorem dX9_report_84 : decode cX9_report 84 = .ok (.iaload, 1) := by decide +kernel
theorem dX9_report_85 : decode cX9_report 85 = .ok (.ireturn, 1) := by decide +kernel
theorem dX9_report_86 : decode cX9_report 86 = .ok (.aload_n 3, 1) := by decide +kernel
theorem dX9_report_87 : decode cX9_report 87 = .ok (.getfield 249, 3) := by decide +kernel
theorem dX9_report_90 : decode cX9_report 90 = .ok (.iload_n 1, 1) := by decide +kernel
theorem dX9_report_91 : decode cX9_report 91 = .ok (.baload, 1) := by decide +kernel
theorem dX9_report_92 : decode cX9_report 92 = .ok (.ifCond .eq 7, 3) := by decide +kernel
theorem dX9_report_95 : decode cX9_report 95 = .ok (.iconst 1, 1) := by decide +kernel
theorem dX9_report_96 : decode cX9_report 96 = .ok (.goto 4, 3) := by decide +kernel
theorem dX9_report_99 : decode cX9_report 99 = .ok (.iconst 0, 1) := by decide +kernel
theorem dX9_report_100 : decode cX9_report 100 = .ok (.ireturn, 1) := by decide +kernel
theorem dX9_report_101 : decode cX9_report 101 = .ok (.aload_n 3, 1) := by decide +kernel
theorem dX9_report_102 : decode cX9_report 102 = .ok (.getfield 252, 3) := by decide +kernel
theorem dX9_report_105 : decode cX9_report 105 = .ok (.iload_n 1, 1) := by decide +kernel
theorem dX9_report_106 : decode cX9_report 106 = .ok (.iaload, 1) := by decide +kernel
theorem dX9_report_107 : decode cX9_report 107 = .ok (.ireturn, 1) := by decide +kernel
theorem dX9_report_108 : decode cX9_report 108 = .ok (.aload_n 3, 1) := by decide +kernel
theorem dX9_report_109 : decode cX9_report 109 = .ok (.getfield 255, 3) := by decide +kernel
theorem dX9_report_112 : decode cX9_report 112 = .ok (.iload_n 1, 1) := by decide +kernel
theorem dX9_report_113 : decode cX9_report 113 = .ok (.iaload, 1) := by decide +kernel
theorem dX9_report_114 : decode cX9_report 114 = .ok (.ireturn, 1) := by decide +kernel
theorem dX9_report_115 : decode cX9_report 115 = .ok (.aload_n 3, 1) := by decide +kernel
theorem dX9_report_116 : decode cX9_report 116 = .ok (.getfield 258, 3) := by decide +kernel
theorem dX9_report_119 : decode cX9_report 119 = .ok (.iload_n 1, 1) := by decide +kernel
theorem dX9_report_120 : decode cX9_report 120 = .ok (.iaload, 1) := by decide +kernel
theorem dX9_report_121 : decode cX9_report 121 = .ok (.ireturn, 1) := by decide +kernel
theorem dX9_report_122 : decode cX9_report 122 = .ok (.aload_n 3, 1) := by decide +kernel
theorem dX9_report_123 : decode cX9_report 123 = .ok (.getfield 261, 3) := by decide +kernel
theorem dX9_report_126 : decode cX9_report 126 = .ok (.iload_n 1, 1) := by decide +kernel
theorem dX9_report_127 : decode cX9_report 127 = .ok (.baload, 1) := by decide +kernel
theorem dX9_report_128 : decode cX9_report 128 = .ok (.ifCond .eq 7, 3) := by decide +kernel
theorem dX9_report_131 : decode cX9_report 131 = .ok (.iconst 1, 1) := by decide +kernel
theorem dX9_report_132 : decode cX9_report 132 = .ok (.goto 4, 3) := by decide +kernel
theorem dX9_report_135 : decode cX9_report 135 = .ok (.iconst 0, 1) := by decide +kernel
theorem dX9_report_136 : decode cX9_report 136 = .ok (.ireturn, 1) := by decide +kernel
theorem dX9_report_137 : decode cX9_report 137 = .ok (.aload_n 3, 1) := by decide +kernel
theorem dX9_report_138 : decode cX9_report 138 = .ok (.iload_n 1, 1) := by decide +kernel
theorem dX9_report_139 : decode cX9_report 139 = .ok (.aload_n 0, 1) := by decide +kernel
theorem dX9_report_140 : decode cX9_report 140 = .ok (.getfield 12, 3) := by decide +kernel
theorem dX9_report_143 : decode cX9_report 143 = .ok (.getfield 130, 3) := by decide +kernel
theorem dX9_report_146 : decode cX9_report 146 = .ok (.invokevirtual 264, 3) := by decide +kernel
theorem dX9_report_149 : decode cX9_report 149 = .ok (.ireturn, 1) := by decide +kernel
theorem dX9_report_150 : decode cX9_report 150 = .ok (.aload_n 0, 1) := by decide +kernel
theorem dX9_report_151 : decode cX9_report 151 = .ok (.ldc 41, 2) := by decide +kernel
theorem dX9_report_153 : decode cX9_report 153 = .ok (.invokevirtual 42, 3) := by decide +kernel
theorem dX9_report_156 : decode cX9_report 156 = .ok (.ireturn, 1) := by decide +kernel
def F_X9_report (x1 : Int32) (x2 : Int32) (M : eMem) : Option (Int32 × eMem) :=
  (F_X9_isIn x1 (M.1 29 7)).bind fun q1 =>
  if q1 = 0 then
    (F_X9_found (-1000001) M).bind fun q12 =>
    some (q12.1, q12.2)
  else
    if x2 = 0 then
      eG (eIn x1 90) <|
      some ((M.1 30 x1.toNatClampNeg), M)
    else
    if x2 = 1 then
      eG (eIn x1 90) <|
      some ((M.1 31 x1.toNatClampNeg), M)
    else
    if x2 = 2 then
      eG (eIn x1 90) <|
      if (M.1 32 x1.toNatClampNeg) = 0 then
        some (0, M)
      else
        some (1, M)
    else
    if x2 = 3 then
      eG (eIn x1 90) <|
      some ((M.1 33 x1.toNatClampNeg), M)
    else
    if x2 = 4 then
      eG (eIn x1 90) <|
      some ((M.1 34 x1.toNatClampNeg), M)
    else
    if x2 = 5 then
      eG (eIn x1 90) <|
      some ((M.1 35 x1.toNatClampNeg), M)
    else
    if x2 = 6 then
      eG (eIn x1 90) <|
      if (M.1 36 x1.toNatClampNeg) = 0 then
        some (0, M)
      else
        some (1, M)
    else
    if x2 = 7 then
      (F_X1_credit x1 M).bind fun q9 =>
      some (q9, M)
    else
    (F_X9_found (-1000001) M).bind fun q11 =>
    some (q11.1, q11.2)
set_option maxRecDepth 100000 in
set_option maxHeartbeats 4000000 in
theorem ev_X9_report (x1 : Int32) (x2 : Int32) (M : eMem) (q : (Int32 × eMem)) (h : F_X9_report x1 x2 M = some q) : Ev layC 3 m_X9_report 0 [some (.ref 0), some (.int x1), some (.int x2), none] [] M (some (.int q.1), q.2) := by
  rw [F_X9_report] at h
  refine Ev.aload_n (pc := 0) dX9_report_0 rfl ?_
  refine Ev.getR (pc := 1) dX9_report_1 fl_RX9_12 lC_0 rfl ?_
  refine Ev.getR (pc := 4) dX9_report_4 fl_RX9_212 lC_1 rfl ?_
  refine Ev.astore_n (pc := 7) dX9_report_7 (by decide) rfl rfl ?_
  refine Ev.iload_n (pc := 8) dX9_report_8 rfl ?_
  refine Ev.aload_n (pc := 9) dX9_report_9 rfl ?_
  refine Ev.getI (pc := 10) dX9_report_10 fl_RX9_226 lC_29 rfl ?_
  refine eBk h (fun q1 hq1 h => ?_)
  refine Ev.callS (pc := 13) (as := [.int x1, .int (M.1 29 7)]) (st := []) (z := 0) dX9_report_13 wc_X9_isIn ml_RX9_37 sm_X9_isIn (ev_X9_isIn x1 (M.1 29 7) M _ hq1) rfl rfl (by decide) rfl rfl (Nat.le_of_ble_eq_true rfl) ?_
  refine Ev.if_ne (pc := 16) (tgt := 26) dX9_report_16 (by decide) (fun c9 => ?_) (fun c9 => ?_)
  · have h := eF h c9
    refine Ev.iload_n (pc := 26) dX9_report_26 rfl ?_
    by_cases cs2 : x2 = 0
    · have h := eT h cs2
      refine Ev.tsIn (pc := 27) (tgt := 72) (off := 45) dX9_report_27 (by rw [cs2]; decide) (by rw [cs2]; decide) (by rw [cs2]; rfl) (by decide) ?_
      refine Ev.aload_n (pc := 72) dX9_report_72 rfl ?_
      refine Ev.getR (pc := 73) dX9_report_73 fl_RX9_245 lC_29 rfl ?_
      refine Ev.iload_n (pc := 76) dX9_report_76 rfl ?_
      obtain ⟨g9, h⟩ := eGdB h
      refine Ev.ialdj (pc := 77) dX9_report_77 (j := x1.toNatClampNeg) lC_30 g9 rfl ?_
      obtain rfl := Option.some.inj h
      exact Ev.iret (pc := 78) dX9_report_78 rfl rfl
    have h := eF h cs2
    by_cases cs3 : x2 = 1
    · have h := eT h cs3
      refine Ev.tsIn (pc := 27) (tgt := 79) (off := 52) dX9_report_27 (by rw [cs3]; decide) (by rw [cs3]; decide) (by rw [cs3]; rfl) (by decide) ?_
      refine Ev.aload_n (pc := 79) dX9_report_79 rfl ?_
      refine Ev.getR (pc := 80) dX9_report_80 fl_RX9_248 lC_29 rfl ?_
      refine Ev.iload_n (pc := 83) dX9_report_83 rfl ?_
      obtain ⟨g9, h⟩ := eGdB h
      refine Ev.ialdj (pc := 84) dX9_report_84 (j := x1.toNatClampNeg) lC_31 g9 rfl ?_
      obtain rfl := Option.some.inj h
      exact Ev.iret (pc := 85) dX9_report_85 rfl rfl
    have h := eF h cs3
    by_cases cs4 : x2 = 2
    · have h := eT h cs4
      refine Ev.tsIn (pc := 27) (tgt := 86) (off := 59) dX9_report_27 (by rw [cs4]; decide) (by rw [cs4]; decide) (by rw [cs4]; rfl) (by decide) ?_
      refine Ev.aload_n (pc := 86) dX9_report_86 rfl ?_
      refine Ev.getR (pc := 87) dX9_report_87 fl_RX9_249 lC_29 rfl ?_
      refine Ev.iload_n (pc := 90) dX9_report_90 rfl ?_
      obtain ⟨g9, h⟩ := eGdB h
      refine Ev.zaldj (pc := 91) dX9_report_91 (j := x1.toNatClampNeg) lC_32 g9 rfl ?_
      refine Ev.if_eq (pc := 92) (tgt := 99) dX9_report_92 (by decide) (fun c9 => ?_) (fun c9 => ?_)
      · have h := eT h c9
        refine Ev.iconst (pc := 99) dX9_report_99 (v := 0) (by decide) ?_
        obtain rfl := Option.some.inj h
        exact Ev.iret (pc := 100) dX9_report_100 rfl rfl
      · have h := eF h c9
        refine Ev.iconst (pc := 95) dX9_report_95 (v := 1) (by decide) ?_
        refine Ev.goto (pc := 96) (tgt := 100) dX9_report_96 (by decide) ?_
        obtain rfl := Option.some.inj h
        exact Ev.iret (pc := 100) dX9_report_100 rfl rfl
    have h := eF h cs4
    by_cases cs5 : x2 = 3
    · have h := eT h cs5
      refine Ev.tsIn (pc := 27) (tgt := 101) (off := 74) dX9_report_27 (by rw [cs5]; decide) (by rw [cs5]; decide) (by rw [cs5]; rfl) (by decide) ?_
      refine Ev.aload_n (pc := 101) dX9_report_101 rfl ?_
      refine Ev.getR (pc := 102) dX9_report_102 fl_RX9_252 lC_29 rfl ?_
      refine Ev.iload_n (pc := 105) dX9_report_105 rfl ?_
      obtain ⟨g9, h⟩ := eGdB h
      refine Ev.ialdj (pc := 106) dX9_report_106 (j := x1.toNatClampNeg) lC_33 g9 rfl ?_
      obtain rfl := Option.some.inj h
      exact Ev.iret (pc := 107) dX9_report_107 rfl rfl
    have h := eF h cs5
    by_cases cs6 : x2 = 4
    · have h := eT h cs6
      refine Ev.tsIn (pc := 27) (tgt := 108) (off := 81) dX9_report_27 (by rw [cs6]; decide) (by rw [cs6]; decide) (by rw [cs6]; rfl) (by decide) ?_
      refine Ev.aload_n (pc := 108) dX9_report_108 rfl ?_
      refine Ev.getR (pc := 109) dX9_report_109 fl_RX9_255 lC_29 rfl ?_
      refine Ev.iload_n (pc := 112) dX9_report_112 rfl ?_
      obtain ⟨g9, h⟩ := eGdB h
      refine Ev.ialdj (pc := 113) dX9_report_113 (j := x1.toNatClampNeg) lC_34 g9 rfl ?_
      obtain rfl := Option.some.inj h
      exact Ev.iret (pc := 114) dX9_report_114 rfl rfl
    have h := eF h cs6
    by_cases cs7 : x2 = 5
    · have h := eT h cs7
      refine Ev.tsIn (pc := 27) (tgt := 115) (off := 88) dX9_report_27 (by rw [cs7]; decide) (by rw [cs7]; decide) (by rw [cs7]; rfl) (by decide) ?_
      refine Ev.aload_n (pc := 115) dX9_report_115 rfl ?_
      refine Ev.getR (pc := 116) dX9_report_116 fl_RX9_258 lC_29 rfl ?_
      refine Ev.iload_n (pc := 119) dX9_report_119 rfl ?_
      obtain ⟨g9, h⟩ := eGdB h
      refine Ev.ialdj (pc := 120) dX9_report_120 (j := x1.toNatClampNeg) lC_35 g9 rfl ?_
      obtain rfl := Option.some.inj h
      exact Ev.iret (pc := 121) dX9_report_121 rfl rfl
    have h := eF h cs7
    by_cases cs8 : x2 = 6
    · have h := eT h cs8
      refine Ev.tsIn (pc := 27) (tgt := 122) (off := 95) dX9_report_27 (by rw [cs8]; decide) (by rw [cs8]; decide) (by rw [cs8]; rfl) (by decide) ?_
      refine Ev.aload_n (pc := 122) dX9_report_122 rfl ?_
      refine Ev.getR (pc := 123) dX9_report_123 fl_RX9_261 lC_29 rfl ?_
      refine Ev.iload_n (pc := 126) dX9_report_126 rfl ?_
      obtain ⟨g9, h⟩ := eGdB h
      refine Ev.zaldj (pc := 127) dX9_report_127 (j := x1.toNatClampNeg) lC_36 g9 rfl ?_
      refine Ev.if_eq (pc := 128) (tgt := 135) dX9_report_128 (by decide) (fun c9 => ?_) (fun c9 => ?_)
      · have h := eT h c9
        refine Ev.iconst (pc := 135) dX9_report_135 (v := 0) (by decide) ?_
        obtain rfl := Option.some.inj h
        exact Ev.iret (pc := 136) dX9_report_136 rfl rfl
      · have h := eF h c9
        refine Ev.iconst (pc := 131) dX9_report_131 (v := 1) (by decide) ?_
        refine Ev.goto (pc := 132) (tgt := 136) dX9_report_132 (by decide) ?_
        obtain rfl := Option.some.inj h
        exact Ev.iret (pc := 136) dX9_report_136 rfl rfl
    have h := eF h cs8
    by_cases cs10 : x2 = 7
    · have h := eT h cs10
      refine Ev.tsIn (pc := 27) (tgt := 137) (off := 110) dX9_report_27 (by rw [cs10]; decide) (by rw [cs10]; decide) (by rw [cs10]; rfl) (by decide) ?_
      refine Ev.aload_n (pc := 137) dX9_report_137 rfl ?_
      refine Ev.iload_n (pc := 138) dX9_report_138 rfl ?_
      refine Ev.aload_n (pc := 139) dX9_report_139 rfl ?_
      refine Ev.getR (pc := 140) dX9_report_140 fl_RX9_12 lC_0 rfl ?_
      refine Ev.getR (pc := 143) dX9_report_143 fl_RX9_130 lC_1 rfl ?_
      refine eBk h (fun q9 hq9 h => ?_)
      refine Ev.callV (pc := 146) (as := [.int x1, .ref 12]) (st := []) (z := 0) dX9_report_146 wc_X1_credit ml_RX9_264 im_X1_credit se_X1_credit lC_29 rfl rfl (ev_X1_credit x1 M _ hq9) rfl rfl (by decide) rfl rfl (Nat.le_of_ble_eq_true rfl) ?_
      obtain rfl := Option.some.inj h
      exact Ev.iret (pc := 149) dX9_report_149 rfl rfl
    have h := eF h cs10
    refine Ev.tsOut (pc := 27) (tgt := 150) dX9_report_27 (eTsO 8 (by decide) (by decide) (by decide) (by
      intro k hk
      rcases (show k = 0 ∨ k = 1 ∨ k = 2 ∨ k = 3 ∨ k = 4 ∨ k = 5 ∨ k = 6 ∨ k = 7 by omega) with rfl | rfl | rfl | rfl | rfl | rfl | rfl | rfl
      · exact cs2
      · exact cs3
      · exact cs4
      · exact cs5
      · exact cs6
      · exact cs7
      · exact cs8
      · exact cs10
      )) (by decide) ?_
    refine Ev.aload_n (pc := 150) dX9_report_150 rfl ?_
    refine Ev.ldc (pc := 151) dX9_report_151 ld_RX9_41 ?_
    refine eBk h (fun q11 hq11 h => ?_)
    refine Ev.callV (pc := 153) (as := [.int (-1000001)]) (st := []) (z := 1) dX9_report_153 wc_X9_found ml_RX9_42 im_X9_found se_X9_found lC_0 rfl rfl (ev_X9_found (-1000001) M _ hq11) rfl rfl (by decide) rfl rfl (Nat.le_of_ble_eq_true rfl) ?_
    obtain rfl := Option.some.inj h
    exact Ev.iret (pc := 156) dX9_report_156 rfl rfl
  · have h := eT h c9
    refine Ev.aload_n (pc := 19) dX9_report_19 rfl ?_
    refine Ev.ldc (pc := 20) dX9_report_20 ld_RX9_41 ?_
    refine eBk h (fun q12 hq12 h => ?_)
    refine Ev.callV (pc := 22) (as := [.int (-1000001)]) (st := []) (z := 1) dX9_report_22 wc_X9_found ml_RX9_42 im_X9_found se_X9_found lC_0 rfl rfl (ev_X9_found (-1000001) M _ hq12) rfl rfl (by decide) rfl rfl (Nat.le_of_ble_eq_true rfl) ?_
    obtain rfl := Option.some.inj h
    exact Ev.iret (pc := 25) dX9_report_25 rfl rfl
theorem dX10_isReport_0 : decode cX10_isReport 0 = .ok (.iload_n 1, 1) := by decide +kernel
theorem dX10_isReport_1 : decode cX10_isReport 1 = .ok (.iconst 0, 1) := by decide +kernel
theorem dX10_isReport_2 : decode cX10_isReport 2 = .ok (.aload_n 0, 1) := by decide +kernel
theorem dX10_isReport_3 : decode cX10_isReport 3 = .ok (.getfield 7, 3) := by decide +kernel
theorem dX10_isReport_6 : decode cX10_isReport 6 = .ok (.bipush 10, 2) := by decide +kernel
theorem dX10_isReport_8 : decode cX10_isReport 8 = .ok (.iaload, 1) := by decide +kernel
theorem dX10_isReport_9 : decode cX10_isReport 9 = .ok (.iconst 1, 1) := by decide +kernel
theorem dX10_isReport_10 : decode cX10_isReport 10 = .ok (.isub, 1) := by decide +kernel
theorem dX10_isReport_11 : decode cX10_isReport 11 = .ok (.invokestatic 58, 3) := by decide +kernel
theorem dX10_isReport_14 : decode cX10_isReport 14 = .ok (.ireturn, 1) := by decide +kernel
def F_X10_isReport (x1 : Int32) (M : eMem) : Option Int32 :=
  (F_X10_in x1 0 ((M.1 1 10) - 1)).bind fun q1 =>
  eG (decide (vp_nar .boolean q1 = q1)) <|
  some q1
set_option maxRecDepth 100000 in
set_option maxHeartbeats 4000000 in
theorem ev_X10_isReport (x1 : Int32) (M : eMem) (q : Int32) (h : F_X10_isReport x1 M = some q) : Ev layR 1 m_X10_isReport 0 [some (.ref 0), some (.int x1)] [] M (some (.int q), M) := by
  rw [F_X10_isReport] at h
  refine Ev.iload_n (pc := 0) dX10_isReport_0 rfl ?_
  refine Ev.iconst (pc := 1) dX10_isReport_1 (v := 0) (by decide) ?_
  refine Ev.aload_n (pc := 2) dX10_isReport_2 rfl ?_
  refine Ev.getR (pc := 3) dX10_isReport_3 fl_RX10_7 lR_0 rfl ?_
  refine Ev.bipush (pc := 6) dX10_isReport_6 (v := 10) (by decide) ?_
  refine Ev.ialdj (pc := 8) dX10_isReport_8 (j := 10) lR_1 (by decide) (by decide) ?_
  refine Ev.iconst (pc := 9) dX10_isReport_9 (v := 1) (by decide) ?_
  refine Ev.isub (pc := 10) dX10_isReport_10 ?_
  refine eBk h (fun q1 hq1 h => ?_)
  refine Ev.callS (pc := 11) (as := [.int x1, .int 0, .int ((M.1 1 10) - 1)]) (st := []) (z := 0) dX10_isReport_11 wc_X10_in ml_RX10_58 sm_X10_in (ev_X10_in x1 0 ((M.1 1 10) - 1) M _ hq1) rfl rfl (by decide) rfl rfl (Nat.le_of_ble_eq_true rfl) ?_
  obtain ⟨g9, h⟩ := eGdB h
  have g9 := of_decide_eq_true g9
  obtain rfl := Option.some.inj h
  exact Ev.iret (pc := 14) dX10_isReport_14 rfl (eNar_boolean g9)
theorem dX10_report1_0 : decode cX10_report1 0 = .ok (.aload_n 0, 1) := by decide +kernel
theorem dX10_report1_1 : decode cX10_report1 1 = .ok (.getfield 7, 3) := by decide +kernel
theorem dX10_report1_4 : decode cX10_report1 4 = .ok (.sipush 498, 3) := by decide +kernel
theorem dX10_report1_7 : decode cX10_report1 7 = .ok (.bipush 7, 2) := by decide +kernel
theorem dX10_report1_9 : decode cX10_report1 9 = .ok (.iload_n 1, 1) := by decide +kernel
theorem dX10_report1_10 : decode cX10_report1 10 = .ok (.imul, 1) := by decide +kernel
theorem dX10_report1_11 : decode cX10_report1 11 = .ok (.iadd, 1) := by decide +kernel
theorem dX10_report1_12 : decode cX10_report1 12 = .ok (.iload_n 2, 1) := by decide +kernel
theorem dX10_report1_13 : decode cX10_report1 13 = .ok (.iadd, 1) := by decide +kernel
theorem dX10_report1_14 : decode cX10_report1 14 = .ok (.iaload, 1) := by decide +kernel
theorem dX10_report1_15 : decode cX10_report1 15 = .ok (.ireturn, 1) := by decide +kernel
def F_X10_report1 (x1 : Int32) (x2 : Int32) (M : eMem) : Option Int32 :=
  eG (eIn ((498 + (7 * x1)) + x2) 2900) <|
  some (M.1 1 ((498 + (7 * x1)) + x2).toNatClampNeg)
set_option maxRecDepth 100000 in
set_option maxHeartbeats 4000000 in
theorem ev_X10_report1 (x1 : Int32) (x2 : Int32) (M : eMem) (q : Int32) (h : F_X10_report1 x1 x2 M = some q) : Ev layR 0 m_X10_report1 0 [some (.ref 0), some (.int x1), some (.int x2)] [] M (some (.int q), M) := by
  rw [F_X10_report1] at h
  refine Ev.aload_n (pc := 0) dX10_report1_0 rfl ?_
  refine Ev.getR (pc := 1) dX10_report1_1 fl_RX10_7 lR_0 rfl ?_
  refine Ev.sipush (pc := 4) dX10_report1_4 (v := 498) (by decide) ?_
  refine Ev.bipush (pc := 7) dX10_report1_7 (v := 7) (by decide) ?_
  refine Ev.iload_n (pc := 9) dX10_report1_9 rfl ?_
  refine Ev.imul (pc := 10) dX10_report1_10 ?_
  refine Ev.iadd (pc := 11) dX10_report1_11 ?_
  refine Ev.iload_n (pc := 12) dX10_report1_12 rfl ?_
  refine Ev.iadd (pc := 13) dX10_report1_13 ?_
  obtain ⟨g9, h⟩ := eGdB h
  refine Ev.ialdj (pc := 14) dX10_report1_14 (j := ((498 + (7 * x1)) + x2).toNatClampNeg) lR_1 g9 rfl ?_
  obtain rfl := Option.some.inj h
  exact Ev.iret (pc := 15) dX10_report1_15 rfl rfl
theorem dX10_creditOf_0 : decode cX10_creditOf 0 = .ok (.aload_n 0, 1) := by decide +kernel
theorem dX10_creditOf_1 : decode cX10_creditOf 1 = .ok (.iload_n 1, 1) := by decide +kernel
theorem dX10_creditOf_2 : decode cX10_creditOf 2 = .ok (.iconst 0, 1) := by decide +kernel
theorem dX10_creditOf_3 : decode cX10_creditOf 3 = .ok (.invokevirtual 137, 3) := by decide +kernel
theorem dX10_creditOf_6 : decode cX10_creditOf 6 = .ok (.tableswitch 46 1 4 #[30, 32, 32, 44], 30) := by decide +kernel
theorem dX10_creditOf_36 : decode cX10_creditOf 36 = .ok (.iconst 1, 1) := by decide +kernel
theorem dX10_creditOf_37 : decode cX10_creditOf 37 = .ok (.ireturn, 1) := by decide +kernel
theorem dX10_creditOf_38 : decode cX10_creditOf 38 = .ok (.aload_n 0, 1) := by decide +kernel
theorem dX10_creditOf_39 : decode cX10_creditOf 39 = .ok (.aload_n 0, 1) := by decide +kernel
theorem dX10_creditOf_40 : decode cX10_creditOf 40 = .ok (.iload_n 1, 1) := by decide +kernel
theorem dX10_creditOf_41 : decode cX10_creditOf 41 = .ok (.iconst 5, 1) := by decide +kernel
theorem dX10_creditOf_42 : decode cX10_creditOf 42 = .ok (.invokevirtual 137, 3) := by decide +kernel
theorem dX10_creditOf_45 : decode cX10_creditOf 45 = .ok (.iconst 3, 1) := by decide +kernel
theorem dX10_creditOf_46 : decode cX10_creditOf 46 = .ok (.invokevirtual 77, 3) := by decide +kernel
theorem dX10_creditOf_49 : decode cX10_creditOf 49 = .ok (.ireturn, 1) := by decide +kernel
theorem dX10_creditOf_50 : decode cX10_creditOf 50 = .ok (.iconst 3, 1) := by decide +kernel
theorem dX10_creditOf_51 : decode cX10_creditOf 51 = .ok (.ireturn, 1) := by decide +kernel
theorem dX10_creditOf_52 : decode cX10_creditOf 52 = .ok (.iconst 2, 1) := by decide +kernel
theorem dX10_creditOf_53 : decode cX10_creditOf 53 = .ok (.ireturn, 1) := by decide +kernel
def F_X10_creditOf (x1 : Int32) (M : eMem) : Option Int32 :=
  (F_X10_report1 x1 0 M).bind fun q1 =>
  if q1 = 1 then
    some 1
  else
  if q1 = 2 then
    (F_X10_report1 x1 5 M).bind fun q3 =>
    (F_X10_show q3 3 M).bind fun q4 =>
    some q4
  else
  if q1 = 3 then
    (F_X10_report1 x1 5 M).bind fun q6 =>
    (F_X10_show q6 3 M).bind fun q7 =>
    some q7
  else
  if q1 = 4 then
    some 3
  else
  some 2
set_option maxRecDepth 100000 in
set_option maxHeartbeats 4000000 in
theorem ev_X10_creditOf (x1 : Int32) (M : eMem) (q : Int32) (h : F_X10_creditOf x1 M = some q) : Ev layR 1 m_X10_creditOf 0 [some (.ref 0), some (.int x1)] [] M (some (.int q), M) := by
  rw [F_X10_creditOf] at h
  refine Ev.aload_n (pc := 0) dX10_creditOf_0 rfl ?_
  refine Ev.iload_n (pc := 1) dX10_creditOf_1 rfl ?_
  refine Ev.iconst (pc := 2) dX10_creditOf_2 (v := 0) (by decide) ?_
  refine eBk h (fun q1 hq1 h => ?_)
  refine Ev.callV (pc := 3) (as := [.int x1, .int 0]) (st := []) (z := 0) dX10_creditOf_3 wc_X10_report1 ml_RX10_137 im_X10_report1 se_X10_report1 lR_0 rfl rfl (ev_X10_report1 x1 0 M _ hq1) rfl rfl (by decide) rfl rfl (Nat.le_of_ble_eq_true rfl) ?_
  by_cases cs2 : q1 = 1
  · have h := eT h cs2
    refine Ev.tsIn (pc := 6) (tgt := 36) (off := 30) dX10_creditOf_6 (by rw [cs2]; decide) (by rw [cs2]; decide) (by rw [cs2]; rfl) (by decide) ?_
    refine Ev.iconst (pc := 36) dX10_creditOf_36 (v := 1) (by decide) ?_
    obtain rfl := Option.some.inj h
    exact Ev.iret (pc := 37) dX10_creditOf_37 rfl rfl
  have h := eF h cs2
  by_cases cs5 : q1 = 2
  · have h := eT h cs5
    refine Ev.tsIn (pc := 6) (tgt := 38) (off := 32) dX10_creditOf_6 (by rw [cs5]; decide) (by rw [cs5]; decide) (by rw [cs5]; rfl) (by decide) ?_
    refine Ev.aload_n (pc := 38) dX10_creditOf_38 rfl ?_
    refine Ev.aload_n (pc := 39) dX10_creditOf_39 rfl ?_
    refine Ev.iload_n (pc := 40) dX10_creditOf_40 rfl ?_
    refine Ev.iconst (pc := 41) dX10_creditOf_41 (v := 5) (by decide) ?_
    refine eBk h (fun q3 hq3 h => ?_)
    refine Ev.callV (pc := 42) (as := [.int x1, .int 5]) (st := [.ref 0]) (z := 0) dX10_creditOf_42 wc_X10_report1 ml_RX10_137 im_X10_report1 se_X10_report1 lR_0 rfl rfl (ev_X10_report1 x1 5 M _ hq3) rfl rfl (by decide) rfl rfl (Nat.le_of_ble_eq_true rfl) ?_
    refine Ev.iconst (pc := 45) dX10_creditOf_45 (v := 3) (by decide) ?_
    refine eBk h (fun q4 hq4 h => ?_)
    refine Ev.callV (pc := 46) (as := [.int q3, .int 3]) (st := []) (z := 0) dX10_creditOf_46 wc_X10_show ml_RX10_77 im_X10_show se_X10_show lR_0 rfl rfl (ev_X10_show q3 3 M _ hq4) rfl rfl (by decide) rfl rfl (Nat.le_of_ble_eq_true rfl) ?_
    obtain rfl := Option.some.inj h
    exact Ev.iret (pc := 49) dX10_creditOf_49 rfl rfl
  have h := eF h cs5
  by_cases cs8 : q1 = 3
  · have h := eT h cs8
    refine Ev.tsIn (pc := 6) (tgt := 38) (off := 32) dX10_creditOf_6 (by rw [cs8]; decide) (by rw [cs8]; decide) (by rw [cs8]; rfl) (by decide) ?_
    refine Ev.aload_n (pc := 38) dX10_creditOf_38 rfl ?_
    refine Ev.aload_n (pc := 39) dX10_creditOf_39 rfl ?_
    refine Ev.iload_n (pc := 40) dX10_creditOf_40 rfl ?_
    refine Ev.iconst (pc := 41) dX10_creditOf_41 (v := 5) (by decide) ?_
    refine eBk h (fun q6 hq6 h => ?_)
    refine Ev.callV (pc := 42) (as := [.int x1, .int 5]) (st := [.ref 0]) (z := 0) dX10_creditOf_42 wc_X10_report1 ml_RX10_137 im_X10_report1 se_X10_report1 lR_0 rfl rfl (ev_X10_report1 x1 5 M _ hq6) rfl rfl (by decide) rfl rfl (Nat.le_of_ble_eq_true rfl) ?_
    refine Ev.iconst (pc := 45) dX10_creditOf_45 (v := 3) (by decide) ?_
    refine eBk h (fun q7 hq7 h => ?_)
    refine Ev.callV (pc := 46) (as := [.int q6, .int 3]) (st := []) (z := 0) dX10_creditOf_46 wc_X10_show ml_RX10_77 im_X10_show se_X10_show lR_0 rfl rfl (ev_X10_show q6 3 M _ hq7) rfl rfl (by decide) rfl rfl (Nat.le_of_ble_eq_true rfl) ?_
    obtain rfl := Option.some.inj h
    exact Ev.iret (pc := 49) dX10_creditOf_49 rfl rfl
  have h := eF h cs8
  by_cases cs9 : q1 = 4
  · have h := eT h cs9
    refine Ev.tsIn (pc := 6) (tgt := 50) (off := 44) dX10_creditOf_6 (by rw [cs9]; decide) (by rw [cs9]; decide) (by rw [cs9]; rfl) (by decide) ?_
    refine Ev.iconst (pc := 50) dX10_creditOf_50 (v := 3) (by decide) ?_
    obtain rfl := Option.some.inj h
    exact Ev.iret (pc := 51) dX10_creditOf_51 rfl rfl
  have h := eF h cs9
  refine Ev.tsOut (pc := 6) (tgt := 52) dX10_creditOf_6 (eTsO 4 (by decide) (by decide) (by decide) (by
    intro k hk
    rcases (show k = 0 ∨ k = 1 ∨ k = 2 ∨ k = 3 by omega) with rfl | rfl | rfl | rfl
    · exact cs2
    · exact cs5
    · exact cs8
    · exact cs9
    )) (by decide) ?_
  refine Ev.iconst (pc := 52) dX10_creditOf_52 (v := 2) (by decide) ?_
  obtain rfl := Option.some.inj h
  exact Ev.iret (pc := 53) dX10_creditOf_53 rfl rfl
theorem dX10_report_0 : decode cX10_report 0 = .ok (.aload_n 0, 1) := by decide +kernel
theorem dX10_report_1 : decode cX10_report 1 = .ok (.iload_n 1, 1) := by decide +kernel
theorem dX10_report_2 : decode cX10_report 2 = .ok (.invokevirtual 140, 3) := by decide +kernel
theorem dX10_report_5 : decode cX10_report 5 = .ok (.ifCond .eq 13, 3) := by decide +kernel
theorem dX10_report_8 : decode cX10_report 8 = .ok (.iload_n 2, 1) := by decide +kernel
theorem dX10_report_9 : decode cX10_report 9 = .ok (.iconst 0, 1) := by decide +kernel
theorem dX10_report_10 : decode cX10_report 10 = .ok (.bipush 7, 2) := by decide +kernel
theorem dX10_report_12 : decode cX10_report 12 = .ok (.invokestatic 58, 3) := by decide +kernel
theorem dX10_report_15 : decode cX10_report 15 = .ok (.ifCond .ne 9, 3) := by decide +kernel
theorem dX10_report_18 : decode cX10_report 18 = .ok (.aload_n 0, 1) := by decide +kernel
theorem dX10_report_19 : decode cX10_report 19 = .ok (.iconst 1, 1) := by decide +kernel
theorem dX10_report_20 : decode cX10_report 20 = .ok (.invokevirtual 66, 3) := by decide +kernel
theorem dX10_report_23 : decode cX10_report 23 = .ok (.ireturn, 1) := by decide +kernel
theorem dX10_report_24 : decode cX10_report 24 = .ok (.iload_n 2, 1) := by decide +kernel
theorem dX10_report_25 : decode cX10_report 25 = .ok (.bipush 7, 2) := by decide +kernel
theorem dX10_report_27 : decode cX10_report 27 = .ok (.if_icmp .ne 11, 3) := by decide +kernel
theorem dX10_report_30 : decode cX10_report 30 = .ok (.aload_n 0, 1) := by decide +kernel
theorem dX10_report_31 : decode cX10_report 31 = .ok (.iload_n 1, 1) := by decide +kernel
theorem dX10_report_32 : decode cX10_report 32 = .ok (.invokevirtual 143, 3) := by decide +kernel
theorem dX10_report_35 : decode cX10_report 35 = .ok (.goto 9, 3) := by decide +kernel
theorem dX10_report_38 : decode cX10_report 38 = .ok (.aload_n 0, 1) := by decide +kernel
theorem dX10_report_39 : decode cX10_report 39 = .ok (.iload_n 1, 1) := by decide +kernel
theorem dX10_report_40 : decode cX10_report 40 = .ok (.iload_n 2, 1) := by decide +kernel
theorem dX10_report_41 : decode cX10_report 41 = .ok (.invokevirtual 137, 3) := by decide +kernel
theorem dX10_report_44 : decode cX10_report 44 = .ok (.ireturn, 1) := by decide +kernel
def F_X10_report (x1 : Int32) (x2 : Int32) (M : eMem) : Option (Int32 × eMem) :=
  (F_X10_isReport x1 M).bind fun q1 =>
  if q1 = 0 then
    (F_X10_finding 1 M).bind fun q2 =>
    some (q2.1, q2.2)
  else
    (F_X10_in x2 0 7).bind fun q3 =>
    if q3 = 0 then
      (F_X10_finding 1 M).bind fun q6 =>
      some (q6.1, q6.2)
    else
      if x2 = 7 then
        (F_X10_creditOf x1 M).bind fun q5 =>
        some (q5, M)
      else
        (F_X10_report1 x1 x2 M).bind fun q4 =>
        some (q4, M)
set_option maxRecDepth 100000 in
set_option maxHeartbeats 4000000 in
theorem ev_X10_report (x1 : Int32) (x2 : Int32) (M : eMem) (q : (Int32 × eMem)) (h : F_X10_report x1 x2 M = some q) : Ev layR 2 m_X10_report 0 [some (.ref 0), some (.int x1), some (.int x2)] [] M (some (.int q.1), q.2) := by
  rw [F_X10_report] at h
  refine Ev.aload_n (pc := 0) dX10_report_0 rfl ?_
  refine Ev.iload_n (pc := 1) dX10_report_1 rfl ?_
  refine eBk h (fun q1 hq1 h => ?_)
  refine Ev.callV (pc := 2) (as := [.int x1]) (st := []) (z := 0) dX10_report_2 wc_X10_isReport ml_RX10_140 im_X10_isReport se_X10_isReport lR_0 rfl rfl (ev_X10_isReport x1 M _ hq1) rfl rfl (by decide) rfl rfl (Nat.le_of_ble_eq_true rfl) ?_
  refine Ev.if_eq (pc := 5) (tgt := 18) dX10_report_5 (by decide) (fun c9 => ?_) (fun c9 => ?_)
  · have h := eT h c9
    refine Ev.aload_n (pc := 18) dX10_report_18 rfl ?_
    refine Ev.iconst (pc := 19) dX10_report_19 (v := 1) (by decide) ?_
    refine eBk h (fun q2 hq2 h => ?_)
    refine Ev.callV (pc := 20) (as := [.int 1]) (st := []) (z := 0) dX10_report_20 wc_X10_finding ml_RX10_66 im_X10_finding se_X10_finding lR_0 rfl rfl (ev_X10_finding 1 M _ hq2) rfl rfl (by decide) rfl rfl (Nat.le_of_ble_eq_true rfl) ?_
    obtain rfl := Option.some.inj h
    exact Ev.iret (pc := 23) dX10_report_23 rfl rfl
  · have h := eF h c9
    refine Ev.iload_n (pc := 8) dX10_report_8 rfl ?_
    refine Ev.iconst (pc := 9) dX10_report_9 (v := 0) (by decide) ?_
    refine Ev.bipush (pc := 10) dX10_report_10 (v := 7) (by decide) ?_
    refine eBk h (fun q3 hq3 h => ?_)
    refine Ev.callS (pc := 12) (as := [.int x2, .int 0, .int 7]) (st := []) (z := 0) dX10_report_12 wc_X10_in ml_RX10_58 sm_X10_in (ev_X10_in x2 0 7 M _ hq3) rfl rfl (by decide) rfl rfl (Nat.le_of_ble_eq_true rfl) ?_
    refine Ev.if_ne (pc := 15) (tgt := 24) dX10_report_15 (by decide) (fun c9 => ?_) (fun c9 => ?_)
    · have h := eF h c9
      refine Ev.iload_n (pc := 24) dX10_report_24 rfl ?_
      refine Ev.bipush (pc := 25) dX10_report_25 (v := 7) (by decide) ?_
      refine Ev.icmp_ne (pc := 27) (tgt := 38) dX10_report_27 (by decide) (fun c9 => ?_) (fun c9 => ?_)
      · have h := eF h c9
        refine Ev.aload_n (pc := 38) dX10_report_38 rfl ?_
        refine Ev.iload_n (pc := 39) dX10_report_39 rfl ?_
        refine Ev.iload_n (pc := 40) dX10_report_40 rfl ?_
        refine eBk h (fun q4 hq4 h => ?_)
        refine Ev.callV (pc := 41) (as := [.int x1, .int x2]) (st := []) (z := 0) dX10_report_41 wc_X10_report1 ml_RX10_137 im_X10_report1 se_X10_report1 lR_0 rfl rfl (ev_X10_report1 x1 x2 M _ hq4) rfl rfl (by decide) rfl rfl (Nat.le_of_ble_eq_true rfl) ?_
        obtain rfl := Option.some.inj h
        exact Ev.iret (pc := 44) dX10_report_44 rfl rfl
      · have h := eT h c9
        refine Ev.aload_n (pc := 30) dX10_report_30 rfl ?_
        refine Ev.iload_n (pc := 31) dX10_report_31 rfl ?_
        refine eBk h (fun q5 hq5 h => ?_)
        refine Ev.callV (pc := 32) (as := [.int x1]) (st := []) (z := 0) dX10_report_32 wc_X10_creditOf ml_RX10_143 im_X10_creditOf se_X10_creditOf lR_0 rfl rfl (ev_X10_creditOf x1 M _ hq5) rfl rfl (by decide) rfl rfl (Nat.le_of_ble_eq_true rfl) ?_
        refine Ev.goto (pc := 35) (tgt := 44) dX10_report_35 (by decide) ?_
        obtain rfl := Option.some.inj h
        exact Ev.iret (pc := 44) dX10_report_44 rfl rfl
    · have h := eT h c9
      refine Ev.aload_n (pc := 18) dX10_report_18 rfl ?_
      refine Ev.iconst (pc := 19) dX10_report_19 (v := 1) (by decide) ?_
      refine eBk h (fun q6 hq6 h => ?_)
      refine Ev.callV (pc := 20) (as := [.int 1]) (st := []) (z := 0) dX10_report_20 wc_X10_finding ml_RX10_66 im_X10_finding se_X10_finding lR_0 rfl rfl (ev_X10_finding 1 M _ hq6) rfl rfl (by decide) rfl rfl (Nat.le_of_ble_eq_true rfl) ?_
      obtain rfl := Option.some.inj h
      exact Ev.iret (pc := 23) dX10_report_23 rfl rfl
theorem dX9_strike_0 : decode cX9_strike 0 = .ok (.aload_n 0, 1) := by decide +kernel
theorem dX9_strike_1 : decode cX9_strike 1 = .ok (.getfield 12, 3) := by decide +kernel
theorem dX9_strike_4 : decode cX9_strike 4 = .ok (.getfield 212, 3) := by decide +kernel
theorem dX9_strike_7 : decode cX9_strike 7 = .ok (.astore_n 2, 1) := by decide +kernel
theorem dX9_strike_8 : decode cX9_strike 8 = .ok (.iload_n 1, 1) := by decide +kernel
theorem dX9_strike_9 : decode cX9_strike 9 = .ok (.aload_n 2, 1) := by decide +kernel
theorem dX9_strike_10 : decode cX9_strike 10 = .ok (.getfield 226, 3) := by decide +kernel
theorem dX9_strike_13 : decode cX9_strike 13 = .ok (.invokestatic 37, 3) := by decide +kernel
theorem dX9_strike_16 : decode cX9_strike 16 = .ok (.ifCond .ne 10, 3) := by decide +kernel
theorem dX9_strike_19 : decode cX9_strike 19 = .ok (.aload_n 0, 1) := by decide +kernel
theorem dX9_strike_20 : decode cX9_strike 20 = .ok (.ldc 41, 2) := by decide +kernel
theorem dX9_strike_22 : decode cX9_strike 22 = .ok (.invokevirtual 42, 3) := by decide +kernel
theorem dX9_strike_25 : decode cX9_strike 25 = .ok (.ireturn, 1) := by decide +kernel
theorem dX9_strike_26 : decode cX9_strike 26 = .ok (.aload_n 2, 1) := by decide +kernel
theorem dX9_strike_27 : decode cX9_strike 27 = .ok (.getfield 261, 3) := by decide +kernel
theorem dX9_strike_30 : decode cX9_strike 30 = .ok (.iload_n 1, 1) := by decide +kernel
theorem dX9_strike_31 : decode cX9_strike 31 = .ok (.baload, 1) := by decide +kernel
theorem dX9_strike_32 : decode cX9_strike 32 = .ok (.ifCond .eq 10, 3) := by decide +kernel
theorem dX9_strike_35 : decode cX9_strike 35 = .ok (.aload_n 0, 1) := by decide +kernel
theorem dX9_strike_36 : decode cX9_strike 36 = .ok (.ldc 82, 2) := by decide +kernel
theorem dX9_strike_38 : decode cX9_strike 38 = .ok (.invokevirtual 42, 3) := by decide +kernel
theorem dX9_strike_41 : decode cX9_strike 41 = .ok (.ireturn, 1) := by decide +kernel
theorem dX9_strike_42 : decode cX9_strike 42 = .ok (.aload_n 2, 1) := by decide +kernel
theorem dX9_strike_43 : decode cX9_strike 43 = .ok (.getfield 255, 3) := by decide +kernel
theorem dX9_strike_46 : decode cX9_strike 46 = .ok (.iload_n 1, 1) := by decide +kernel
theorem dX9_strike_47 : decode cX9_strike 47 = .ok (.iaload, 1) := by decide +kernel
theorem dX9_strike_48 : decode cX9_strike 48 = .ok (.aload_n 0, 1) := by decide +kernel
theorem dX9_strike_49 : decode cX9_strike 49 = .ok (.getfield 12, 3) := by decide +kernel
theorem dX9_strike_52 : decode cX9_strike 52 = .ok (.getfield 46, 3) := by decide +kernel
theorem dX9_strike_55 : decode cX9_strike 55 = .ok (.getfield 99, 3) := by decide +kernel
theorem dX9_strike_58 : decode cX9_strike 58 = .ok (.if_icmp .le 10, 3) := by decide +kernel
theorem dX9_strike_61 : decode cX9_strike 61 = .ok (.aload_n 0, 1) := by decide +kernel
theorem dX9_strike_62 : decode cX9_strike 62 = .ok (.ldc 108, 2) := by decide +kernel
theorem dX9_strike_64 : decode cX9_strike 64 = .ok (.invokevirtual 42, 3) := by decide +kernel
theorem dX9_strike_67 : decode cX9_strike 67 = .ok (.ireturn, 1) := by decide +kernel
theorem dX9_strike_68 : decode cX9_strike 68 = .ok (.aload_n 2, 1) := by decide +kernel
theorem dX9_strike_69 : decode cX9_strike 69 = .ok (.iload_n 1, 1) := by decide +kernel
theorem dX9_strike_70 : decode cX9_strike 70 = .ok (.aload_n 0, 1) := by decide +kernel
theorem dX9_strike_71 : decode cX9_strike 71 = .ok (.getfield 12, 3) := by decide +kernel
theorem dX9_strike_74 : decode cX9_strike 74 = .ok (.getfield 130, 3) := by decide +kernel
theorem dX9_strike_77 : decode cX9_strike 77 = .ok (.invokevirtual 264, 3) := by decide +kernel
theorem dX9_strike_80 : decode cX9_strike 80 = .ok (.istore_n 3, 1) := by decide +kernel
theorem dX9_strike_81 : decode cX9_strike 81 = .ok (.aload_n 2, 1) := by decide +kernel
theorem dX9_strike_82 : decode cX9_strike 82 = .ok (.getfield 261, 3) := by decide +kernel
theorem dX9_strike_85 : decode cX9_strike 85 = .ok (.iload_n 1, 1) := by decide +kernel
theorem dX9_strike_86 : decode cX9_strike 86 = .ok (.iconst 1, 1) := by decide +kernel
theorem dX9_strike_87 : decode cX9_strike 87 = .ok (.bastore, 1) := by decide +kernel
theorem dX9_strike_88 : decode cX9_strike 88 = .ok (.aload_n 2, 1) := by decide +kernel
theorem dX9_strike_89 : decode cX9_strike 89 = .ok (.getfield 258, 3) := by decide +kernel
theorem dX9_strike_92 : decode cX9_strike 92 = .ok (.iload_n 1, 1) := by decide +kernel
theorem dX9_strike_93 : decode cX9_strike 93 = .ok (.iaload, 1) := by decide +kernel
theorem dX9_strike_94 : decode cX9_strike 94 = .ok (.istore 4, 2) := by decide +kernel
theorem dX9_strike_96 : decode cX9_strike 96 = .ok (.aload_n 2, 1) := by decide +kernel
theorem dX9_strike_97 : decode cX9_strike 97 = .ok (.getfield 245, 3) := by decide +kernel
theorem dX9_strike_100 : decode cX9_strike 100 = .ok (.iload_n 1, 1) := by decide +kernel
theorem dX9_strike_101 : decode cX9_strike 101 = .ok (.iaload, 1) := by decide +kernel
theorem dX9_strike_102 : decode cX9_strike 102 = .ok (.iconst 2, 1) := by decide +kernel
theorem dX9_strike_103 : decode cX9_strike 103 = .ok (.if_icmp .ne 35, 3) := by decide +kernel
theorem dX9_strike_106 : decode cX9_strike 106 = .ok (.aload_n 0, 1) := by decide +kernel
theorem dX9_strike_107 : decode cX9_strike 107 = .ok (.getfield 12, 3) := by decide +kernel
theorem dX9_strike_110 : decode cX9_strike 110 = .ok (.getfield 130, 3) := by decide +kernel
theorem dX9_strike_113 : decode cX9_strike 113 = .ok (.iload 4, 2) := by decide +kernel
theorem dX9_strike_115 : decode cX9_strike 115 = .ok (.invokevirtual 143, 3) := by decide +kernel
theorem dX9_strike_118 : decode cX9_strike 118 = .ok (.ifCond .eq 20, 3) := by decide +kernel
theorem dX9_strike_121 : decode cX9_strike 121 = .ok (.aload_n 0, 1) := by decide +kernel
theorem dX9_strike_122 : decode cX9_strike 122 = .ok (.getfield 12, 3) := by decide +kernel
theorem dX9_strike_125 : decode cX9_strike 125 = .ok (.getfield 130, 3) := by decide +kernel
theorem dX9_strike_128 : decode cX9_strike 128 = .ok (.getfield 186, 3) := by decide +kernel
theorem dX9_strike_131 : decode cX9_strike 131 = .ok (.iload 4, 2) := by decide +kernel
theorem dX9_strike_133 : decode cX9_strike 133 = .ok (.dup2, 1) := by decide +kernel
theorem dX9_strike_134 : decode cX9_strike 134 = .ok (.iaload, 1) := by decide +kernel
theorem dX9_strike_135 : decode cX9_strike 135 = .ok (.iconst 2, 1) := by decide +kernel
theorem dX9_strike_136 : decode cX9_strike 136 = .ok (.idiv, 1) := by decide +kernel
theorem dX9_strike_137 : decode cX9_strike 137 = .ok (.iastore, 1) := by decide +kernel
theorem dX9_strike_138 : decode cX9_strike 138 = .ok (.iload_n 3, 1) := by decide +kernel
theorem dX9_strike_139 : decode cX9_strike 139 = .ok (.ireturn, 1) := by decide +kernel
def F_X9_strike (x1 : Int32) (M : eMem) : Option (Int32 × eMem) :=
  (F_X9_isIn x1 (M.1 29 7)).bind fun q1 =>
  if q1 = 0 then
    (F_X9_found (-1000001) M).bind fun q6 =>
    some (q6.1, q6.2)
  else
    eG (eIn x1 90) <|
    if (M.1 36 x1.toNatClampNeg) = 0 then
      eG (eIn x1 90) <|
      if (M.1 2 11) < (M.1 34 x1.toNatClampNeg) then
        (F_X9_found (-1000004) M).bind fun q4 =>
        some (q4.1, q4.2)
      else
        (F_X1_credit x1 M).bind fun q2 =>
        eG (eIn x1 90) <|
        eG (eIn x1 90) <|
        eG (eIn x1 90) <|
        if (M.1 30 x1.toNatClampNeg) = 2 then
          (F_X5_has (M.1 35 x1.toNatClampNeg) (eI M 36 x1.toNatClampNeg (vp_nar .boolean 1))).bind fun q3 =>
          if q3 = 0 then
            some (q2, (eI M 36 x1.toNatClampNeg (vp_nar .boolean 1)))
          else
            eG (eIn (M.1 35 x1.toNatClampNeg) 20) <|
            eG (eIn (M.1 35 x1.toNatClampNeg) 20) <|
            some (q2, (eI (eI M 36 x1.toNatClampNeg (vp_nar .boolean 1)) 16 (M.1 35 x1.toNatClampNeg).toNatClampNeg ((M.1 16 (M.1 35 x1.toNatClampNeg).toNatClampNeg) / 2)))
        else
          some (q2, (eI M 36 x1.toNatClampNeg (vp_nar .boolean 1)))
    else
      (F_X9_found (-1000005) M).bind fun q5 =>
      some (q5.1, q5.2)
set_option maxRecDepth 100000 in
set_option maxHeartbeats 4000000 in
theorem ev_X9_strike (x1 : Int32) (M : eMem) (q : (Int32 × eMem)) (h : F_X9_strike x1 M = some q) : Ev layC 3 m_X9_strike 0 [some (.ref 0), some (.int x1), none, none, none] [] M (some (.int q.1), q.2) := by
  rw [F_X9_strike] at h
  refine Ev.aload_n (pc := 0) dX9_strike_0 rfl ?_
  refine Ev.getR (pc := 1) dX9_strike_1 fl_RX9_12 lC_0 rfl ?_
  refine Ev.getR (pc := 4) dX9_strike_4 fl_RX9_212 lC_1 rfl ?_
  refine Ev.astore_n (pc := 7) dX9_strike_7 (by decide) rfl rfl ?_
  refine Ev.iload_n (pc := 8) dX9_strike_8 rfl ?_
  refine Ev.aload_n (pc := 9) dX9_strike_9 rfl ?_
  refine Ev.getI (pc := 10) dX9_strike_10 fl_RX9_226 lC_29 rfl ?_
  refine eBk h (fun q1 hq1 h => ?_)
  refine Ev.callS (pc := 13) (as := [.int x1, .int (M.1 29 7)]) (st := []) (z := 0) dX9_strike_13 wc_X9_isIn ml_RX9_37 sm_X9_isIn (ev_X9_isIn x1 (M.1 29 7) M _ hq1) rfl rfl (by decide) rfl rfl (Nat.le_of_ble_eq_true rfl) ?_
  refine Ev.if_ne (pc := 16) (tgt := 26) dX9_strike_16 (by decide) (fun c9 => ?_) (fun c9 => ?_)
  · have h := eF h c9
    refine Ev.aload_n (pc := 26) dX9_strike_26 rfl ?_
    refine Ev.getR (pc := 27) dX9_strike_27 fl_RX9_261 lC_29 rfl ?_
    refine Ev.iload_n (pc := 30) dX9_strike_30 rfl ?_
    obtain ⟨g9, h⟩ := eGdB h
    refine Ev.zaldj (pc := 31) dX9_strike_31 (j := x1.toNatClampNeg) lC_36 g9 rfl ?_
    refine Ev.if_eq (pc := 32) (tgt := 42) dX9_strike_32 (by decide) (fun c9 => ?_) (fun c9 => ?_)
    · have h := eT h c9
      refine Ev.aload_n (pc := 42) dX9_strike_42 rfl ?_
      refine Ev.getR (pc := 43) dX9_strike_43 fl_RX9_255 lC_29 rfl ?_
      refine Ev.iload_n (pc := 46) dX9_strike_46 rfl ?_
      obtain ⟨g9, h⟩ := eGdB h
      refine Ev.ialdj (pc := 47) dX9_strike_47 (j := x1.toNatClampNeg) lC_34 g9 rfl ?_
      refine Ev.aload_n (pc := 48) dX9_strike_48 rfl ?_
      refine Ev.getR (pc := 49) dX9_strike_49 fl_RX9_12 lC_0 rfl ?_
      refine Ev.getR (pc := 52) dX9_strike_52 fl_RX9_46 lC_1 rfl ?_
      refine Ev.getI (pc := 55) dX9_strike_55 fl_RX9_99 lC_2 rfl ?_
      refine Ev.icmp_le (pc := 58) (tgt := 68) dX9_strike_58 (by decide) (fun c9 => ?_) (fun c9 => ?_)
      · have h := eF h c9
        refine Ev.aload_n (pc := 68) dX9_strike_68 rfl ?_
        refine Ev.iload_n (pc := 69) dX9_strike_69 rfl ?_
        refine Ev.aload_n (pc := 70) dX9_strike_70 rfl ?_
        refine Ev.getR (pc := 71) dX9_strike_71 fl_RX9_12 lC_0 rfl ?_
        refine Ev.getR (pc := 74) dX9_strike_74 fl_RX9_130 lC_1 rfl ?_
        refine eBk h (fun q2 hq2 h => ?_)
        refine Ev.callV (pc := 77) (as := [.int x1, .ref 12]) (st := []) (z := 0) dX9_strike_77 wc_X1_credit ml_RX9_264 im_X1_credit se_X1_credit lC_29 rfl rfl (ev_X1_credit x1 M _ hq2) rfl rfl (by decide) rfl rfl (Nat.le_of_ble_eq_true rfl) ?_
        refine Ev.istore_n (pc := 80) dX9_strike_80 (by decide) rfl rfl ?_
        refine Ev.aload_n (pc := 81) dX9_strike_81 rfl ?_
        refine Ev.getR (pc := 82) dX9_strike_82 fl_RX9_261 lC_29 rfl ?_
        refine Ev.iload_n (pc := 85) dX9_strike_85 rfl ?_
        refine Ev.iconst (pc := 86) dX9_strike_86 (v := 1) (by decide) ?_
        obtain ⟨g9, h⟩ := eGdB h
        refine Ev.zastj (pc := 87) dX9_strike_87 (j := x1.toNatClampNeg) lC_36 g9 rfl ?_
        refine Ev.aload_n (pc := 88) dX9_strike_88 rfl ?_
        refine Ev.getR (pc := 89) dX9_strike_89 fl_RX9_258 lC_29 rfl ?_
        refine Ev.iload_n (pc := 92) dX9_strike_92 rfl ?_
        obtain ⟨g9, h⟩ := eGdB h
        refine Ev.ialdv (pc := 93) dX9_strike_93 (v := (M.1 35 x1.toNatClampNeg)) (j := x1.toNatClampNeg) lC_35 g9 rfl (eI_n (by decide)) ?_
        refine Ev.istore (pc := 94) dX9_strike_94 (by decide) rfl rfl ?_
        refine Ev.aload_n (pc := 96) dX9_strike_96 rfl ?_
        refine Ev.getR (pc := 97) dX9_strike_97 fl_RX9_245 lC_29 rfl ?_
        refine Ev.iload_n (pc := 100) dX9_strike_100 rfl ?_
        obtain ⟨g9, h⟩ := eGdB h
        refine Ev.ialdv (pc := 101) dX9_strike_101 (v := (M.1 30 x1.toNatClampNeg)) (j := x1.toNatClampNeg) lC_30 g9 rfl (eI_n (by decide)) ?_
        refine Ev.iconst (pc := 102) dX9_strike_102 (v := 2) (by decide) ?_
        refine Ev.icmp_ne (pc := 103) (tgt := 138) dX9_strike_103 (by decide) (fun c9 => ?_) (fun c9 => ?_)
        · have h := eF h c9
          refine Ev.iload_n (pc := 138) dX9_strike_138 rfl ?_
          obtain rfl := Option.some.inj h
          exact Ev.iret (pc := 139) dX9_strike_139 rfl rfl
        · have h := eT h c9
          refine Ev.aload_n (pc := 106) dX9_strike_106 rfl ?_
          refine Ev.getR (pc := 107) dX9_strike_107 fl_RX9_12 lC_0 rfl ?_
          refine Ev.getR (pc := 110) dX9_strike_110 fl_RX9_130 lC_1 rfl ?_
          refine Ev.iload (pc := 113) dX9_strike_113 rfl ?_
          refine eBk h (fun q3 hq3 h => ?_)
          refine Ev.callV (pc := 115) (as := [.int (M.1 35 x1.toNatClampNeg)]) (st := []) (z := 0) dX9_strike_115 wc_X5_has ml_RX9_143 im_X5_has se_X5_has lC_12 rfl rfl (ev_X5_has (M.1 35 x1.toNatClampNeg) (eI M 36 x1.toNatClampNeg (vp_nar .boolean 1)) _ hq3) rfl rfl (by decide) rfl rfl (Nat.le_of_ble_eq_true rfl) ?_
          refine Ev.if_eq (pc := 118) (tgt := 138) dX9_strike_118 (by decide) (fun c9 => ?_) (fun c9 => ?_)
          · have h := eT h c9
            refine Ev.iload_n (pc := 138) dX9_strike_138 rfl ?_
            obtain rfl := Option.some.inj h
            exact Ev.iret (pc := 139) dX9_strike_139 rfl rfl
          · have h := eF h c9
            refine Ev.aload_n (pc := 121) dX9_strike_121 rfl ?_
            refine Ev.getR (pc := 122) dX9_strike_122 fl_RX9_12 lC_0 rfl ?_
            refine Ev.getR (pc := 125) dX9_strike_125 fl_RX9_130 lC_1 rfl ?_
            refine Ev.getR (pc := 128) dX9_strike_128 fl_RX9_186 lC_12 rfl ?_
            refine Ev.iload (pc := 131) dX9_strike_131 rfl ?_
            refine Ev.dup2 (pc := 133) dX9_strike_133 rfl rfl ?_
            obtain ⟨g9, h⟩ := eGdB h
            refine Ev.ialdv (pc := 134) dX9_strike_134 (v := (M.1 16 (M.1 35 x1.toNatClampNeg).toNatClampNeg)) (j := (M.1 35 x1.toNatClampNeg).toNatClampNeg) lC_16 g9 rfl (eI_n (by decide)) ?_
            refine Ev.iconst (pc := 135) dX9_strike_135 (v := 2) (by decide) ?_
            refine Ev.idiv (pc := 136) dX9_strike_136 (by decide) ?_
            obtain ⟨g9, h⟩ := eGdB h
            refine Ev.iastj (pc := 137) dX9_strike_137 (j := (M.1 35 x1.toNatClampNeg).toNatClampNeg) lC_16 g9 rfl ?_
            refine Ev.iload_n (pc := 138) dX9_strike_138 rfl ?_
            obtain rfl := Option.some.inj h
            exact Ev.iret (pc := 139) dX9_strike_139 rfl rfl
      · have h := eT h c9
        refine Ev.aload_n (pc := 61) dX9_strike_61 rfl ?_
        refine Ev.ldc (pc := 62) dX9_strike_62 ld_RX9_108 ?_
        refine eBk h (fun q4 hq4 h => ?_)
        refine Ev.callV (pc := 64) (as := [.int (-1000004)]) (st := []) (z := 1) dX9_strike_64 wc_X9_found ml_RX9_42 im_X9_found se_X9_found lC_0 rfl rfl (ev_X9_found (-1000004) M _ hq4) rfl rfl (by decide) rfl rfl (Nat.le_of_ble_eq_true rfl) ?_
        obtain rfl := Option.some.inj h
        exact Ev.iret (pc := 67) dX9_strike_67 rfl rfl
    · have h := eF h c9
      refine Ev.aload_n (pc := 35) dX9_strike_35 rfl ?_
      refine Ev.ldc (pc := 36) dX9_strike_36 ld_RX9_82 ?_
      refine eBk h (fun q5 hq5 h => ?_)
      refine Ev.callV (pc := 38) (as := [.int (-1000005)]) (st := []) (z := 1) dX9_strike_38 wc_X9_found ml_RX9_42 im_X9_found se_X9_found lC_0 rfl rfl (ev_X9_found (-1000005) M _ hq5) rfl rfl (by decide) rfl rfl (Nat.le_of_ble_eq_true rfl) ?_
      obtain rfl := Option.some.inj h
      exact Ev.iret (pc := 41) dX9_strike_41 rfl rfl
  · have h := eT h c9
    refine Ev.aload_n (pc := 19) dX9_strike_19 rfl ?_
    refine Ev.ldc (pc := 20) dX9_strike_20 ld_RX9_41 ?_
    refine eBk h (fun q6 hq6 h => ?_)
    refine Ev.callV (pc := 22) (as := [.int (-1000001)]) (st := []) (z := 1) dX9_strike_22 wc_X9_found ml_RX9_42 im_X9_found se_X9_found lC_0 rfl rfl (ev_X9_found (-1000001) M _ hq6) rfl rfl (by decide) rfl rfl (Nat.le_of_ble_eq_true rfl) ?_
    obtain rfl := Option.some.inj h
    exact Ev.iret (pc := 25) dX9_strike_25 rfl rfl
theorem dX10_strike_0 : decode cX10_strike 0 = .ok (.aload_n 0, 1) := by decide +kernel
theorem dX10_strike_1 : decode cX10_strike 1 = .ok (.iload_n 1, 1) := by decide +kernel
theorem dX10_strike_2 : decode cX10_strike 2 = .ok (.invokevirtual 140, 3) := by decide +kernel
theorem dX10_strike_5 : decode cX10_strike 5 = .ok (.ifCond .ne 9, 3) := by decide +kernel
theorem dX10_strike_8 : decode cX10_strike 8 = .ok (.aload_n 0, 1) := by decide +kernel
theorem dX10_strike_9 : decode cX10_strike 9 = .ok (.iconst 1, 1) := by decide +kernel
theorem dX10_strike_10 : decode cX10_strike 10 = .ok (.invokevirtual 66, 3) := by decide +kernel
theorem dX10_strike_13 : decode cX10_strike 13 = .ok (.ireturn, 1) := by decide +kernel
theorem dX10_strike_14 : decode cX10_strike 14 = .ok (.aload_n 0, 1) := by decide +kernel
theorem dX10_strike_15 : decode cX10_strike 15 = .ok (.iload_n 1, 1) := by decide +kernel
theorem dX10_strike_16 : decode cX10_strike 16 = .ok (.bipush 6, 2) := by decide +kernel
theorem dX10_strike_18 : decode cX10_strike 18 = .ok (.invokevirtual 137, 3) := by decide +kernel
theorem dX10_strike_21 : decode cX10_strike 21 = .ok (.iconst 1, 1) := by decide +kernel
theorem dX10_strike_22 : decode cX10_strike 22 = .ok (.if_icmp .ne 9, 3) := by decide +kernel
theorem dX10_strike_25 : decode cX10_strike 25 = .ok (.aload_n 0, 1) := by decide +kernel
theorem dX10_strike_26 : decode cX10_strike 26 = .ok (.iconst 5, 1) := by decide +kernel
theorem dX10_strike_27 : decode cX10_strike 27 = .ok (.invokevirtual 66, 3) := by decide +kernel
theorem dX10_strike_30 : decode cX10_strike 30 = .ok (.ireturn, 1) := by decide +kernel
theorem dX10_strike_31 : decode cX10_strike 31 = .ok (.aload_n 0, 1) := by decide +kernel
theorem dX10_strike_32 : decode cX10_strike 32 = .ok (.iload_n 1, 1) := by decide +kernel
theorem dX10_strike_33 : decode cX10_strike 33 = .ok (.iconst 4, 1) := by decide +kernel
theorem dX10_strike_34 : decode cX10_strike 34 = .ok (.invokevirtual 137, 3) := by decide +kernel
theorem dX10_strike_37 : decode cX10_strike 37 = .ok (.aload_n 0, 1) := by decide +kernel
theorem dX10_strike_38 : decode cX10_strike 38 = .ok (.getfield 7, 3) := by decide +kernel
theorem dX10_strike_41 : decode cX10_strike 41 = .ok (.iconst 0, 1) := by decide +kernel
theorem dX10_strike_42 : decode cX10_strike 42 = .ok (.iaload, 1) := by decide +kernel
theorem dX10_strike_43 : decode cX10_strike 43 = .ok (.if_icmp .le 9, 3) := by decide +kernel
theorem dX10_strike_46 : decode cX10_strike 46 = .ok (.aload_n 0, 1) := by decide +kernel
theorem dX10_strike_47 : decode cX10_strike 47 = .ok (.iconst 4, 1) := by decide +kernel
theorem dX10_strike_48 : decode cX10_strike 48 = .ok (.invokevirtual 66, 3) := by decide +kernel
theorem dX10_strike_51 : decode cX10_strike 51 = .ok (.ireturn, 1) := by decide +kernel
theorem dX10_strike_52 : decode cX10_strike 52 = .ok (.aload_n 0, 1) := by decide +kernel
theorem dX10_strike_53 : decode cX10_strike 53 = .ok (.iload_n 1, 1) := by decide +kernel
theorem dX10_strike_54 : decode cX10_strike 54 = .ok (.invokevirtual 143, 3) := by decide +kernel
theorem dX10_strike_57 : decode cX10_strike 57 = .ok (.istore_n 2, 1) := by decide +kernel
theorem dX10_strike_58 : decode cX10_strike 58 = .ok (.aload_n 0, 1) := by decide +kernel
theorem dX10_strike_59 : decode cX10_strike 59 = .ok (.getfield 7, 3) := by decide +kernel
theorem dX10_strike_62 : decode cX10_strike 62 = .ok (.sipush 498, 3) := by decide +kernel
theorem dX10_strike_65 : decode cX10_strike 65 = .ok (.bipush 7, 2) := by decide +kernel
theorem dX10_strike_67 : decode cX10_strike 67 = .ok (.iload_n 1, 1) := by decide +kernel
theorem dX10_strike_68 : decode cX10_strike 68 = .ok (.imul, 1) := by decide +kernel
theorem dX10_strike_69 : decode cX10_strike 69 = .ok (.iadd, 1) := by decide +kernel
theorem dX10_strike_70 : decode cX10_strike 70 = .ok (.bipush 6, 2) := by decide +kernel
theorem dX10_strike_72 : decode cX10_strike 72 = .ok (.iadd, 1) := by decide +kernel
theorem dX10_strike_73 : decode cX10_strike 73 = .ok (.iconst 1, 1) := by decide +kernel
theorem dX10_strike_74 : decode cX10_strike 74 = .ok (.iastore, 1) := by decide +kernel
theorem dX10_strike_75 : decode cX10_strike 75 = .ok (.aload_n 0, 1) := by decide +kernel
theorem dX10_strike_76 : decode cX10_strike 76 = .ok (.iload_n 1, 1) := by decide +kernel
theorem dX10_strike_77 : decode cX10_strike 77 = .ok (.iconst 0, 1) := by decide +kernel
theorem dX10_strike_78 : decode cX10_strike 78 = .ok (.invokevirtual 137, 3) := by decide +kernel
theorem dX10_strike_81 : decode cX10_strike 81 = .ok (.iconst 2, 1) := by decide +kernel
theorem dX10_strike_82 : decode cX10_strike 82 = .ok (.if_icmp .ne 17, 3) := by decide +kernel
theorem dX10_strike_85 : decode cX10_strike 85 = .ok (.aload_n 0, 1) := by decide +kernel
theorem dX10_strike_86 : decode cX10_strike 86 = .ok (.aload_n 0, 1) := by decide +kernel
theorem dX10_strike_87 : decode cX10_strike 87 = .ok (.iload_n 1, 1) := by decide +kernel
theorem dX10_strike_88 : decode cX10_strike 88 = .ok (.iconst 5, 1) := by decide +kernel
theorem dX10_strike_89 : decode cX10_strike 89 = .ok (.invokevirtual 137, 3) := by decide +kernel
theorem dX10_strike_92 : decode cX10_strike 92 = .ok (.iconst 3, 1) := by decide +kernel
theorem dX10_strike_93 : decode cX10_strike 93 = .ok (.iload_n 2, 1) := by decide +kernel
theorem dX10_strike_94 : decode cX10_strike 94 = .ok (.iconst 2, 1) := by decide +kernel
theorem dX10_strike_95 : decode cX10_strike 95 = .ok (.idiv, 1) := by decide +kernel
theorem dX10_strike_96 : decode cX10_strike 96 = .ok (.invokevirtual 105, 3) := by decide +kernel
theorem dX10_strike_99 : decode cX10_strike 99 = .ok (.iload_n 2, 1) := by decide +kernel
theorem dX10_strike_100 : decode cX10_strike 100 = .ok (.ireturn, 1) := by decide +kernel
def F_X10_strike (x1 : Int32) (M : eMem) : Option (Int32 × eMem) :=
  (F_X10_isReport x1 M).bind fun q1 =>
  if q1 = 0 then
    (F_X10_finding 1 M).bind fun q10 =>
    some (q10.1, q10.2)
  else
    (F_X10_report1 x1 6 M).bind fun q2 =>
    if q2 = 1 then
      (F_X10_finding 5 M).bind fun q9 =>
      some (q9.1, q9.2)
    else
      (F_X10_report1 x1 4 M).bind fun q3 =>
      if (M.1 1 0) < q3 then
        (F_X10_finding 4 M).bind fun q8 =>
        some (q8.1, q8.2)
      else
        (F_X10_creditOf x1 M).bind fun q4 =>
        eG (eIn ((498 + (7 * x1)) + 6) 2900) <|
        (F_X10_report1 x1 0 (eI M 1 ((498 + (7 * x1)) + 6).toNatClampNeg 1)).bind fun q5 =>
        if q5 = 2 then
          (F_X10_report1 x1 5 (eI M 1 ((498 + (7 * x1)) + 6).toNatClampNeg 1)).bind fun q6 =>
          (F_X10_setShow q6 3 (q4 / 2) (eI M 1 ((498 + (7 * x1)) + 6).toNatClampNeg 1)).bind fun q7 =>
          some (q4, q7)
        else
          some (q4, (eI M 1 ((498 + (7 * x1)) + 6).toNatClampNeg 1))
set_option maxRecDepth 100000 in
set_option maxHeartbeats 4000000 in
theorem ev_X10_strike (x1 : Int32) (M : eMem) (q : (Int32 × eMem)) (h : F_X10_strike x1 M = some q) : Ev layR 2 m_X10_strike 0 [some (.ref 0), some (.int x1), none] [] M (some (.int q.1), q.2) := by
  rw [F_X10_strike] at h
  refine Ev.aload_n (pc := 0) dX10_strike_0 rfl ?_
  refine Ev.iload_n (pc := 1) dX10_strike_1 rfl ?_
  refine eBk h (fun q1 hq1 h => ?_)
  refine Ev.callV (pc := 2) (as := [.int x1]) (st := []) (z := 0) dX10_strike_2 wc_X10_isReport ml_RX10_140 im_X10_isReport se_X10_isReport lR_0 rfl rfl (ev_X10_isReport x1 M _ hq1) rfl rfl (by decide) rfl rfl (Nat.le_of_ble_eq_true rfl) ?_
  refine Ev.if_ne (pc := 5) (tgt := 14) dX10_strike_5 (by decide) (fun c9 => ?_) (fun c9 => ?_)
  · have h := eF h c9
    refine Ev.aload_n (pc := 14) dX10_strike_14 rfl ?_
    refine Ev.iload_n (pc := 15) dX10_strike_15 rfl ?_
    refine Ev.bipush (pc := 16) dX10_strike_16 (v := 6) (by decide) ?_
    refine eBk h (fun q2 hq2 h => ?_)
    refine Ev.callV (pc := 18) (as := [.int x1, .int 6]) (st := []) (z := 0) dX10_strike_18 wc_X10_report1 ml_RX10_137 im_X10_report1 se_X10_report1 lR_0 rfl rfl (ev_X10_report1 x1 6 M _ hq2) rfl rfl (by decide) rfl rfl (Nat.le_of_ble_eq_true rfl) ?_
    refine Ev.iconst (pc := 21) dX10_strike_21 (v := 1) (by decide) ?_
    refine Ev.icmp_ne (pc := 22) (tgt := 31) dX10_strike_22 (by decide) (fun c9 => ?_) (fun c9 => ?_)
    · have h := eF h c9
      refine Ev.aload_n (pc := 31) dX10_strike_31 rfl ?_
      refine Ev.iload_n (pc := 32) dX10_strike_32 rfl ?_
      refine Ev.iconst (pc := 33) dX10_strike_33 (v := 4) (by decide) ?_
      refine eBk h (fun q3 hq3 h => ?_)
      refine Ev.callV (pc := 34) (as := [.int x1, .int 4]) (st := []) (z := 0) dX10_strike_34 wc_X10_report1 ml_RX10_137 im_X10_report1 se_X10_report1 lR_0 rfl rfl (ev_X10_report1 x1 4 M _ hq3) rfl rfl (by decide) rfl rfl (Nat.le_of_ble_eq_true rfl) ?_
      refine Ev.aload_n (pc := 37) dX10_strike_37 rfl ?_
      refine Ev.getR (pc := 38) dX10_strike_38 fl_RX10_7 lR_0 rfl ?_
      refine Ev.iconst (pc := 41) dX10_strike_41 (v := 0) (by decide) ?_
      refine Ev.ialdj (pc := 42) dX10_strike_42 (j := 0) lR_1 (by decide) (by decide) ?_
      refine Ev.icmp_le (pc := 43) (tgt := 52) dX10_strike_43 (by decide) (fun c9 => ?_) (fun c9 => ?_)
      · have h := eF h c9
        refine Ev.aload_n (pc := 52) dX10_strike_52 rfl ?_
        refine Ev.iload_n (pc := 53) dX10_strike_53 rfl ?_
        refine eBk h (fun q4 hq4 h => ?_)
        refine Ev.callV (pc := 54) (as := [.int x1]) (st := []) (z := 0) dX10_strike_54 wc_X10_creditOf ml_RX10_143 im_X10_creditOf se_X10_creditOf lR_0 rfl rfl (ev_X10_creditOf x1 M _ hq4) rfl rfl (by decide) rfl rfl (Nat.le_of_ble_eq_true rfl) ?_
        refine Ev.istore_n (pc := 57) dX10_strike_57 (by decide) rfl rfl ?_
        refine Ev.aload_n (pc := 58) dX10_strike_58 rfl ?_
        refine Ev.getR (pc := 59) dX10_strike_59 fl_RX10_7 lR_0 rfl ?_
        refine Ev.sipush (pc := 62) dX10_strike_62 (v := 498) (by decide) ?_
        refine Ev.bipush (pc := 65) dX10_strike_65 (v := 7) (by decide) ?_
        refine Ev.iload_n (pc := 67) dX10_strike_67 rfl ?_
        refine Ev.imul (pc := 68) dX10_strike_68 ?_
        refine Ev.iadd (pc := 69) dX10_strike_69 ?_
        refine Ev.bipush (pc := 70) dX10_strike_70 (v := 6) (by decide) ?_
        refine Ev.iadd (pc := 72) dX10_strike_72 ?_
        refine Ev.iconst (pc := 73) dX10_strike_73 (v := 1) (by decide) ?_
        obtain ⟨g9, h⟩ := eGdB h
        refine Ev.iastj (pc := 74) dX10_strike_74 (j := ((498 + (7 * x1)) + 6).toNatClampNeg) lR_1 g9 rfl ?_
        refine Ev.aload_n (pc := 75) dX10_strike_75 rfl ?_
        refine Ev.iload_n (pc := 76) dX10_strike_76 rfl ?_
        refine Ev.iconst (pc := 77) dX10_strike_77 (v := 0) (by decide) ?_
        refine eBk h (fun q5 hq5 h => ?_)
        refine Ev.callV (pc := 78) (as := [.int x1, .int 0]) (st := []) (z := 0) dX10_strike_78 wc_X10_report1 ml_RX10_137 im_X10_report1 se_X10_report1 lR_0 rfl rfl (ev_X10_report1 x1 0 (eI M 1 ((498 + (7 * x1)) + 6).toNatClampNeg 1) _ hq5) rfl rfl (by decide) rfl rfl (Nat.le_of_ble_eq_true rfl) ?_
        refine Ev.iconst (pc := 81) dX10_strike_81 (v := 2) (by decide) ?_
        refine Ev.icmp_ne (pc := 82) (tgt := 99) dX10_strike_82 (by decide) (fun c9 => ?_) (fun c9 => ?_)
        · have h := eF h c9
          refine Ev.iload_n (pc := 99) dX10_strike_99 rfl ?_
          obtain rfl := Option.some.inj h
          exact Ev.iret (pc := 100) dX10_strike_100 rfl rfl
        · have h := eT h c9
          refine Ev.aload_n (pc := 85) dX10_strike_85 rfl ?_
          refine Ev.aload_n (pc := 86) dX10_strike_86 rfl ?_
          refine Ev.iload_n (pc := 87) dX10_strike_87 rfl ?_
          refine Ev.iconst (pc := 88) dX10_strike_88 (v := 5) (by decide) ?_
          refine eBk h (fun q6 hq6 h => ?_)
          refine Ev.callV (pc := 89) (as := [.int x1, .int 5]) (st := [.ref 0]) (z := 0) dX10_strike_89 wc_X10_report1 ml_RX10_137 im_X10_report1 se_X10_report1 lR_0 rfl rfl (ev_X10_report1 x1 5 (eI M 1 ((498 + (7 * x1)) + 6).toNatClampNeg 1) _ hq6) rfl rfl (by decide) rfl rfl (Nat.le_of_ble_eq_true rfl) ?_
          refine Ev.iconst (pc := 92) dX10_strike_92 (v := 3) (by decide) ?_
          refine Ev.iload_n (pc := 93) dX10_strike_93 rfl ?_
          refine Ev.iconst (pc := 94) dX10_strike_94 (v := 2) (by decide) ?_
          refine Ev.idiv (pc := 95) dX10_strike_95 (by decide) ?_
          refine eBk h (fun q7 hq7 h => ?_)
          refine Ev.callV (pc := 96) (as := [.int q6, .int 3, .int (q4 / 2)]) (st := []) (z := 0) dX10_strike_96 wc_X10_setShow ml_RX10_105 im_X10_setShow se_X10_setShow lR_0 rfl rfl (ev_X10_setShow q6 3 (q4 / 2) (eI M 1 ((498 + (7 * x1)) + 6).toNatClampNeg 1) _ hq7) rfl rfl (by decide) rfl rfl (Nat.le_of_ble_eq_true rfl) ?_
          refine Ev.iload_n (pc := 99) dX10_strike_99 rfl ?_
          obtain rfl := Option.some.inj h
          exact Ev.iret (pc := 100) dX10_strike_100 rfl rfl
      · have h := eT h c9
        refine Ev.aload_n (pc := 46) dX10_strike_46 rfl ?_
        refine Ev.iconst (pc := 47) dX10_strike_47 (v := 4) (by decide) ?_
        refine eBk h (fun q8 hq8 h => ?_)
        refine Ev.callV (pc := 48) (as := [.int 4]) (st := []) (z := 0) dX10_strike_48 wc_X10_finding ml_RX10_66 im_X10_finding se_X10_finding lR_0 rfl rfl (ev_X10_finding 4 M _ hq8) rfl rfl (by decide) rfl rfl (Nat.le_of_ble_eq_true rfl) ?_
        obtain rfl := Option.some.inj h
        exact Ev.iret (pc := 51) dX10_strike_51 rfl rfl
    · have h := eT h c9
      refine Ev.aload_n (pc := 25) dX10_strike_25 rfl ?_
      refine Ev.iconst (pc := 26) dX10_strike_26 (v := 5) (by decide) ?_
      refine eBk h (fun q9 hq9 h => ?_)
      refine Ev.callV (pc := 27) (as := [.int 5]) (st := []) (z := 0) dX10_strike_27 wc_X10_finding ml_RX10_66 im_X10_finding se_X10_finding lR_0 rfl rfl (ev_X10_finding 5 M _ hq9) rfl rfl (by decide) rfl rfl (Nat.le_of_ble_eq_true rfl) ?_
      obtain rfl := Option.some.inj h
      exact Ev.iret (pc := 30) dX10_strike_30 rfl rfl
  · have h := eT h c9
    refine Ev.aload_n (pc := 8) dX10_strike_8 rfl ?_
    refine Ev.iconst (pc := 9) dX10_strike_9 (v := 1) (by decide) ?_
    refine eBk h (fun q10 hq10 h => ?_)
    refine Ev.callV (pc := 10) (as := [.int 1]) (st := []) (z := 0) dX10_strike_10 wc_X10_finding ml_RX10_66 im_X10_finding se_X10_finding lR_0 rfl rfl (ev_X10_finding 1 M _ hq10) rfl rfl (by decide) rfl rfl (Nat.le_of_ble_eq_true rfl) ?_
    obtain rfl := Option.some.inj h
    exact Ev.iret (pc := 13) dX10_strike_13 rfl rfl
theorem dX9_fade_0 : decode cX9_fade 0 = .ok (.iload_n 1, 1) := by decide +kernel
theorem dX9_fade_1 : decode cX9_fade 1 = .ok (.iconst 1, 1) := by decide +kernel
theorem dX9_fade_2 : decode cX9_fade 2 = .ok (.bipush 30, 2) := by decide +kernel
theorem dX9_fade_4 : decode cX9_fade 4 = .ok (.invokestatic 55, 3) := by decide +kernel
theorem dX9_fade_7 : decode cX9_fade 7 = .ok (.ifCond .ne 10, 3) := by decide +kernel
theorem dX9_fade_10 : decode cX9_fade 10 = .ok (.aload_n 0, 1) := by decide +kernel
theorem dX9_fade_11 : decode cX9_fade 11 = .ok (.ldc 41, 2) := by decide +kernel
theorem dX9_fade_13 : decode cX9_fade 13 = .ok (.invokevirtual 42, 3) := by decide +kernel
theorem dX9_fade_16 : decode cX9_fade 16 = .ok (.ireturn, 1) := by decide +kernel
theorem dX9_fade_17 : decode cX9_fade 17 = .ok (.aload_n 0, 1) := by decide +kernel
theorem dX9_fade_18 : decode cX9_fade 18 = .ok (.getfield 12, 3) := by decide +kernel
theorem dX9_fade_21 : decode cX9_fade 21 = .ok (.getfield 212, 3) := by decide +kernel
theorem dX9_fade_24 : decode cX9_fade 24 = .ok (.getfield 268, 3) := by decide +kernel
theorem dX9_fade_27 : decode cX9_fade 27 = .ok (.istore_n 2, 1) := by decide +kernel
theorem dX9_fade_28 : decode cX9_fade 28 = .ok (.aload_n 0, 1) := by decide +kernel
theorem dX9_fade_29 : decode cX9_fade 29 = .ok (.getfield 12, 3) := by decide +kernel
theorem dX9_fade_32 : decode cX9_fade 32 = .ok (.getfield 212, 3) := by decide +kernel
theorem dX9_fade_35 : decode cX9_fade 35 = .ok (.iload_n 1, 1) := by decide +kernel
theorem dX9_fade_36 : decode cX9_fade 36 = .ok (.putfield 268, 3) := by decide +kernel
theorem dX9_fade_39 : decode cX9_fade 39 = .ok (.iload_n 2, 1) := by decide +kernel
theorem dX9_fade_40 : decode cX9_fade 40 = .ok (.ireturn, 1) := by decide +kernel
def F_X9_fade (x1 : Int32) (M : eMem) : Option (Int32 × eMem) :=
  (F_X9_isBetween x1 1 30).bind fun q1 =>
  if q1 = 0 then
    (F_X9_found (-1000001) M).bind fun q2 =>
    some (q2.1, q2.2)
  else
    some ((M.1 29 8), (eI M 29 8 x1))
set_option maxRecDepth 100000 in
set_option maxHeartbeats 4000000 in
theorem ev_X9_fade (x1 : Int32) (M : eMem) (q : (Int32 × eMem)) (h : F_X9_fade x1 M = some q) : Ev layC 2 m_X9_fade 0 [some (.ref 0), some (.int x1), none] [] M (some (.int q.1), q.2) := by
  rw [F_X9_fade] at h
  refine Ev.iload_n (pc := 0) dX9_fade_0 rfl ?_
  refine Ev.iconst (pc := 1) dX9_fade_1 (v := 1) (by decide) ?_
  refine Ev.bipush (pc := 2) dX9_fade_2 (v := 30) (by decide) ?_
  refine eBk h (fun q1 hq1 h => ?_)
  refine Ev.callS (pc := 4) (as := [.int x1, .int 1, .int 30]) (st := []) (z := 0) dX9_fade_4 wc_X9_isBetween ml_RX9_55 sm_X9_isBetween (ev_X9_isBetween x1 1 30 M _ hq1) rfl rfl (by decide) rfl rfl (Nat.le_of_ble_eq_true rfl) ?_
  refine Ev.if_ne (pc := 7) (tgt := 17) dX9_fade_7 (by decide) (fun c9 => ?_) (fun c9 => ?_)
  · have h := eF h c9
    refine Ev.aload_n (pc := 17) dX9_fade_17 rfl ?_
    refine Ev.getR (pc := 18) dX9_fade_18 fl_RX9_12 lC_0 rfl ?_
    refine Ev.getR (pc := 21) dX9_fade_21 fl_RX9_212 lC_1 rfl ?_
    refine Ev.getI (pc := 24) dX9_fade_24 fl_RX9_268 lC_29 rfl ?_
    refine Ev.istore_n (pc := 27) dX9_fade_27 (by decide) rfl rfl ?_
    refine Ev.aload_n (pc := 28) dX9_fade_28 rfl ?_
    refine Ev.getR (pc := 29) dX9_fade_29 fl_RX9_12 lC_0 rfl ?_
    refine Ev.getR (pc := 32) dX9_fade_32 fl_RX9_212 lC_1 rfl ?_
    refine Ev.iload_n (pc := 35) dX9_fade_35 rfl ?_
    refine Ev.putI (pc := 36) dX9_fade_36 fp_RX9_268 lC_29 rfl rfl rfl ?_
    refine Ev.iload_n (pc := 39) dX9_fade_39 rfl ?_
    obtain rfl := Option.some.inj h
    exact Ev.iret (pc := 40) dX9_fade_40 rfl rfl
  · have h := eT h c9
    refine Ev.aload_n (pc := 10) dX9_fade_10 rfl ?_
    refine Ev.ldc (pc := 11) dX9_fade_11 ld_RX9_41 ?_
    refine eBk h (fun q2 hq2 h => ?_)
    refine Ev.callV (pc := 13) (as := [.int (-1000001)]) (st := []) (z := 1) dX9_fade_13 wc_X9_found ml_RX9_42 im_X9_found se_X9_found lC_0 rfl rfl (ev_X9_found (-1000001) M _ hq2) rfl rfl (by decide) rfl rfl (Nat.le_of_ble_eq_true rfl) ?_
    obtain rfl := Option.some.inj h
    exact Ev.iret (pc := 16) dX9_fade_16 rfl rfl
theorem dX10_fade_0 : decode cX10_fade 0 = .ok (.iload_n 1, 1) := by decide +kernel
theorem dX10_fade_1 : decode cX10_fade 1 = .ok (.iconst 1, 1) := by decide +kernel
theorem dX10_fade_2 : decode cX10_fade 2 = .ok (.bipush 30, 2) := by decide +kernel
theorem dX10_fade_4 : decode cX10_fade 4 = .ok (.invokestatic 58, 3) := by decide +kernel
theorem dX10_fade_7 : decode cX10_fade 7 = .ok (.ifCond .ne 9, 3) := by decide +kernel
theorem dX10_fade_10 : decode cX10_fade 10 = .ok (.aload_n 0, 1) := by decide +kernel
theorem dX10_fade_11 : decode cX10_fade 11 = .ok (.iconst 1, 1) := by decide +kernel
theorem dX10_fade_12 : decode cX10_fade 12 = .ok (.invokevirtual 66, 3) := by decide +kernel
theorem dX10_fade_15 : decode cX10_fade 15 = .ok (.ireturn, 1) := by decide +kernel
theorem dX10_fade_16 : decode cX10_fade 16 = .ok (.aload_n 0, 1) := by decide +kernel
theorem dX10_fade_17 : decode cX10_fade 17 = .ok (.getfield 7, 3) := by decide +kernel
theorem dX10_fade_20 : decode cX10_fade 20 = .ok (.iconst 5, 1) := by decide +kernel
theorem dX10_fade_21 : decode cX10_fade 21 = .ok (.iaload, 1) := by decide +kernel
theorem dX10_fade_22 : decode cX10_fade 22 = .ok (.istore_n 2, 1) := by decide +kernel
theorem dX10_fade_23 : decode cX10_fade 23 = .ok (.aload_n 0, 1) := by decide +kernel
theorem dX10_fade_24 : decode cX10_fade 24 = .ok (.getfield 7, 3) := by decide +kernel
theorem dX10_fade_27 : decode cX10_fade 27 = .ok (.iconst 5, 1) := by decide +kernel
theorem dX10_fade_28 : decode cX10_fade 28 = .ok (.iload_n 1, 1) := by decide +kernel
theorem dX10_fade_29 : decode cX10_fade 29 = .ok (.iastore, 1) := by decide +kernel
theorem dX10_fade_30 : decode cX10_fade 30 = .ok (.iload_n 2, 1) := by decide +kernel
theorem dX10_fade_31 : decode cX10_fade 31 = .ok (.ireturn, 1) := by decide +kernel
def F_X10_fade (x1 : Int32) (M : eMem) : Option (Int32 × eMem) :=
  (F_X10_in x1 1 30).bind fun q1 =>
  if q1 = 0 then
    (F_X10_finding 1 M).bind fun q2 =>
    some (q2.1, q2.2)
  else
    some ((M.1 1 5), (eI M 1 5 x1))
set_option maxRecDepth 100000 in
set_option maxHeartbeats 4000000 in
theorem ev_X10_fade (x1 : Int32) (M : eMem) (q : (Int32 × eMem)) (h : F_X10_fade x1 M = some q) : Ev layR 1 m_X10_fade 0 [some (.ref 0), some (.int x1), none] [] M (some (.int q.1), q.2) := by
  rw [F_X10_fade] at h
  refine Ev.iload_n (pc := 0) dX10_fade_0 rfl ?_
  refine Ev.iconst (pc := 1) dX10_fade_1 (v := 1) (by decide) ?_
  refine Ev.bipush (pc := 2) dX10_fade_2 (v := 30) (by decide) ?_
  refine eBk h (fun q1 hq1 h => ?_)
  refine Ev.callS (pc := 4) (as := [.int x1, .int 1, .int 30]) (st := []) (z := 0) dX10_fade_4 wc_X10_in ml_RX10_58 sm_X10_in (ev_X10_in x1 1 30 M _ hq1) rfl rfl (by decide) rfl rfl (Nat.le_of_ble_eq_true rfl) ?_
  refine Ev.if_ne (pc := 7) (tgt := 16) dX10_fade_7 (by decide) (fun c9 => ?_) (fun c9 => ?_)
  · have h := eF h c9
    refine Ev.aload_n (pc := 16) dX10_fade_16 rfl ?_
    refine Ev.getR (pc := 17) dX10_fade_17 fl_RX10_7 lR_0 rfl ?_
    refine Ev.iconst (pc := 20) dX10_fade_20 (v := 5) (by decide) ?_
    refine Ev.ialdj (pc := 21) dX10_fade_21 (j := 5) lR_1 (by decide) (by decide) ?_
    refine Ev.istore_n (pc := 22) dX10_fade_22 (by decide) rfl rfl ?_
    refine Ev.aload_n (pc := 23) dX10_fade_23 rfl ?_
    refine Ev.getR (pc := 24) dX10_fade_24 fl_RX10_7 lR_0 rfl ?_
    refine Ev.iconst (pc := 27) dX10_fade_27 (v := 5) (by decide) ?_
    refine Ev.iload_n (pc := 28) dX10_fade_28 rfl ?_
    refine Ev.iastj (pc := 29) dX10_fade_29 (j := 5) lR_1 (by decide) (by decide) ?_
    refine Ev.iload_n (pc := 30) dX10_fade_30 rfl ?_
    obtain rfl := Option.some.inj h
    exact Ev.iret (pc := 31) dX10_fade_31 rfl rfl
  · have h := eT h c9
    refine Ev.aload_n (pc := 10) dX10_fade_10 rfl ?_
    refine Ev.iconst (pc := 11) dX10_fade_11 (v := 1) (by decide) ?_
    refine eBk h (fun q2 hq2 h => ?_)
    refine Ev.callV (pc := 12) (as := [.int 1]) (st := []) (z := 0) dX10_fade_12 wc_X10_finding ml_RX10_66 im_X10_finding se_X10_finding lR_0 rfl rfl (ev_X10_finding 1 M _ hq2) rfl rfl (by decide) rfl rfl (Nat.le_of_ble_eq_true rfl) ?_
    obtain rfl := Option.some.inj h
    exact Ev.iret (pc := 15) dX10_fade_15 rfl rfl
theorem dX1_isCounted_0 : decode cX1_isCounted 0 = .ok (.aload_n 0, 1) := by decide +kernel
theorem dX1_isCounted_1 : decode cX1_isCounted 1 = .ok (.getfield 31, 3) := by decide +kernel
theorem dX1_isCounted_4 : decode cX1_isCounted 4 = .ok (.iload_n 1, 1) := by decide +kernel
theorem dX1_isCounted_5 : decode cX1_isCounted 5 = .ok (.baload, 1) := by decide +kernel
theorem dX1_isCounted_6 : decode cX1_isCounted 6 = .ok (.ifCond .ne 35, 3) := by decide +kernel
theorem dX1_isCounted_9 : decode cX1_isCounted 9 = .ok (.aload_n 0, 1) := by decide +kernel
theorem dX1_isCounted_10 : decode cX1_isCounted 10 = .ok (.getfield 25, 3) := by decide +kernel
theorem dX1_isCounted_13 : decode cX1_isCounted 13 = .ok (.iload_n 1, 1) := by decide +kernel
theorem dX1_isCounted_14 : decode cX1_isCounted 14 = .ok (.iaload, 1) := by decide +kernel
theorem dX1_isCounted_15 : decode cX1_isCounted 15 = .ok (.iload_n 2, 1) := by decide +kernel
theorem dX1_isCounted_16 : decode cX1_isCounted 16 = .ok (.if_icmp .gt 25, 3) := by decide +kernel
theorem dX1_isCounted_19 : decode cX1_isCounted 19 = .ok (.aload_n 0, 1) := by decide +kernel
theorem dX1_isCounted_20 : decode cX1_isCounted 20 = .ok (.getfield 22, 3) := by decide +kernel
theorem dX1_isCounted_23 : decode cX1_isCounted 23 = .ok (.iload_n 1, 1) := by decide +kernel
theorem dX1_isCounted_24 : decode cX1_isCounted 24 = .ok (.iaload, 1) := by decide +kernel
theorem dX1_isCounted_25 : decode cX1_isCounted 25 = .ok (.iload_n 2, 1) := by decide +kernel
theorem dX1_isCounted_26 : decode cX1_isCounted 26 = .ok (.bipush 24, 2) := by decide +kernel
theorem dX1_isCounted_28 : decode cX1_isCounted 28 = .ok (.aload_n 0, 1) := by decide +kernel
theorem dX1_isCounted_29 : decode cX1_isCounted 29 = .ok (.getfield 34, 3) := by decide +kernel
theorem dX1_isCounted_32 : decode cX1_isCounted 32 = .ok (.imul, 1) := by decide +kernel
theorem dX1_isCounted_33 : decode cX1_isCounted 33 = .ok (.isub, 1) := by decide +kernel
theorem dX1_isCounted_34 : decode cX1_isCounted 34 = .ok (.if_icmp .lt 7, 3) := by decide +kernel
theorem dX1_isCounted_37 : decode cX1_isCounted 37 = .ok (.iconst 1, 1) := by decide +kernel
theorem dX1_isCounted_38 : decode cX1_isCounted 38 = .ok (.goto 4, 3) := by decide +kernel
theorem dX1_isCounted_41 : decode cX1_isCounted 41 = .ok (.iconst 0, 1) := by decide +kernel
theorem dX1_isCounted_42 : decode cX1_isCounted 42 = .ok (.ireturn, 1) := by decide +kernel
def F_X1_isCounted (x1 : Int32) (x2 : Int32) (M : eMem) : Option Int32 :=
  eG (eIn x1 90) <|
  if (M.1 36 x1.toNatClampNeg) = 0 then
    eG (eIn x1 90) <|
    if x2 < (M.1 34 x1.toNatClampNeg) then
      some 0
    else
      eG (eIn x1 90) <|
      if (M.1 33 x1.toNatClampNeg) < (x2 - (24 * (M.1 29 8))) then
        some 0
      else
        some 1
  else
    some 0
set_option maxRecDepth 100000 in
set_option maxHeartbeats 4000000 in
theorem ev_X1_isCounted (x1 : Int32) (x2 : Int32) (M : eMem) (q : Int32) (h : F_X1_isCounted x1 x2 M = some q) : Ev layC 0 m_X1_isCounted 0 [some (.ref 29), some (.int x1), some (.int x2)] [] M (some (.int q), M) := by
  rw [F_X1_isCounted] at h
  refine Ev.aload_n (pc := 0) dX1_isCounted_0 rfl ?_
  refine Ev.getR (pc := 1) dX1_isCounted_1 fl_RX1_31 lC_29 rfl ?_
  refine Ev.iload_n (pc := 4) dX1_isCounted_4 rfl ?_
  obtain ⟨g9, h⟩ := eGdB h
  refine Ev.zaldj (pc := 5) dX1_isCounted_5 (j := x1.toNatClampNeg) lC_36 g9 rfl ?_
  refine Ev.if_ne (pc := 6) (tgt := 41) dX1_isCounted_6 (by decide) (fun c9 => ?_) (fun c9 => ?_)
  · have h := eF h c9
    refine Ev.iconst (pc := 41) dX1_isCounted_41 (v := 0) (by decide) ?_
    obtain rfl := Option.some.inj h
    exact Ev.iret (pc := 42) dX1_isCounted_42 rfl rfl
  · have h := eT h c9
    refine Ev.aload_n (pc := 9) dX1_isCounted_9 rfl ?_
    refine Ev.getR (pc := 10) dX1_isCounted_10 fl_RX1_25 lC_29 rfl ?_
    refine Ev.iload_n (pc := 13) dX1_isCounted_13 rfl ?_
    obtain ⟨g9, h⟩ := eGdB h
    refine Ev.ialdj (pc := 14) dX1_isCounted_14 (j := x1.toNatClampNeg) lC_34 g9 rfl ?_
    refine Ev.iload_n (pc := 15) dX1_isCounted_15 rfl ?_
    refine Ev.icmp_gt (pc := 16) (tgt := 41) dX1_isCounted_16 (by decide) (fun c9 => ?_) (fun c9 => ?_)
    · have h := eT h c9
      refine Ev.iconst (pc := 41) dX1_isCounted_41 (v := 0) (by decide) ?_
      obtain rfl := Option.some.inj h
      exact Ev.iret (pc := 42) dX1_isCounted_42 rfl rfl
    · have h := eF h c9
      refine Ev.aload_n (pc := 19) dX1_isCounted_19 rfl ?_
      refine Ev.getR (pc := 20) dX1_isCounted_20 fl_RX1_22 lC_29 rfl ?_
      refine Ev.iload_n (pc := 23) dX1_isCounted_23 rfl ?_
      obtain ⟨g9, h⟩ := eGdB h
      refine Ev.ialdj (pc := 24) dX1_isCounted_24 (j := x1.toNatClampNeg) lC_33 g9 rfl ?_
      refine Ev.iload_n (pc := 25) dX1_isCounted_25 rfl ?_
      refine Ev.bipush (pc := 26) dX1_isCounted_26 (v := 24) (by decide) ?_
      refine Ev.aload_n (pc := 28) dX1_isCounted_28 rfl ?_
      refine Ev.getI (pc := 29) dX1_isCounted_29 fl_RX1_34 lC_29 rfl ?_
      refine Ev.imul (pc := 32) dX1_isCounted_32 ?_
      refine Ev.isub (pc := 33) dX1_isCounted_33 ?_
      refine Ev.icmp_lt (pc := 34) (tgt := 41) dX1_isCounted_34 (by decide) (fun c9 => ?_) (fun c9 => ?_)
      · have h := eT h c9
        refine Ev.iconst (pc := 41) dX1_isCounted_41 (v := 0) (by decide) ?_
        obtain rfl := Option.some.inj h
        exact Ev.iret (pc := 42) dX1_isCounted_42 rfl rfl
      · have h := eF h c9
        refine Ev.iconst (pc := 37) dX1_isCounted_37 (v := 1) (by decide) ?_
        refine Ev.goto (pc := 38) (tgt := 42) dX1_isCounted_38 (by decide) ?_
        obtain rfl := Option.some.inj h
        exact Ev.iret (pc := 42) dX1_isCounted_42 rfl rfl
theorem dX3_insert_0 : decode cX3_insert 0 = .ok (.aload_n 0, 1) := by decide +kernel
theorem dX3_insert_1 : decode cX3_insert 1 = .ok (.getfield 24, 3) := by decide +kernel
theorem dX3_insert_4 : decode cX3_insert 4 = .ok (.istore_n 3, 1) := by decide +kernel
theorem dX3_insert_5 : decode cX3_insert 5 = .ok (.iload_n 3, 1) := by decide +kernel
theorem dX3_insert_6 : decode cX3_insert 6 = .ok (.ifCond .le 31, 3) := by decide +kernel
theorem dX3_insert_9 : decode cX3_insert 9 = .ok (.aload_n 2, 1) := by decide +kernel
theorem dX3_insert_10 : decode cX3_insert 10 = .ok (.getfield 66, 3) := by decide +kernel
theorem dX3_insert_13 : decode cX3_insert 13 = .ok (.aload_n 0, 1) := by decide +kernel
theorem dX3_insert_14 : decode cX3_insert 14 = .ok (.getfield 15, 3) := by decide +kernel
theorem dX3_insert_17 : decode cX3_insert 17 = .ok (.iload_n 3, 1) := by decide +kernel
theorem dX3_insert_18 : decode cX3_insert 18 = .ok (.iconst 1, 1) := by decide +kernel
theorem dX3_insert_19 : decode cX3_insert 19 = .ok (.isub, 1) := by decide +kernel
theorem dX3_insert_20 : decode cX3_insert 20 = .ok (.iaload, 1) := by decide +kernel
theorem dX3_insert_21 : decode cX3_insert 21 = .ok (.iaload, 1) := by decide +kernel
theorem dX3_insert_22 : decode cX3_insert 22 = .ok (.aload_n 2, 1) := by decide +kernel
theorem dX3_insert_23 : decode cX3_insert 23 = .ok (.getfield 66, 3) := by decide +kernel
theorem dX3_insert_26 : decode cX3_insert 26 = .ok (.iload_n 1, 1) := by decide +kernel
theorem dX3_insert_27 : decode cX3_insert 27 = .ok (.iaload, 1) := by decide +kernel
theorem dX3_insert_28 : decode cX3_insert 28 = .ok (.if_icmp .gt 9, 3) := by decide +kernel
theorem dX3_insert_31 : decode cX3_insert 31 = .ok (.iinc 3 (-1), 3) := by decide +kernel
theorem dX3_insert_34 : decode cX3_insert 34 = .ok (.goto (-29), 3) := by decide +kernel
theorem dX3_insert_37 : decode cX3_insert 37 = .ok (.iload_n 3, 1) := by decide +kernel
theorem dX3_insert_38 : decode cX3_insert 38 = .ok (.bipush 12, 2) := by decide +kernel
theorem dX3_insert_40 : decode cX3_insert 40 = .ok (.if_icmp .lt 4, 3) := by decide +kernel
theorem dX3_insert_43 : decode cX3_insert 43 = .ok (.return_, 1) := by decide +kernel
theorem dX3_insert_44 : decode cX3_insert 44 = .ok (.aload_n 0, 1) := by decide +kernel
theorem dX3_insert_45 : decode cX3_insert 45 = .ok (.getfield 24, 3) := by decide +kernel
theorem dX3_insert_48 : decode cX3_insert 48 = .ok (.bipush 12, 2) := by decide +kernel
theorem dX3_insert_50 : decode cX3_insert 50 = .ok (.if_icmp .ge 13, 3) := by decide +kernel
theorem dX3_insert_53 : decode cX3_insert 53 = .ok (.aload_n 0, 1) := by decide +kernel
theorem dX3_insert_54 : decode cX3_insert 54 = .ok (.dup, 1) := by decide +kernel
theorem dX3_insert_55 : decode cX3_insert 55 = .ok (.getfield 24, 3) := by decide +kernel
theorem dX3_insert_58 : decode cX3_insert 58 = .ok (.iconst 1, 1) := by decide +kernel
theorem dX3_insert_59 : decode cX3_insert 59 = .ok (.iadd, 1) := by decide +kernel
theorem dX3_insert_60 : decode cX3_insert 60 = .ok (.putfield 24, 3) := by decide +kernel
theorem dX3_insert_63 : decode cX3_insert 63 = .ok (.aload_n 0, 1) := by decide +kernel
theorem dX3_insert_64 : decode cX3_insert 64 = .ok (.getfield 24, 3) := by decide +kernel
theorem dX3_insert_67 : decode cX3_insert 67 = .ok (.iconst 1, 1) := by decide +kernel
theorem dX3_insert_68 : decode cX3_insert 68 = .ok (.isub, 1) := by decide +kernel
theorem dX3_insert_69 : decode cX3_insert 69 = .ok (.istore 4, 2) := by decide +kernel
theorem dX3_insert_71 : decode cX3_insert 71 = .ok (.iload 4, 2) := by decide +kernel
theorem dX3_insert_73 : decode cX3_insert 73 = .ok (.iload_n 3, 1) := by decide +kernel
theorem dX3_insert_74 : decode cX3_insert 74 = .ok (.if_icmp .le 25, 3) := by decide +kernel
theorem dX3_insert_77 : decode cX3_insert 77 = .ok (.aload_n 0, 1) := by decide +kernel
theorem dX3_insert_78 : decode cX3_insert 78 = .ok (.getfield 15, 3) := by decide +kernel
theorem dX3_insert_81 : decode cX3_insert 81 = .ok (.iload 4, 2) := by decide +kernel
theorem dX3_insert_83 : decode cX3_insert 83 = .ok (.aload_n 0, 1) := by decide +kernel
theorem dX3_insert_84 : decode cX3_insert 84 = .ok (.getfield 15, 3) := by decide +kernel
theorem dX3_insert_87 : decode cX3_insert 87 = .ok (.iload 4, 2) := by decide +kernel
theorem dX3_insert_89 : decode cX3_insert 89 = .ok (.iconst 1, 1) := by decide +kernel
theorem dX3_insert_90 : decode cX3_insert 90 = .ok (.isub, 1) := by decide +kernel
theorem dX3_insert_91 : decode cX3_insert 91 = .ok (.iaload, 1) := by decide +kernel
theorem dX3_insert_92 : decode cX3_insert 92 = .ok (.iastore, 1) := by decide +kernel
theorem dX3_insert_93 : decode cX3_insert 93 = .ok (.iinc 4 (-1), 3) := by decide +kernel
theorem dX3_insert_96 : decode cX3_insert 96 = .ok (.goto (-25), 3) := by decide +kernel
theorem dX3_insert_99 : decode cX3_insert 99 = .ok (.aload_n 0, 1) := by decide +kernel
theorem dX3_insert_100 : decode cX3_insert 100 = .ok (.getfield 15, 3) := by decide +kernel
theorem dX3_insert_103 : decode cX3_insert 103 = .ok (.iload_n 3, 1) := by decide +kernel
theorem dX3_insert_104 : decode cX3_insert 104 = .ok (.iload_n 1, 1) := by decide +kernel
theorem dX3_insert_105 : decode cX3_insert 105 = .ok (.iastore, 1) := by decide +kernel
theorem dX3_insert_106 : decode cX3_insert 106 = .ok (.return_, 1) := by decide +kernel
def F_X3_insert_5 (K37 : Int32 → Int32 → eMem → Option eMem) : Nat → Int32 → Int32 → eMem → Option eMem
  | 0, _, _, _ => none
  | n + 1, v1, v3, M =>
    if 0 < v3 then
      eG (eIn (v3 - 1) 12) <|
      eG (eIn (M.1 57 (v3 - 1).toNatClampNeg) 90) <|
      eG (eIn v1 90) <|
      if (M.1 33 v1.toNatClampNeg) < (M.1 33 (M.1 57 (v3 - 1).toNatClampNeg).toNatClampNeg) then
        K37 v1 v3 M
      else
        F_X3_insert_5 K37 n v1 (v3 + (-1)) M
    else
      K37 v1 v3 M
set_option maxRecDepth 100000 in
set_option maxHeartbeats 4000000 in
theorem ev_X3_insert_5 (K37 : Int32 → Int32 → eMem → Option eMem) (q : eMem) (hK37 : ∀ (v1 : Int32) (v3 : Int32) (M : eMem), K37 v1 v3 M = some q → Ev layC 0 m_X3_insert 37 [some (.ref 55), some (.int v1), none, some (.int v3), none] [] M (none, q)) : ∀ (fuel : Nat) (v1 : Int32) (v3 : Int32) (M : eMem), F_X3_insert_5 K37 fuel v1 v3 M = some q → Ev layC 0 m_X3_insert 5 [some (.ref 55), some (.int v1), some (.ref 29), some (.int v3), none] [] M (none, q) := by
  intro fuel
  induction fuel with
  | zero => intro v1 v3 M h; rw [F_X3_insert_5] at h; cases h
  | succ n ih =>
    intro v1 v3 M h
    rw [F_X3_insert_5] at h
    refine Ev.iload_n (pc := 5) dX3_insert_5 rfl ?_
    refine Ev.if_le (pc := 6) (tgt := 37) dX3_insert_6 (by decide) (fun c9 => ?_) (fun c9 => ?_)
    · have h := eF h c9
      exact Ev.fg (hK37 _ _ _ h) (And.intro rfl (And.intro rfl (And.intro rfl trivial)))
    · have h := eT h c9
      refine Ev.aload_n (pc := 9) dX3_insert_9 rfl ?_
      refine Ev.getR (pc := 10) dX3_insert_10 fl_RX3_66 lC_29 rfl ?_
      refine Ev.aload_n (pc := 13) dX3_insert_13 rfl ?_
      refine Ev.getR (pc := 14) dX3_insert_14 fl_RX3_15 lC_55 rfl ?_
      refine Ev.iload_n (pc := 17) dX3_insert_17 rfl ?_
      refine Ev.iconst (pc := 18) dX3_insert_18 (v := 1) (by decide) ?_
      refine Ev.isub (pc := 19) dX3_insert_19 ?_
      obtain ⟨g9, h⟩ := eGdB h
      refine Ev.ialdj (pc := 20) dX3_insert_20 (j := (v3 - 1).toNatClampNeg) lC_57 g9 rfl ?_
      obtain ⟨g9, h⟩ := eGdB h
      refine Ev.ialdj (pc := 21) dX3_insert_21 (j := (M.1 57 (v3 - 1).toNatClampNeg).toNatClampNeg) lC_33 g9 rfl ?_
      refine Ev.aload_n (pc := 22) dX3_insert_22 rfl ?_
      refine Ev.getR (pc := 23) dX3_insert_23 fl_RX3_66 lC_29 rfl ?_
      refine Ev.iload_n (pc := 26) dX3_insert_26 rfl ?_
      obtain ⟨g9, h⟩ := eGdB h
      refine Ev.ialdj (pc := 27) dX3_insert_27 (j := v1.toNatClampNeg) lC_33 g9 rfl ?_
      refine Ev.icmp_gt (pc := 28) (tgt := 37) dX3_insert_28 (by decide) (fun c9 => ?_) (fun c9 => ?_)
      · have h := eT h c9
        exact Ev.fg (hK37 _ _ _ h) (And.intro rfl (And.intro rfl (And.intro rfl trivial)))
      · have h := eF h c9
        refine Ev.iincv (pc := 31) dX3_insert_31 (v := (-1)) (by decide) rfl (by decide) rfl rfl ?_
        refine Ev.goto (pc := 34) (tgt := 5) dX3_insert_34 (by decide) ?_
        exact Ev.fg (ih _ _ _ h) (And.intro rfl (And.intro rfl (And.intro rfl (And.intro rfl trivial))))
def F_X3_insert_71  : Nat → Int32 → Int32 → Int32 → eMem → Option eMem
  | 0, _, _, _, _ => none
  | n + 1, v1, v3, v4, M =>
    if v3 < v4 then
      eG (eIn (v4 - 1) 12) <|
      eG (eIn v4 12) <|
      F_X3_insert_71 n v1 v3 (v4 + (-1)) (eI M 57 v4.toNatClampNeg (M.1 57 (v4 - 1).toNatClampNeg))
    else
      eG (eIn v3 12) <|
      some (eI M 57 v3.toNatClampNeg v1)
set_option maxRecDepth 100000 in
set_option maxHeartbeats 4000000 in
theorem ev_X3_insert_71  (q : eMem)  : ∀ (fuel : Nat) (v1 : Int32) (v3 : Int32) (v4 : Int32) (M : eMem), F_X3_insert_71 fuel v1 v3 v4 M = some q → Ev layC 0 m_X3_insert 71 [some (.ref 55), some (.int v1), none, some (.int v3), some (.int v4)] [] M (none, q) := by
  intro fuel
  induction fuel with
  | zero => intro v1 v3 v4 M h; rw [F_X3_insert_71] at h; cases h
  | succ n ih =>
    intro v1 v3 v4 M h
    rw [F_X3_insert_71] at h
    refine Ev.iload (pc := 71) dX3_insert_71 rfl ?_
    refine Ev.iload_n (pc := 73) dX3_insert_73 rfl ?_
    refine Ev.icmp_le (pc := 74) (tgt := 99) dX3_insert_74 (by decide) (fun c9 => ?_) (fun c9 => ?_)
    · have h := eF h c9
      refine Ev.aload_n (pc := 99) dX3_insert_99 rfl ?_
      refine Ev.getR (pc := 100) dX3_insert_100 fl_RX3_15 lC_55 rfl ?_
      refine Ev.iload_n (pc := 103) dX3_insert_103 rfl ?_
      refine Ev.iload_n (pc := 104) dX3_insert_104 rfl ?_
      obtain ⟨g9, h⟩ := eGdB h
      refine Ev.iastj (pc := 105) dX3_insert_105 (j := v3.toNatClampNeg) lC_57 g9 rfl ?_
      obtain rfl := Option.some.inj h
      exact Ev.vret (pc := 106) dX3_insert_106 rfl
    · have h := eT h c9
      refine Ev.aload_n (pc := 77) dX3_insert_77 rfl ?_
      refine Ev.getR (pc := 78) dX3_insert_78 fl_RX3_15 lC_55 rfl ?_
      refine Ev.iload (pc := 81) dX3_insert_81 rfl ?_
      refine Ev.aload_n (pc := 83) dX3_insert_83 rfl ?_
      refine Ev.getR (pc := 84) dX3_insert_84 fl_RX3_15 lC_55 rfl ?_
      refine Ev.iload (pc := 87) dX3_insert_87 rfl ?_
      refine Ev.iconst (pc := 89) dX3_insert_89 (v := 1) (by decide) ?_
      refine Ev.isub (pc := 90) dX3_insert_90 ?_
      obtain ⟨g9, h⟩ := eGdB h
      refine Ev.ialdj (pc := 91) dX3_insert_91 (j := (v4 - 1).toNatClampNeg) lC_57 g9 rfl ?_
      obtain ⟨g9, h⟩ := eGdB h
      refine Ev.iastj (pc := 92) dX3_insert_92 (j := v4.toNatClampNeg) lC_57 g9 rfl ?_
      refine Ev.iincv (pc := 93) dX3_insert_93 (v := (-1)) (by decide) rfl (by decide) rfl rfl ?_
      refine Ev.goto (pc := 96) (tgt := 71) dX3_insert_96 (by decide) ?_
      exact Ev.fg (ih _ _ _ _ h) (And.intro rfl (And.intro rfl (And.intro rfl (And.intro rfl trivial))))
def F_X3_insert_63  (v1 : Int32) (v3 : Int32) (M : eMem) : Option eMem :=
  F_X3_insert_71 eFuel v1 v3 ((M.1 55 2) - 1) M
set_option maxRecDepth 100000 in
set_option maxHeartbeats 4000000 in
theorem ev_X3_insert_63  (q : eMem)  (v1 : Int32) (v3 : Int32) (M : eMem) (h : F_X3_insert_63 v1 v3 M = some q) : Ev layC 0 m_X3_insert 63 [some (.ref 55), some (.int v1), none, some (.int v3), none] [] M (none, q) := by
  rw [F_X3_insert_63] at h
  refine Ev.aload_n (pc := 63) dX3_insert_63 rfl ?_
  refine Ev.getI (pc := 64) dX3_insert_64 fl_RX3_24 lC_55 rfl ?_
  refine Ev.iconst (pc := 67) dX3_insert_67 (v := 1) (by decide) ?_
  refine Ev.isub (pc := 68) dX3_insert_68 ?_
  refine Ev.istore (pc := 69) dX3_insert_69 (by decide) rfl rfl ?_
  exact Ev.fg (ev_X3_insert_71 _ _ _ _ _ _ h) (And.intro rfl (And.intro rfl (And.intro rfl (And.intro rfl trivial))))
def F_X3_insert (x1 : Int32) (M : eMem) : Option eMem :=
  F_X3_insert_5
    (fun v1 v3 M =>
      if v3 < 12 then
        if (M.1 55 2) < 12 then
          F_X3_insert_63 v1 v3 (eI M 55 2 ((M.1 55 2) + 1))
        else
          F_X3_insert_63 v1 v3 M
      else
        some M)
    eFuel x1 (M.1 55 2) M
set_option maxRecDepth 100000 in
set_option maxHeartbeats 4000000 in
theorem ev_X3_insert (x1 : Int32) (M : eMem) (q : eMem) (h : F_X3_insert x1 M = some q) : Ev layC 0 m_X3_insert 0 [some (.ref 55), some (.int x1), some (.ref 29), none, none] [] M (none, q) := by
  rw [F_X3_insert] at h
  refine Ev.aload_n (pc := 0) dX3_insert_0 rfl ?_
  refine Ev.getI (pc := 1) dX3_insert_1 fl_RX3_24 lC_55 rfl ?_
  refine Ev.istore_n (pc := 4) dX3_insert_4 (by decide) rfl rfl ?_
  refine Ev.fg (ev_X3_insert_5 _ _ ?_ _ _ _ _ h) (And.intro rfl (And.intro rfl (And.intro rfl (And.intro rfl trivial))))
  · intro v1 v3 M h
    refine Ev.iload_n (pc := 37) dX3_insert_37 rfl ?_
    refine Ev.bipush (pc := 38) dX3_insert_38 (v := 12) (by decide) ?_
    refine Ev.icmp_lt (pc := 40) (tgt := 44) dX3_insert_40 (by decide) (fun c9 => ?_) (fun c9 => ?_)
    · have h := eT h c9
      refine Ev.aload_n (pc := 44) dX3_insert_44 rfl ?_
      refine Ev.getI (pc := 45) dX3_insert_45 fl_RX3_24 lC_55 rfl ?_
      refine Ev.bipush (pc := 48) dX3_insert_48 (v := 12) (by decide) ?_
      refine Ev.icmp_ge (pc := 50) (tgt := 63) dX3_insert_50 (by decide) (fun c9 => ?_) (fun c9 => ?_)
      · have h := eF h c9
        exact Ev.fg (ev_X3_insert_63 _ _ _ _ h) (And.intro rfl (And.intro rfl (And.intro rfl trivial)))
      · have h := eT h c9
        refine Ev.aload_n (pc := 53) dX3_insert_53 rfl ?_
        refine Ev.dup (pc := 54) dX3_insert_54 rfl ?_
        refine Ev.getI (pc := 55) dX3_insert_55 fl_RX3_24 lC_55 rfl ?_
        refine Ev.iconst (pc := 58) dX3_insert_58 (v := 1) (by decide) ?_
        refine Ev.iadd (pc := 59) dX3_insert_59 ?_
        refine Ev.putI (pc := 60) dX3_insert_60 fp_RX3_24 lC_55 rfl rfl rfl ?_
        exact Ev.fg (ev_X3_insert_63 _ _ _ _ h) (And.intro rfl (And.intro rfl (And.intro rfl trivial)))
    · have h := eF h c9
      obtain rfl := Option.some.inj h
      exact Ev.vret (pc := 43) dX3_insert_43 rfl
theorem dX3_put_0 : decode cX3_put 0 = .ok (.iconst 0, 1) := by decide +kernel
theorem dX3_put_1 : decode cX3_put 1 = .ok (.istore 4, 2) := by decide +kernel
theorem dX3_put_3 : decode cX3_put 3 = .ok (.iload 4, 2) := by decide +kernel
theorem dX3_put_5 : decode cX3_put 5 = .ok (.iconst 4, 1) := by decide +kernel
theorem dX3_put_6 : decode cX3_put 6 = .ok (.if_icmp .ge 38, 3) := by decide +kernel
theorem dX3_put_9 : decode cX3_put 9 = .ok (.iload 4, 2) := by decide +kernel
theorem dX3_put_11 : decode cX3_put 11 = .ok (.iload_n 1, 1) := by decide +kernel
theorem dX3_put_12 : decode cX3_put 12 = .ok (.if_icmp .ne 7, 3) := by decide +kernel
theorem dX3_put_15 : decode cX3_put 15 = .ok (.iconst 1, 1) := by decide +kernel
theorem dX3_put_16 : decode cX3_put 16 = .ok (.goto 4, 3) := by decide +kernel
theorem dX3_put_19 : decode cX3_put 19 = .ok (.iconst 0, 1) := by decide +kernel
theorem dX3_put_20 : decode cX3_put 20 = .ok (.iload_n 2, 1) := by decide +kernel
theorem dX3_put_21 : decode cX3_put 21 = .ok (.if_icmp .ne 17, 3) := by decide +kernel
theorem dX3_put_24 : decode cX3_put 24 = .ok (.aload_n 0, 1) := by decide +kernel
theorem dX3_put_25 : decode cX3_put 25 = .ok (.getfield 9, 3) := by decide +kernel
theorem dX3_put_28 : decode cX3_put 28 = .ok (.iload 4, 2) := by decide +kernel
theorem dX3_put_30 : decode cX3_put 30 = .ok (.dup2, 1) := by decide +kernel
theorem dX3_put_31 : decode cX3_put 31 = .ok (.laload, 1) := by decide +kernel
theorem dX3_put_32 : decode cX3_put 32 = .ok (.iload_n 3, 1) := by decide +kernel
theorem dX3_put_33 : decode cX3_put 33 = .ok (.iconst 1, 1) := by decide +kernel
theorem dX3_put_34 : decode cX3_put 34 = .ok (.iadd, 1) := by decide +kernel
theorem dX3_put_35 : decode cX3_put 35 = .ok (.i2l, 1) := by decide +kernel
theorem dX3_put_36 : decode cX3_put 36 = .ok (.lmul, 1) := by decide +kernel
theorem dX3_put_37 : decode cX3_put 37 = .ok (.lastore, 1) := by decide +kernel
theorem dX3_put_38 : decode cX3_put 38 = .ok (.iinc 4 1, 3) := by decide +kernel
theorem dX3_put_41 : decode cX3_put 41 = .ok (.goto (-38), 3) := by decide +kernel
theorem dX3_put_44 : decode cX3_put 44 = .ok (.return_, 1) := by decide +kernel
def F_X3_put_20 (rec : Int32 → Int32 → Int32 → Int32 → eMem → Option eMem) (v1 : Int32) (v2 : Int32) (v3 : Int32) (v4 : Int32) (s0 : Int32) (M : eMem) : Option eMem :=
  if s0 = v2 then
    eG (eIn v4 4) <|
    eG (eIn v4 4) <|
    rec v1 v2 v3 (v4 + 1) (eJ M 56 v4.toNatClampNeg ((M.2 56 v4.toNatClampNeg) * (v3 + 1).toInt64))
  else
    rec v1 v2 v3 (v4 + 1) M
set_option maxRecDepth 100000 in
set_option maxHeartbeats 4000000 in
theorem ev_X3_put_20 (rec : Int32 → Int32 → Int32 → Int32 → eMem → Option eMem) (q : eMem) (hrec : ∀ (v1 : Int32) (v2 : Int32) (v3 : Int32) (v4 : Int32) (M : eMem), rec v1 v2 v3 v4 M = some q → Ev layC 0 m_X3_put 3 [some (.ref 55), some (.int v1), some (.int v2), some (.int v3), some (.int v4)] [] M (none, q)) (v1 : Int32) (v2 : Int32) (v3 : Int32) (v4 : Int32) (s0 : Int32) (M : eMem) (h : F_X3_put_20 rec v1 v2 v3 v4 s0 M = some q) : Ev layC 0 m_X3_put 20 [some (.ref 55), some (.int v1), some (.int v2), some (.int v3), some (.int v4)] [.int s0] M (none, q) := by
  rw [F_X3_put_20] at h
  refine Ev.iload_n (pc := 20) dX3_put_20 rfl ?_
  refine Ev.icmp_ne (pc := 21) (tgt := 38) dX3_put_21 (by decide) (fun c9 => ?_) (fun c9 => ?_)
  · have h := eF h c9
    refine Ev.iincv (pc := 38) dX3_put_38 (v := 1) (by decide) rfl (by decide) rfl rfl ?_
    refine Ev.goto (pc := 41) (tgt := 3) dX3_put_41 (by decide) ?_
    exact Ev.fg (hrec _ _ _ _ _ h) (And.intro rfl (And.intro rfl (And.intro rfl (And.intro rfl (And.intro rfl trivial)))))
  · have h := eT h c9
    refine Ev.aload_n (pc := 24) dX3_put_24 rfl ?_
    refine Ev.getR (pc := 25) dX3_put_25 fl_RX3_9 lC_55 rfl ?_
    refine Ev.iload (pc := 28) dX3_put_28 rfl ?_
    refine Ev.dup2 (pc := 30) dX3_put_30 rfl rfl ?_
    obtain ⟨g9, h⟩ := eGdB h
    refine Ev.laldj (pc := 31) dX3_put_31 (j := v4.toNatClampNeg) lC_56 g9 rfl ?_
    refine Ev.iload_n (pc := 32) dX3_put_32 rfl ?_
    refine Ev.iconst (pc := 33) dX3_put_33 (v := 1) (by decide) ?_
    refine Ev.iadd (pc := 34) dX3_put_34 ?_
    refine Ev.i2l (pc := 35) dX3_put_35 ?_
    refine Ev.lmul (pc := 36) dX3_put_36 ?_
    obtain ⟨g9, h⟩ := eGdB h
    refine Ev.lastj (pc := 37) dX3_put_37 (j := v4.toNatClampNeg) lC_56 g9 rfl ?_
    refine Ev.iincv (pc := 38) dX3_put_38 (v := 1) (by decide) rfl (by decide) rfl rfl ?_
    refine Ev.goto (pc := 41) (tgt := 3) dX3_put_41 (by decide) ?_
    exact Ev.fg (hrec _ _ _ _ _ h) (And.intro rfl (And.intro rfl (And.intro rfl (And.intro rfl (And.intro rfl trivial)))))
def F_X3_put_3  : Nat → Int32 → Int32 → Int32 → Int32 → eMem → Option eMem
  | 0, _, _, _, _, _ => none
  | n + 1, v1, v2, v3, v4, M =>
    if v4 < 4 then
      if v4 = v1 then
        F_X3_put_20 (fun v1 v2 v3 v4 M => F_X3_put_3 n v1 v2 v3 v4 M) v1 v2 v3 v4 1 M
      else
        F_X3_put_20 (fun v1 v2 v3 v4 M => F_X3_put_3 n v1 v2 v3 v4 M) v1 v2 v3 v4 0 M
    else
      some M
set_option maxRecDepth 100000 in
set_option maxHeartbeats 4000000 in
theorem ev_X3_put_3  (q : eMem)  : ∀ (fuel : Nat) (v1 : Int32) (v2 : Int32) (v3 : Int32) (v4 : Int32) (M : eMem), F_X3_put_3 fuel v1 v2 v3 v4 M = some q → Ev layC 0 m_X3_put 3 [some (.ref 55), some (.int v1), some (.int v2), some (.int v3), some (.int v4)] [] M (none, q) := by
  intro fuel
  induction fuel with
  | zero => intro v1 v2 v3 v4 M h; rw [F_X3_put_3] at h; cases h
  | succ n ih =>
    intro v1 v2 v3 v4 M h
    rw [F_X3_put_3] at h
    refine Ev.iload (pc := 3) dX3_put_3 rfl ?_
    refine Ev.iconst (pc := 5) dX3_put_5 (v := 4) (by decide) ?_
    refine Ev.icmp_ge (pc := 6) (tgt := 44) dX3_put_6 (by decide) (fun c9 => ?_) (fun c9 => ?_)
    · have h := eF h c9
      obtain rfl := Option.some.inj h
      exact Ev.vret (pc := 44) dX3_put_44 rfl
    · have h := eT h c9
      refine Ev.iload (pc := 9) dX3_put_9 rfl ?_
      refine Ev.iload_n (pc := 11) dX3_put_11 rfl ?_
      refine Ev.icmp_ne (pc := 12) (tgt := 19) dX3_put_12 (by decide) (fun c9 => ?_) (fun c9 => ?_)
      · have h := eF h c9
        refine Ev.iconst (pc := 19) dX3_put_19 (v := 0) (by decide) ?_
        exact Ev.fg (ev_X3_put_20 _ _ ih _ _ _ _ _ _ h) (And.intro rfl (And.intro rfl (And.intro rfl (And.intro rfl (And.intro rfl trivial)))))
      · have h := eT h c9
        refine Ev.iconst (pc := 15) dX3_put_15 (v := 1) (by decide) ?_
        refine Ev.goto (pc := 16) (tgt := 20) dX3_put_16 (by decide) ?_
        exact Ev.fg (ev_X3_put_20 _ _ ih _ _ _ _ _ _ h) (And.intro rfl (And.intro rfl (And.intro rfl (And.intro rfl (And.intro rfl trivial)))))
def F_X3_put (x1 : Int32) (x2 : Int32) (x3 : Int32) (M : eMem) : Option eMem :=
  F_X3_put_3 eFuel x1 x2 x3 0 M
set_option maxRecDepth 100000 in
set_option maxHeartbeats 4000000 in
theorem ev_X3_put (x1 : Int32) (x2 : Int32) (x3 : Int32) (M : eMem) (q : eMem) (h : F_X3_put x1 x2 x3 M = some q) : Ev layC 0 m_X3_put 0 [some (.ref 55), some (.int x1), some (.int x2), some (.int x3), none] [] M (none, q) := by
  rw [F_X3_put] at h
  refine Ev.iconst (pc := 0) dX3_put_0 (v := 0) (by decide) ?_
  refine Ev.istore (pc := 1) dX3_put_1 (by decide) rfl rfl ?_
  exact Ev.fg (ev_X3_put_3 _ _ _ _ _ _ _ h) (And.intro rfl (And.intro rfl (And.intro rfl (And.intro rfl (And.intro rfl trivial)))))
theorem dX3_load_0 : decode cX3_load 0 = .ok (.aload_n 0, 1) := by decide +kernel
theorem dX3_load_1 : decode cX3_load 1 = .ok (.iconst 0, 1) := by decide +kernel
theorem dX3_load_2 : decode cX3_load 2 = .ok (.putfield 24, 3) := by decide +kernel
theorem dX3_load_5 : decode cX3_load 5 = .ok (.iconst 0, 1) := by decide +kernel
theorem dX3_load_6 : decode cX3_load 6 = .ok (.istore 4, 2) := by decide +kernel
theorem dX3_load_8 : decode cX3_load 8 = .ok (.iload 4, 2) := by decide +kernel
theorem dX3_load_10 : decode cX3_load 10 = .ok (.aload_n 1, 1) := by decide +kernel
theorem dX3_load_11 : decode cX3_load 11 = .ok (.getfield 28, 3) := by decide +kernel
theorem dX3_load_14 : decode cX3_load 14 = .ok (.if_icmp .ge 26, 3) := by decide +kernel
theorem dX3_load_17 : decode cX3_load 17 = .ok (.aload_n 1, 1) := by decide +kernel
theorem dX3_load_18 : decode cX3_load 18 = .ok (.iload 4, 2) := by decide +kernel
theorem dX3_load_20 : decode cX3_load 20 = .ok (.iload_n 3, 1) := by decide +kernel
theorem dX3_load_21 : decode cX3_load 21 = .ok (.invokevirtual 31, 3) := by decide +kernel
theorem dX3_load_24 : decode cX3_load 24 = .ok (.ifCond .eq 10, 3) := by decide +kernel
theorem dX3_load_27 : decode cX3_load 27 = .ok (.aload_n 0, 1) := by decide +kernel
theorem dX3_load_28 : decode cX3_load 28 = .ok (.iload 4, 2) := by decide +kernel
theorem dX3_load_30 : decode cX3_load 30 = .ok (.aload_n 1, 1) := by decide +kernel
theorem dX3_load_31 : decode cX3_load 31 = .ok (.invokevirtual 35, 3) := by decide +kernel
theorem dX3_load_34 : decode cX3_load 34 = .ok (.iinc 4 1, 3) := by decide +kernel
theorem dX3_load_37 : decode cX3_load 37 = .ok (.goto (-29), 3) := by decide +kernel
theorem dX3_load_40 : decode cX3_load 40 = .ok (.aload_n 0, 1) := by decide +kernel
theorem dX3_load_41 : decode cX3_load 41 = .ok (.getfield 9, 3) := by decide +kernel
theorem dX3_load_44 : decode cX3_load 44 = .ok (.lconst 1, 1) := by decide +kernel
theorem dX3_load_45 : decode cX3_load 45 = .ok (.invokestatic 39, 3) := by decide +kernel
theorem dX3_load_48 : decode cX3_load 48 = .ok (.aload_n 0, 1) := by decide +kernel
theorem dX3_load_49 : decode cX3_load 49 = .ok (.getfield 9, 3) := by decide +kernel
theorem dX3_load_52 : decode cX3_load 52 = .ok (.iconst 0, 1) := by decide +kernel
theorem dX3_load_53 : decode cX3_load 53 = .ok (.aload_n 0, 1) := by decide +kernel
theorem dX3_load_54 : decode cX3_load 54 = .ok (.getfield 21, 3) := by decide +kernel
theorem dX3_load_57 : decode cX3_load 57 = .ok (.iconst 0, 1) := by decide +kernel
theorem dX3_load_58 : decode cX3_load 58 = .ok (.aaload, 1) := by decide +kernel
theorem dX3_load_59 : decode cX3_load 59 = .ok (.iconst 0, 1) := by decide +kernel
theorem dX3_load_60 : decode cX3_load 60 = .ok (.iconst 4, 1) := by decide +kernel
theorem dX3_load_61 : decode cX3_load 61 = .ok (.invokestatic 45, 3) := by decide +kernel
theorem dX3_load_64 : decode cX3_load 64 = .ok (.iconst 0, 1) := by decide +kernel
theorem dX3_load_65 : decode cX3_load 65 = .ok (.istore 4, 2) := by decide +kernel
theorem dX3_load_67 : decode cX3_load 67 = .ok (.iload 4, 2) := by decide +kernel
theorem dX3_load_69 : decode cX3_load 69 = .ok (.aload_n 0, 1) := by decide +kernel
theorem dX3_load_70 : decode cX3_load 70 = .ok (.getfield 24, 3) := by decide +kernel
theorem dX3_load_73 : decode cX3_load 73 = .ok (.if_icmp .ge 62, 3) := by decide +kernel
theorem dX3_load_76 : decode cX3_load 76 = .ok (.aload_n 0, 1) := by decide +kernel
theorem dX3_load_77 : decode cX3_load 77 = .ok (.getfield 15, 3) := by decide +kernel
theorem dX3_load_80 : decode cX3_load 80 = .ok (.iload 4, 2) := by decide +kernel
theorem dX3_load_82 : decode cX3_load 82 = .ok (.iaload, 1) := by decide +kernel
theorem dX3_load_83 : decode cX3_load 83 = .ok (.istore 5, 2) := by decide +kernel
theorem dX3_load_85 : decode cX3_load 85 = .ok (.aload_n 0, 1) := by decide +kernel
theorem dX3_load_86 : decode cX3_load 86 = .ok (.aload_n 1, 1) := by decide +kernel
theorem dX3_load_87 : decode cX3_load 87 = .ok (.getfield 51, 3) := by decide +kernel
theorem dX3_load_90 : decode cX3_load 90 = .ok (.iload 5, 2) := by decide +kernel
theorem dX3_load_92 : decode cX3_load 92 = .ok (.iaload, 1) := by decide +kernel
theorem dX3_load_93 : decode cX3_load 93 = .ok (.aload_n 1, 1) := by decide +kernel
theorem dX3_load_94 : decode cX3_load 94 = .ok (.getfield 54, 3) := by decide +kernel
theorem dX3_load_97 : decode cX3_load 97 = .ok (.iload 5, 2) := by decide +kernel
theorem dX3_load_99 : decode cX3_load 99 = .ok (.baload, 1) := by decide +kernel
theorem dX3_load_100 : decode cX3_load 100 = .ok (.aload_n 1, 1) := by decide +kernel
theorem dX3_load_101 : decode cX3_load 101 = .ok (.iload 5, 2) := by decide +kernel
theorem dX3_load_103 : decode cX3_load 103 = .ok (.aload_n 2, 1) := by decide +kernel
theorem dX3_load_104 : decode cX3_load 104 = .ok (.invokevirtual 58, 3) := by decide +kernel
theorem dX3_load_107 : decode cX3_load 107 = .ok (.invokevirtual 62, 3) := by decide +kernel
theorem dX3_load_110 : decode cX3_load 110 = .ok (.aload_n 0, 1) := by decide +kernel
theorem dX3_load_111 : decode cX3_load 111 = .ok (.getfield 9, 3) := by decide +kernel
theorem dX3_load_114 : decode cX3_load 114 = .ok (.iconst 0, 1) := by decide +kernel
theorem dX3_load_115 : decode cX3_load 115 = .ok (.aload_n 0, 1) := by decide +kernel
theorem dX3_load_116 : decode cX3_load 116 = .ok (.getfield 21, 3) := by decide +kernel
theorem dX3_load_119 : decode cX3_load 119 = .ok (.iload 4, 2) := by decide +kernel
theorem dX3_load_121 : decode cX3_load 121 = .ok (.iconst 1, 1) := by decide +kernel
theorem dX3_load_122 : decode cX3_load 122 = .ok (.iadd, 1) := by decide +kernel
theorem dX3_load_123 : decode cX3_load 123 = .ok (.aaload, 1) := by decide +kernel
theorem dX3_load_124 : decode cX3_load 124 = .ok (.iconst 0, 1) := by decide +kernel
theorem dX3_load_125 : decode cX3_load 125 = .ok (.iconst 4, 1) := by decide +kernel
theorem dX3_load_126 : decode cX3_load 126 = .ok (.invokestatic 45, 3) := by decide +kernel
theorem dX3_load_129 : decode cX3_load 129 = .ok (.iinc 4 1, 3) := by decide +kernel
theorem dX3_load_132 : decode cX3_load 132 = .ok (.goto (-65), 3) := by decide +kernel
theorem dX3_load_135 : decode cX3_load 135 = .ok (.return_, 1) := by decide +kernel
def F_X3_load_8 (K40 : eMem → Option eMem) : Nat → Int32 → Int32 → eMem → Option eMem
  | 0, _, _, _ => none
  | n + 1, v3, v4, M =>
    if v4 < (M.1 29 7) then
      (F_X1_isCounted v4 v3 M).bind fun q1 =>
      if q1 = 0 then
        F_X3_load_8 K40 n v3 (v4 + 1) M
      else
        (F_X3_insert v4 M).bind fun q2 =>
        F_X3_load_8 K40 n v3 (v4 + 1) q2
    else
      K40 M
set_option maxRecDepth 100000 in
set_option maxHeartbeats 4000000 in
theorem ev_X3_load_8 (K40 : eMem → Option eMem) (q : eMem) (hK40 : ∀  (M : eMem), K40 M = some q → Ev layC 3 m_X3_load 40 [some (.ref 55), some (.ref 29), some (.ref 12), none, none, none] [] M (none, q)) : ∀ (fuel : Nat) (v3 : Int32) (v4 : Int32) (M : eMem), F_X3_load_8 K40 fuel v3 v4 M = some q → Ev layC 3 m_X3_load 8 [some (.ref 55), some (.ref 29), some (.ref 12), some (.int v3), some (.int v4), none] [] M (none, q) := by
  intro fuel
  induction fuel with
  | zero => intro v3 v4 M h; rw [F_X3_load_8] at h; cases h
  | succ n ih =>
    intro v3 v4 M h
    rw [F_X3_load_8] at h
    refine Ev.iload (pc := 8) dX3_load_8 rfl ?_
    refine Ev.aload_n (pc := 10) dX3_load_10 rfl ?_
    refine Ev.getI (pc := 11) dX3_load_11 fl_RX3_28 lC_29 rfl ?_
    refine Ev.icmp_ge (pc := 14) (tgt := 40) dX3_load_14 (by decide) (fun c9 => ?_) (fun c9 => ?_)
    · have h := eF h c9
      exact Ev.fg (hK40 _ h) (And.intro rfl (And.intro rfl (And.intro rfl trivial)))
    · have h := eT h c9
      refine Ev.aload_n (pc := 17) dX3_load_17 rfl ?_
      refine Ev.iload (pc := 18) dX3_load_18 rfl ?_
      refine Ev.iload_n (pc := 20) dX3_load_20 rfl ?_
      refine eBk h (fun q1 hq1 h => ?_)
      refine Ev.callV (pc := 21) (as := [.int v4, .int v3]) (st := []) (z := 0) dX3_load_21 wc_X1_isCounted ml_RX3_31 im_X1_isCounted se_X1_isCounted lC_29 rfl rfl (ev_X1_isCounted v4 v3 M _ hq1) rfl rfl (by decide) rfl rfl (Nat.le_of_ble_eq_true rfl) ?_
      refine Ev.if_eq (pc := 24) (tgt := 34) dX3_load_24 (by decide) (fun c9 => ?_) (fun c9 => ?_)
      · have h := eT h c9
        refine Ev.iincv (pc := 34) dX3_load_34 (v := 1) (by decide) rfl (by decide) rfl rfl ?_
        refine Ev.goto (pc := 37) (tgt := 8) dX3_load_37 (by decide) ?_
        exact Ev.fg (ih _ _ _ h) (And.intro rfl (And.intro rfl (And.intro rfl (And.intro rfl (And.intro rfl trivial)))))
      · have h := eF h c9
        refine Ev.aload_n (pc := 27) dX3_load_27 rfl ?_
        refine Ev.iload (pc := 28) dX3_load_28 rfl ?_
        refine Ev.aload_n (pc := 30) dX3_load_30 rfl ?_
        refine eBk h (fun q2 hq2 h => ?_)
        refine Ev.callV (pc := 31) (as := [.int v4, .ref 29]) (st := []) (z := 2) dX3_load_31 wc_X3_insert ml_RX3_35 im_X3_insert se_X3_insert lC_55 rfl rfl (ev_X3_insert v4 M _ hq2) rfl rfl (by decide) rfl rfl (Nat.le_of_ble_eq_true rfl) ?_
        refine Ev.iincv (pc := 34) dX3_load_34 (v := 1) (by decide) rfl (by decide) rfl rfl ?_
        refine Ev.goto (pc := 37) (tgt := 8) dX3_load_37 (by decide) ?_
        exact Ev.fg (ih _ _ _ h) (And.intro rfl (And.intro rfl (And.intro rfl (And.intro rfl (And.intro rfl trivial)))))
def F_X3_load_67  : Nat → Int32 → eMem → Option eMem
  | 0, _, _ => none
  | n + 1, v4, M =>
    if v4 < (M.1 55 2) then
      eG (eIn v4 12) <|
      eG (eIn (M.1 57 v4.toNatClampNeg) 90) <|
      eG (eIn (M.1 57 v4.toNatClampNeg) 90) <|
      (F_X1_credit (M.1 57 v4.toNatClampNeg) M).bind fun q3 =>
      (F_X3_put (M.1 31 (M.1 57 v4.toNatClampNeg).toNatClampNeg) (M.1 32 (M.1 57 v4.toNatClampNeg).toNatClampNeg) q3 M).bind fun q4 =>
      eG (eIn (v4 + 1) 13) <|
      F_X3_load_67 n (v4 + 1) (eCpyL q4 56 (59 + (v4 + 1).toNatClampNeg) 0 0 4)
    else
      some M
set_option maxRecDepth 100000 in
set_option maxHeartbeats 4000000 in
theorem ev_X3_load_67  (q : eMem)  : ∀ (fuel : Nat) (v4 : Int32) (M : eMem), F_X3_load_67 fuel v4 M = some q → Ev layC 3 m_X3_load 67 [some (.ref 55), some (.ref 29), some (.ref 12), none, some (.int v4), none] [] M (none, q) := by
  intro fuel
  induction fuel with
  | zero => intro v4 M h; rw [F_X3_load_67] at h; cases h
  | succ n ih =>
    intro v4 M h
    rw [F_X3_load_67] at h
    refine Ev.iload (pc := 67) dX3_load_67 rfl ?_
    refine Ev.aload_n (pc := 69) dX3_load_69 rfl ?_
    refine Ev.getI (pc := 70) dX3_load_70 fl_RX3_24 lC_55 rfl ?_
    refine Ev.icmp_ge (pc := 73) (tgt := 135) dX3_load_73 (by decide) (fun c9 => ?_) (fun c9 => ?_)
    · have h := eF h c9
      obtain rfl := Option.some.inj h
      exact Ev.vret (pc := 135) dX3_load_135 rfl
    · have h := eT h c9
      refine Ev.aload_n (pc := 76) dX3_load_76 rfl ?_
      refine Ev.getR (pc := 77) dX3_load_77 fl_RX3_15 lC_55 rfl ?_
      refine Ev.iload (pc := 80) dX3_load_80 rfl ?_
      obtain ⟨g9, h⟩ := eGdB h
      refine Ev.ialdj (pc := 82) dX3_load_82 (j := v4.toNatClampNeg) lC_57 g9 rfl ?_
      refine Ev.istore (pc := 83) dX3_load_83 (by decide) rfl rfl ?_
      refine Ev.aload_n (pc := 85) dX3_load_85 rfl ?_
      refine Ev.aload_n (pc := 86) dX3_load_86 rfl ?_
      refine Ev.getR (pc := 87) dX3_load_87 fl_RX3_51 lC_29 rfl ?_
      refine Ev.iload (pc := 90) dX3_load_90 rfl ?_
      obtain ⟨g9, h⟩ := eGdB h
      refine Ev.ialdj (pc := 92) dX3_load_92 (j := (M.1 57 v4.toNatClampNeg).toNatClampNeg) lC_31 g9 rfl ?_
      refine Ev.aload_n (pc := 93) dX3_load_93 rfl ?_
      refine Ev.getR (pc := 94) dX3_load_94 fl_RX3_54 lC_29 rfl ?_
      refine Ev.iload (pc := 97) dX3_load_97 rfl ?_
      obtain ⟨g9, h⟩ := eGdB h
      refine Ev.zaldj (pc := 99) dX3_load_99 (j := (M.1 57 v4.toNatClampNeg).toNatClampNeg) lC_32 g9 rfl ?_
      refine Ev.aload_n (pc := 100) dX3_load_100 rfl ?_
      refine Ev.iload (pc := 101) dX3_load_101 rfl ?_
      refine Ev.aload_n (pc := 103) dX3_load_103 rfl ?_
      refine eBk h (fun q3 hq3 h => ?_)
      refine Ev.callV (pc := 104) (as := [.int (M.1 57 v4.toNatClampNeg), .ref 12]) (st := [.int (M.1 32 (M.1 57 v4.toNatClampNeg).toNatClampNeg), .int (M.1 31 (M.1 57 v4.toNatClampNeg).toNatClampNeg), .ref 55]) (z := 0) dX3_load_104 wc_X1_credit ml_RX3_58 im_X1_credit se_X1_credit lC_29 rfl rfl (ev_X1_credit (M.1 57 v4.toNatClampNeg) M _ hq3) rfl rfl (by decide) rfl rfl (Nat.le_of_ble_eq_true rfl) ?_
      refine eBk h (fun q4 hq4 h => ?_)
      refine Ev.callV (pc := 107) (as := [.int (M.1 31 (M.1 57 v4.toNatClampNeg).toNatClampNeg), .int (M.1 32 (M.1 57 v4.toNatClampNeg).toNatClampNeg), .int q3]) (st := []) (z := 1) dX3_load_107 wc_X3_put ml_RX3_62 im_X3_put se_X3_put lC_55 rfl rfl (ev_X3_put (M.1 31 (M.1 57 v4.toNatClampNeg).toNatClampNeg) (M.1 32 (M.1 57 v4.toNatClampNeg).toNatClampNeg) q3 M _ hq4) rfl rfl (by decide) rfl rfl (Nat.le_of_ble_eq_true rfl) ?_
      refine Ev.aload_n (pc := 110) dX3_load_110 rfl ?_
      refine Ev.getR (pc := 111) dX3_load_111 fl_RX3_9 lC_55 rfl ?_
      refine Ev.iconst (pc := 114) dX3_load_114 (v := 0) (by decide) ?_
      refine Ev.aload_n (pc := 115) dX3_load_115 rfl ?_
      refine Ev.getR (pc := 116) dX3_load_116 fl_RX3_21 lC_55 rfl ?_
      refine Ev.iload (pc := 119) dX3_load_119 rfl ?_
      refine Ev.iconst (pc := 121) dX3_load_121 (v := 1) (by decide) ?_
      refine Ev.iadd (pc := 122) dX3_load_122 ?_
      obtain ⟨g9, h⟩ := eGdB h
      have gg33 := eIn_lt g9
      refine Ev.aaldj (pc := 123) dX3_load_123 (z := 59 + (v4 + 1).toNatClampNeg) lC_58 (by decide) (eIn_n0 g9) (grC_58 _ gg33) ?_
      refine Ev.iconst (pc := 124) dX3_load_124 (v := 0) (by decide) ?_
      refine Ev.iconst (pc := 125) dX3_load_125 (v := 4) (by decide) ?_
      refine Ev.copyLj (pc := 126) (sp2 := 0) (dp2 := 0) (n2 := 4) dX3_load_126 sy_RX3_45 lC_56 (glC_58 _ gg33) (by decide) (by decide) (by decide) (by decide) (by decide) (by decide) (by decide) (by decide) (by decide) (Nat.le_of_ble_eq_true rfl) ?_
      refine Ev.iincv (pc := 129) dX3_load_129 (v := 1) (by decide) rfl (by decide) rfl rfl ?_
      refine Ev.goto (pc := 132) (tgt := 67) dX3_load_132 (by decide) ?_
      exact Ev.fg (ih _ _ h) (And.intro rfl (And.intro rfl (And.intro rfl (And.intro rfl trivial))))
def F_X3_load (x3 : Int32) (M : eMem) : Option eMem :=
  F_X3_load_8
    (fun M =>
      F_X3_load_67 eFuel 0 (eCpyL (eFl64 M 56 4 1) 56 59 0 0 4))
    eFuel x3 0 (eI M 55 2 0)
set_option maxRecDepth 100000 in
set_option maxHeartbeats 4000000 in
theorem ev_X3_load (x3 : Int32) (M : eMem) (q : eMem) (h : F_X3_load x3 M = some q) : Ev layC 3 m_X3_load 0 [some (.ref 55), some (.ref 29), some (.ref 12), some (.int x3), none, none] [] M (none, q) := by
  rw [F_X3_load] at h
  refine Ev.aload_n (pc := 0) dX3_load_0 rfl ?_
  refine Ev.iconst (pc := 1) dX3_load_1 (v := 0) (by decide) ?_
  refine Ev.putI (pc := 2) dX3_load_2 fp_RX3_24 lC_55 rfl rfl rfl ?_
  refine Ev.iconst (pc := 5) dX3_load_5 (v := 0) (by decide) ?_
  refine Ev.istore (pc := 6) dX3_load_6 (by decide) rfl rfl ?_
  refine Ev.fg (ev_X3_load_8 _ _ ?_ _ _ _ _ h) (And.intro rfl (And.intro rfl (And.intro rfl (And.intro rfl (And.intro rfl trivial)))))
  · intro M h
    refine Ev.aload_n (pc := 40) dX3_load_40 rfl ?_
    refine Ev.getR (pc := 41) dX3_load_41 fl_RX3_9 lC_55 rfl ?_
    refine Ev.lconst (pc := 44) dX3_load_44 (v := 1) (by decide) ?_
    refine Ev.callS (pc := 45) (as := [.ref 56, .long 1]) (st := []) (z := 2) dX3_load_45 wc_J7_fill_d0a16 ml_RX3_39 sm_J7_fill_d0a16 (ev_J7_fill_d0a16 lC_56 (by decide)) rfl rfl (by decide) rfl rfl (Nat.le_of_ble_eq_true rfl) ?_
    refine Ev.aload_n (pc := 48) dX3_load_48 rfl ?_
    refine Ev.getR (pc := 49) dX3_load_49 fl_RX3_9 lC_55 rfl ?_
    refine Ev.iconst (pc := 52) dX3_load_52 (v := 0) (by decide) ?_
    refine Ev.aload_n (pc := 53) dX3_load_53 rfl ?_
    refine Ev.getR (pc := 54) dX3_load_54 fl_RX3_21 lC_55 rfl ?_
    refine Ev.iconst (pc := 57) dX3_load_57 (v := 0) (by decide) ?_
    refine Ev.aaldj (pc := 58) dX3_load_58 (z := 59) lC_58 (by decide) (by decide) (by decide) ?_
    refine Ev.iconst (pc := 59) dX3_load_59 (v := 0) (by decide) ?_
    refine Ev.iconst (pc := 60) dX3_load_60 (v := 4) (by decide) ?_
    refine Ev.copyLj (pc := 61) (sp2 := 0) (dp2 := 0) (n2 := 4) dX3_load_61 sy_RX3_45 lC_56 lC_59 (by decide) (by decide) (by decide) (by decide) (by decide) (by decide) (by decide) (by decide) (by decide) (Nat.le_of_ble_eq_true rfl) ?_
    refine Ev.iconst (pc := 64) dX3_load_64 (v := 0) (by decide) ?_
    refine Ev.istore (pc := 65) dX3_load_65 (by decide) rfl rfl ?_
    exact Ev.fg (ev_X3_load_67 _ _ _ _ h) (And.intro rfl (And.intro rfl (And.intro rfl (And.intro rfl trivial))))
theorem dX8_scalesAt_0 : decode cX8_scalesAt 0 = .ok (.aload_n 0, 1) := by decide +kernel
theorem dX8_scalesAt_1 : decode cX8_scalesAt 1 = .ok (.getfield 56, 3) := by decide +kernel
theorem dX8_scalesAt_4 : decode cX8_scalesAt 4 = .ok (.aload_n 0, 1) := by decide +kernel
theorem dX8_scalesAt_5 : decode cX8_scalesAt 5 = .ok (.getfield 35, 3) := by decide +kernel
theorem dX8_scalesAt_8 : decode cX8_scalesAt 8 = .ok (.aload_n 0, 1) := by decide +kernel
theorem dX8_scalesAt_9 : decode cX8_scalesAt 9 = .ok (.getfield 21, 3) := by decide +kernel
theorem dX8_scalesAt_12 : decode cX8_scalesAt 12 = .ok (.iload_n 1, 1) := by decide +kernel
theorem dX8_scalesAt_13 : decode cX8_scalesAt 13 = .ok (.invokevirtual 150, 3) := by decide +kernel
theorem dX8_scalesAt_16 : decode cX8_scalesAt 16 = .ok (.aload_n 0, 1) := by decide +kernel
theorem dX8_scalesAt_17 : decode cX8_scalesAt 17 = .ok (.getfield 56, 3) := by decide +kernel
theorem dX8_scalesAt_20 : decode cX8_scalesAt 20 = .ok (.areturn, 1) := by decide +kernel
def F_X8_scalesAt (x1 : Int32) (M : eMem) : Option eMem :=
  (F_X3_load x1 M).bind fun q1 =>
  some q1
set_option maxRecDepth 100000 in
set_option maxHeartbeats 4000000 in
theorem ev_X8_scalesAt (x1 : Int32) (M : eMem) (q : eMem) (h : F_X8_scalesAt x1 M = some q) : Ev layC 4 m_X8_scalesAt 0 [some (.ref 1), some (.int x1)] [] M (some (.ref 55), q) := by
  rw [F_X8_scalesAt] at h
  refine Ev.aload_n (pc := 0) dX8_scalesAt_0 rfl ?_
  refine Ev.getR (pc := 1) dX8_scalesAt_1 fl_RX8_56 lC_1 rfl ?_
  refine Ev.aload_n (pc := 4) dX8_scalesAt_4 rfl ?_
  refine Ev.getR (pc := 5) dX8_scalesAt_5 fl_RX8_35 lC_1 rfl ?_
  refine Ev.aload_n (pc := 8) dX8_scalesAt_8 rfl ?_
  refine Ev.getR (pc := 9) dX8_scalesAt_9 fl_RX8_21 lC_1 rfl ?_
  refine Ev.iload_n (pc := 12) dX8_scalesAt_12 rfl ?_
  refine eBk h (fun q1 hq1 h => ?_)
  refine Ev.callV (pc := 13) (as := [.ref 29, .ref 12, .int x1]) (st := []) (z := 2) dX8_scalesAt_13 wc_X3_load ml_RX8_150 im_X3_load se_X3_load lC_55 rfl rfl (ev_X3_load x1 M _ hq1) rfl rfl (by decide) rfl rfl (Nat.le_of_ble_eq_true rfl) ?_
  refine Ev.aload_n (pc := 16) dX8_scalesAt_16 rfl ?_
  refine Ev.getR (pc := 17) dX8_scalesAt_17 fl_RX8_56 lC_1 rfl ?_
  obtain rfl := Option.some.inj h
  exact Ev.aret (pc := 20) dX8_scalesAt_20 rfl
theorem dX9_weight_0 : decode cX9_weight 0 = .ok (.iload_n 1, 1) := by decide +kernel
theorem dX9_weight_1 : decode cX9_weight 1 = .ok (.iconst 4, 1) := by decide +kernel
theorem dX9_weight_2 : decode cX9_weight 2 = .ok (.invokestatic 37, 3) := by decide +kernel
theorem dX9_weight_5 : decode cX9_weight 5 = .ok (.ifCond .ne 11, 3) := by decide +kernel
theorem dX9_weight_8 : decode cX9_weight 8 = .ok (.aload_n 0, 1) := by decide +kernel
theorem dX9_weight_9 : decode cX9_weight 9 = .ok (.ldc 41, 2) := by decide +kernel
theorem dX9_weight_11 : decode cX9_weight 11 = .ok (.invokevirtual 42, 3) := by decide +kernel
theorem dX9_weight_14 : decode cX9_weight 14 = .ok (.i2l, 1) := by decide +kernel
theorem dX9_weight_15 : decode cX9_weight 15 = .ok (.lreturn, 1) := by decide +kernel
theorem dX9_weight_16 : decode cX9_weight 16 = .ok (.aload_n 0, 1) := by decide +kernel
theorem dX9_weight_17 : decode cX9_weight 17 = .ok (.getfield 12, 3) := by decide +kernel
theorem dX9_weight_20 : decode cX9_weight 20 = .ok (.aload_n 0, 1) := by decide +kernel
theorem dX9_weight_21 : decode cX9_weight 21 = .ok (.getfield 12, 3) := by decide +kernel
theorem dX9_weight_24 : decode cX9_weight 24 = .ok (.getfield 46, 3) := by decide +kernel
theorem dX9_weight_27 : decode cX9_weight 27 = .ok (.getfield 99, 3) := by decide +kernel
theorem dX9_weight_30 : decode cX9_weight 30 = .ok (.invokevirtual 271, 3) := by decide +kernel
theorem dX9_weight_33 : decode cX9_weight 33 = .ok (.getfield 275, 3) := by decide +kernel
theorem dX9_weight_36 : decode cX9_weight 36 = .ok (.iload_n 1, 1) := by decide +kernel
theorem dX9_weight_37 : decode cX9_weight 37 = .ok (.laload, 1) := by decide +kernel
theorem dX9_weight_38 : decode cX9_weight 38 = .ok (.lreturn, 1) := by decide +kernel
def F_X9_weight (x1 : Int32) (M : eMem) : Option (Int64 × eMem) :=
  (F_X9_isIn x1 4).bind fun q1 =>
  if q1 = 0 then
    (F_X9_found (-1000001) M).bind fun q3 =>
    some (q3.1.toInt64, q3.2)
  else
    (F_X8_scalesAt (M.1 2 11) M).bind fun q2 =>
    eG (eIn x1 4) <|
    some ((q2.2 56 x1.toNatClampNeg), q2)
set_option maxRecDepth 100000 in
set_option maxHeartbeats 4000000 in
theorem ev_X9_weight (x1 : Int32) (M : eMem) (q : (Int64 × eMem)) (h : F_X9_weight x1 M = some q) : Ev layC 5 m_X9_weight 0 [some (.ref 0), some (.int x1)] [] M (some (.long q.1), q.2) := by
  rw [F_X9_weight] at h
  refine Ev.iload_n (pc := 0) dX9_weight_0 rfl ?_
  refine Ev.iconst (pc := 1) dX9_weight_1 (v := 4) (by decide) ?_
  refine eBk h (fun q1 hq1 h => ?_)
  refine Ev.callS (pc := 2) (as := [.int x1, .int 4]) (st := []) (z := 0) dX9_weight_2 wc_X9_isIn ml_RX9_37 sm_X9_isIn (ev_X9_isIn x1 4 M _ hq1) rfl rfl (by decide) rfl rfl (Nat.le_of_ble_eq_true rfl) ?_
  refine Ev.if_ne (pc := 5) (tgt := 16) dX9_weight_5 (by decide) (fun c9 => ?_) (fun c9 => ?_)
  · have h := eF h c9
    refine Ev.aload_n (pc := 16) dX9_weight_16 rfl ?_
    refine Ev.getR (pc := 17) dX9_weight_17 fl_RX9_12 lC_0 rfl ?_
    refine Ev.aload_n (pc := 20) dX9_weight_20 rfl ?_
    refine Ev.getR (pc := 21) dX9_weight_21 fl_RX9_12 lC_0 rfl ?_
    refine Ev.getR (pc := 24) dX9_weight_24 fl_RX9_46 lC_1 rfl ?_
    refine Ev.getI (pc := 27) dX9_weight_27 fl_RX9_99 lC_2 rfl ?_
    refine eBk h (fun q2 hq2 h => ?_)
    refine Ev.callV (pc := 30) (as := [.int (M.1 2 11)]) (st := []) (z := 0) dX9_weight_30 wc_X8_scalesAt ml_RX9_271 im_X8_scalesAt se_X8_scalesAt lC_1 rfl rfl (ev_X8_scalesAt (M.1 2 11) M _ hq2) rfl rfl (by decide) rfl rfl (Nat.le_of_ble_eq_true rfl) ?_
    refine Ev.getR (pc := 33) dX9_weight_33 fl_RX9_275 lC_55 rfl ?_
    refine Ev.iload_n (pc := 36) dX9_weight_36 rfl ?_
    obtain ⟨g9, h⟩ := eGdB h
    refine Ev.laldj (pc := 37) dX9_weight_37 (j := x1.toNatClampNeg) lC_56 g9 rfl ?_
    obtain rfl := Option.some.inj h
    exact Ev.lret (pc := 38) dX9_weight_38 rfl
  · have h := eT h c9
    refine Ev.aload_n (pc := 8) dX9_weight_8 rfl ?_
    refine Ev.ldc (pc := 9) dX9_weight_9 ld_RX9_41 ?_
    refine eBk h (fun q3 hq3 h => ?_)
    refine Ev.callV (pc := 11) (as := [.int (-1000001)]) (st := []) (z := 1) dX9_weight_11 wc_X9_found ml_RX9_42 im_X9_found se_X9_found lC_0 rfl rfl (ev_X9_found (-1000001) M _ hq3) rfl rfl (by decide) rfl rfl (Nat.le_of_ble_eq_true rfl) ?_
    refine Ev.i2l (pc := 14) dX9_weight_14 ?_
    obtain rfl := Option.some.inj h
    exact Ev.lret (pc := 15) dX9_weight_15 rfl
